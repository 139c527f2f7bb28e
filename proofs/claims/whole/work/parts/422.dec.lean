/-! methods walked by program (wip/whole/dec.py) -/
def nr_M_writes (v1 : Int) (v2 : Int) (v3 : Int) (M : mm_M) (R : Int → mm_M → Prop) : Prop := ∀ n, nn_L M → M.1 = n → mm_run 9 mi_M_writes [.inr (.inr 407), .inl v1, .inl v2, .inl v3] M (nw_I n R)
def nk_M_writes_109 (v1 : Int) (v2 : Int) (v3 : Int) (v4 : Int) (v5 : Int) (M : mm_M) (R : Int → mm_M → Prop) : Prop := ∀ n, nn_L M → M.1 = n → mm_Go (mm_run 8) mc_M_writes (nw_I n R) (109, [(0, .inr (.inr 407)), (1, .inl v1), (2, .inl v2), (3, .inl v3), (4, .inl v4), (5, .inl v5)], [], M)
def nk_M_writes_210 (v1 : Int) (v4 : Int) (v5 : Int) (M : mm_M) (R : Int → mm_M → Prop) : Prop := ∀ n, nn_L M → M.1 = n → mm_Go (mm_run 8) mc_M_writes (nw_I n R) (210, [(0, .inr (.inr 407)), (1, .inl v1), (4, .inl v4), (5, .inl v5)], [], M)
theorem ng_M_writes (v1 : Int) (v2 : Int) (v3 : Int) (M : mm_M) (R : Int → mm_M → Prop) (h : ((0 ≤ (mm_w (v1 + 0)) ∧ (mm_w (v1 + 0)) < 32844) ∧ ((0 ≤ (mm_w (v1 + 0)) ∧ (mm_w (v1 + 0)) < 32844) ∧ (∀ M11 : mm_M, M11 = nn_ui M 408 (mm_w (v1 + 0)) (mm_w ((nn_ri M 408 (mm_w (v1 + 0))) + 1)) → ((0 ≤ (mm_w (v1 + 1)) ∧ (mm_w (v1 + 1)) < 32844) ∧ (((nn_ri M11 408 (mm_w (v1 + 1))) ≠ 0 → ((0 ≤ (mm_w (v1 + 2)) ∧ (mm_w (v1 + 2)) < 32844) ∧ ((0 ≤ (mm_w (v1 + 2)) ∧ (mm_w (v1 + 2)) < 32844) ∧ (∀ M49 : mm_M, M49 = nn_ui M11 408 (mm_w (v1 + 2)) (nn_ri M11 408 (mm_w (v1 + 2))) → ((0 ≤ (mm_w (v1 + 1)) ∧ (mm_w (v1 + 1)) < 32844) ∧ ((0 ≤ (mm_w (v1 + 1)) ∧ (mm_w (v1 + 1)) < 32844) ∧ (∀ M61 : mm_M, M61 = nn_ui M49 408 (mm_w (v1 + 1)) (mm_w ((nn_ri M49 408 (mm_w (v1 + 1))) + 1)) → ((0 ≤ (mm_w (v1 + 0)) ∧ (mm_w (v1 + 0)) < 32844) ∧ ((0 ≤ (mm_w ((mm_w (v1 + 24)) + v2)) ∧ (mm_w ((mm_w (v1 + 24)) + v2)) < 32844) ∧ (∀ M80 : mm_M, M80 = nn_ui M61 408 (mm_w ((mm_w (v1 + 24)) + v2)) (nn_ri M61 408 (mm_w (v1 + 0))) → ((0 ≤ (mm_w ((mm_w ((mm_w (v1 + 24)) + 32)) + v2)) ∧ (mm_w ((mm_w ((mm_w (v1 + 24)) + 32)) + v2)) < 32844) ∧ (∀ M95 : mm_M, M95 = nn_ui M80 408 (mm_w ((mm_w ((mm_w (v1 + 24)) + 32)) + v2)) v3 → ((0 ≤ (mm_w (v1 + 0)) ∧ (mm_w (v1 + 0)) < 32844) ∧ (∀ x4_104 : Int, x4_104 = nn_ri M95 408 (mm_w (v1 + 0)) → nk_M_writes_109 v1 v2 v3 x4_104 0 M95 R)))))))))))))) ∧ ((nn_ri M11 408 (mm_w (v1 + 1))) = 0 → ((0 ≤ (mm_w (v1 + 0)) ∧ (mm_w (v1 + 0)) < 32844) ∧ ((0 ≤ (mm_w (v1 + 2)) ∧ (mm_w (v1 + 2)) < 32844) ∧ (∀ M49 : mm_M, M49 = nn_ui M11 408 (mm_w (v1 + 2)) (nn_ri M11 408 (mm_w (v1 + 0))) → ((0 ≤ (mm_w (v1 + 1)) ∧ (mm_w (v1 + 1)) < 32844) ∧ ((0 ≤ (mm_w (v1 + 1)) ∧ (mm_w (v1 + 1)) < 32844) ∧ (∀ M61 : mm_M, M61 = nn_ui M49 408 (mm_w (v1 + 1)) (mm_w ((nn_ri M49 408 (mm_w (v1 + 1))) + 1)) → ((0 ≤ (mm_w (v1 + 0)) ∧ (mm_w (v1 + 0)) < 32844) ∧ ((0 ≤ (mm_w ((mm_w (v1 + 24)) + v2)) ∧ (mm_w ((mm_w (v1 + 24)) + v2)) < 32844) ∧ (∀ M80 : mm_M, M80 = nn_ui M61 408 (mm_w ((mm_w (v1 + 24)) + v2)) (nn_ri M61 408 (mm_w (v1 + 0))) → ((0 ≤ (mm_w ((mm_w ((mm_w (v1 + 24)) + 32)) + v2)) ∧ (mm_w ((mm_w ((mm_w (v1 + 24)) + 32)) + v2)) < 32844) ∧ (∀ M95 : mm_M, M95 = nn_ui M80 408 (mm_w ((mm_w ((mm_w (v1 + 24)) + 32)) + v2)) v3 → ((0 ≤ (mm_w (v1 + 0)) ∧ (mm_w (v1 + 0)) < 32844) ∧ (∀ x4_104 : Int, x4_104 = nn_ri M95 408 (mm_w (v1 + 0)) → nk_M_writes_109 v1 v2 v3 x4_104 0 M95 R)))))))))))))))))))) : nr_M_writes v1 v2 v3 M R := by
  intro n L N 
  have NN := nn_L_n L N
  show mm_Go (mm_run 8) mc_M_writes _ (0, [(0, .inr (.inr 407)), (1, .inl v1), (2, .inl v2), (3, .inl v3)], [], M)
  refine mm_s1 rfl ?_
  refine nn_getr rfl (nn_c407 NN).1 (lf_13_0 L N (nn_c407 NN)) ?_
  refine mm_s1 rfl ?_
  refine mm_s1 rfl ?_
  refine mm_s1 rfl ?_
  show mm_Go (mm_run 8) mc_M_writes _ (7, [(0, .inr (.inr 407)), (1, .inl v1), (2, .inl v2), (3, .inl v3)], [.inl (mm_w (v1 + 0)), .inr (.inr 408)], M)
  refine mm_s1 rfl ?_
  obtain ⟨b8, h⟩ := h
  refine mm_s1 rfl ⟨nn_bd (na_13_0 NN (nn_c407 NN)) b8, ?_⟩
  show mm_Go (mm_run 8) mc_M_writes _ (9, [(0, .inr (.inr 407)), (1, .inl v1), (2, .inl v2), (3, .inl v3)], [.inl (nn_ri M 408 (mm_w (v1 + 0))), .inl (mm_w (v1 + 0)), .inr (.inr 408)], M)
  refine mm_s1 rfl ?_
  refine mm_s1 rfl ?_
  obtain ⟨b11, h⟩ := h
  refine mm_s1 rfl ⟨nn_bd (na_13_0 NN (nn_c407 NN)) b11, ?_⟩
  show mm_Go (mm_run 8) mc_M_writes _ (12, [(0, .inr (.inr 407)), (1, .inl v1), (2, .inl v2), (3, .inl v3)], [], (nn_ui M 408 (mm_w (v1 + 0)) (mm_w ((nn_ri M 408 (mm_w (v1 + 0))) + 1))))
  have L : nn_L (nn_ui M 408 (mm_w (v1 + 0)) (mm_w ((nn_ri M 408 (mm_w (v1 + 0))) + 1))) := nn_L_ua L (congrArg Prod.fst (na_13_0 NN (nn_c407 NN))) (by decide)
  have N : (nn_ui M 408 (mm_w (v1 + 0)) (mm_w ((nn_ri M 408 (mm_w (v1 + 0))) + 1))).1 = n := N
  replace h := h _ rfl
  generalize nn_ui M 408 (mm_w (v1 + 0)) (mm_w ((nn_ri M 408 (mm_w (v1 + 0))) + 1)) = M11 at h L N ⊢
  show mm_Go (mm_run 8) mc_M_writes _ (12, [(0, .inr (.inr 407)), (1, .inl v1), (2, .inl v2), (3, .inl v3)], [], M11)
  refine mm_s1 rfl ?_
  refine nn_getr rfl (nn_c407 NN).1 (lf_13_0 L N (nn_c407 NN)) ?_
  refine mm_s1 rfl ?_
  refine mm_s1 rfl ?_
  refine mm_s1 rfl ?_
  show mm_Go (mm_run 8) mc_M_writes _ (19, [(0, .inr (.inr 407)), (1, .inl v1), (2, .inl v2), (3, .inl v3)], [.inl (mm_w (v1 + 2)), .inr (.inr 408)], M11)
  refine mm_s1 rfl ?_
  refine nn_getr rfl (nn_c407 NN).1 (lf_13_0 L N (nn_c407 NN)) ?_
  refine mm_s1 rfl ?_
  refine mm_s1 rfl ?_
  refine mm_s1 rfl ?_
  show mm_Go (mm_run 8) mc_M_writes _ (26, [(0, .inr (.inr 407)), (1, .inl v1), (2, .inl v2), (3, .inl v3)], [.inl (mm_w (v1 + 1)), .inr (.inr 408), .inl (mm_w (v1 + 2)), .inr (.inr 408)], M11)
  obtain ⟨b26, h⟩ := h
  refine mm_s1 rfl ⟨nn_bd (na_13_0 NN (nn_c407 NN)) b26, ?_⟩
  show mm_Go (mm_run 8) mc_M_writes _ (27, [(0, .inr (.inr 407)), (1, .inl v1), (2, .inl v2), (3, .inl v3)], [.inl (nn_ri M11 408 (mm_w (v1 + 1))), .inl (mm_w (v1 + 2)), .inr (.inr 408)], M11)
  refine mm_s1 rfl ⟨fun c27 => ?_, fun c27 => ?_⟩
  · show mm_Go (mm_run 8) mc_M_writes _ (41, [(0, .inr (.inr 407)), (1, .inl v1), (2, .inl v2), (3, .inl v3)], [.inl (mm_w (v1 + 2)), .inr (.inr 408)], M11)
    replace h := h.1 c27
    refine mm_s1 rfl ?_
    refine nn_getr rfl (nn_c407 NN).1 (lf_13_0 L N (nn_c407 NN)) ?_
    refine mm_s1 rfl ?_
    refine mm_s1 rfl ?_
    refine mm_s1 rfl ?_
    show mm_Go (mm_run 8) mc_M_writes _ (48, [(0, .inr (.inr 407)), (1, .inl v1), (2, .inl v2), (3, .inl v3)], [.inl (mm_w (v1 + 2)), .inr (.inr 408), .inl (mm_w (v1 + 2)), .inr (.inr 408)], M11)
    obtain ⟨b48, h⟩ := h
    refine mm_s1 rfl ⟨nn_bd (na_13_0 NN (nn_c407 NN)) b48, ?_⟩
    show mm_Go (mm_run 8) mc_M_writes _ (49, [(0, .inr (.inr 407)), (1, .inl v1), (2, .inl v2), (3, .inl v3)], [.inl (nn_ri M11 408 (mm_w (v1 + 2))), .inl (mm_w (v1 + 2)), .inr (.inr 408)], M11)
    obtain ⟨b49, h⟩ := h
    refine mm_s1 rfl ⟨nn_bd (na_13_0 NN (nn_c407 NN)) b49, ?_⟩
    show mm_Go (mm_run 8) mc_M_writes _ (50, [(0, .inr (.inr 407)), (1, .inl v1), (2, .inl v2), (3, .inl v3)], [], (nn_ui M11 408 (mm_w (v1 + 2)) (nn_ri M11 408 (mm_w (v1 + 2)))))
    have L : nn_L (nn_ui M11 408 (mm_w (v1 + 2)) (nn_ri M11 408 (mm_w (v1 + 2)))) := nn_L_ua L (congrArg Prod.fst (na_13_0 NN (nn_c407 NN))) (by decide)
    have N : (nn_ui M11 408 (mm_w (v1 + 2)) (nn_ri M11 408 (mm_w (v1 + 2)))).1 = n := N
    replace h := h _ rfl
    generalize nn_ui M11 408 (mm_w (v1 + 2)) (nn_ri M11 408 (mm_w (v1 + 2))) = M49 at h L N ⊢
    show mm_Go (mm_run 8) mc_M_writes _ (50, [(0, .inr (.inr 407)), (1, .inl v1), (2, .inl v2), (3, .inl v3)], [], M49)
    refine mm_s1 rfl ?_
    refine nn_getr rfl (nn_c407 NN).1 (lf_13_0 L N (nn_c407 NN)) ?_
    refine mm_s1 rfl ?_
    refine mm_s1 rfl ?_
    refine mm_s1 rfl ?_
    show mm_Go (mm_run 8) mc_M_writes _ (57, [(0, .inr (.inr 407)), (1, .inl v1), (2, .inl v2), (3, .inl v3)], [.inl (mm_w (v1 + 1)), .inr (.inr 408)], M49)
    refine mm_s1 rfl ?_
    obtain ⟨b58, h⟩ := h
    refine mm_s1 rfl ⟨nn_bd (na_13_0 NN (nn_c407 NN)) b58, ?_⟩
    show mm_Go (mm_run 8) mc_M_writes _ (59, [(0, .inr (.inr 407)), (1, .inl v1), (2, .inl v2), (3, .inl v3)], [.inl (nn_ri M49 408 (mm_w (v1 + 1))), .inl (mm_w (v1 + 1)), .inr (.inr 408)], M49)
    refine mm_s1 rfl ?_
    refine mm_s1 rfl ?_
    obtain ⟨b61, h⟩ := h
    refine mm_s1 rfl ⟨nn_bd (na_13_0 NN (nn_c407 NN)) b61, ?_⟩
    show mm_Go (mm_run 8) mc_M_writes _ (62, [(0, .inr (.inr 407)), (1, .inl v1), (2, .inl v2), (3, .inl v3)], [], (nn_ui M49 408 (mm_w (v1 + 1)) (mm_w ((nn_ri M49 408 (mm_w (v1 + 1))) + 1))))
    have L : nn_L (nn_ui M49 408 (mm_w (v1 + 1)) (mm_w ((nn_ri M49 408 (mm_w (v1 + 1))) + 1))) := nn_L_ua L (congrArg Prod.fst (na_13_0 NN (nn_c407 NN))) (by decide)
    have N : (nn_ui M49 408 (mm_w (v1 + 1)) (mm_w ((nn_ri M49 408 (mm_w (v1 + 1))) + 1))).1 = n := N
    replace h := h _ rfl
    generalize nn_ui M49 408 (mm_w (v1 + 1)) (mm_w ((nn_ri M49 408 (mm_w (v1 + 1))) + 1)) = M61 at h L N ⊢
    show mm_Go (mm_run 8) mc_M_writes _ (62, [(0, .inr (.inr 407)), (1, .inl v1), (2, .inl v2), (3, .inl v3)], [], M61)
    refine mm_s1 rfl ?_
    refine nn_getr rfl (nn_c407 NN).1 (lf_13_0 L N (nn_c407 NN)) ?_
    refine mm_s1 rfl ?_
    refine mm_s1 rfl ?_
    refine mm_s1 rfl ?_
    show mm_Go (mm_run 8) mc_M_writes _ (70, [(0, .inr (.inr 407)), (1, .inl v1), (2, .inl v2), (3, .inl v3)], [.inl (mm_w (v1 + 24)), .inr (.inr 408)], M61)
    refine mm_s1 rfl ?_
    refine mm_s1 rfl ?_
    refine mm_s1 rfl ?_
    refine nn_getr rfl (nn_c407 NN).1 (lf_13_0 L N (nn_c407 NN)) ?_
    refine mm_s1 rfl ?_
    show mm_Go (mm_run 8) mc_M_writes _ (77, [(0, .inr (.inr 407)), (1, .inl v1), (2, .inl v2), (3, .inl v3)], [.inl v1, .inr (.inr 408), .inl (mm_w ((mm_w (v1 + 24)) + v2)), .inr (.inr 408)], M61)
    refine mm_s1 rfl ?_
    refine mm_s1 rfl ?_
    obtain ⟨b79, h⟩ := h
    refine mm_s1 rfl ⟨nn_bd (na_13_0 NN (nn_c407 NN)) b79, ?_⟩
    show mm_Go (mm_run 8) mc_M_writes _ (80, [(0, .inr (.inr 407)), (1, .inl v1), (2, .inl v2), (3, .inl v3)], [.inl (nn_ri M61 408 (mm_w (v1 + 0))), .inl (mm_w ((mm_w (v1 + 24)) + v2)), .inr (.inr 408)], M61)
    obtain ⟨b80, h⟩ := h
    refine mm_s1 rfl ⟨nn_bd (na_13_0 NN (nn_c407 NN)) b80, ?_⟩
    show mm_Go (mm_run 8) mc_M_writes _ (81, [(0, .inr (.inr 407)), (1, .inl v1), (2, .inl v2), (3, .inl v3)], [], (nn_ui M61 408 (mm_w ((mm_w (v1 + 24)) + v2)) (nn_ri M61 408 (mm_w (v1 + 0)))))
    have L : nn_L (nn_ui M61 408 (mm_w ((mm_w (v1 + 24)) + v2)) (nn_ri M61 408 (mm_w (v1 + 0)))) := nn_L_ua L (congrArg Prod.fst (na_13_0 NN (nn_c407 NN))) (by decide)
    have N : (nn_ui M61 408 (mm_w ((mm_w (v1 + 24)) + v2)) (nn_ri M61 408 (mm_w (v1 + 0)))).1 = n := N
    replace h := h _ rfl
    generalize nn_ui M61 408 (mm_w ((mm_w (v1 + 24)) + v2)) (nn_ri M61 408 (mm_w (v1 + 0))) = M80 at h L N ⊢
    show mm_Go (mm_run 8) mc_M_writes _ (81, [(0, .inr (.inr 407)), (1, .inl v1), (2, .inl v2), (3, .inl v3)], [], M80)
    refine mm_s1 rfl ?_
    refine nn_getr rfl (nn_c407 NN).1 (lf_13_0 L N (nn_c407 NN)) ?_
    refine mm_s1 rfl ?_
    refine mm_s1 rfl ?_
    refine mm_s1 rfl ?_
    show mm_Go (mm_run 8) mc_M_writes _ (89, [(0, .inr (.inr 407)), (1, .inl v1), (2, .inl v2), (3, .inl v3)], [.inl (mm_w (v1 + 24)), .inr (.inr 408)], M80)
    refine mm_s1 rfl ?_
    refine mm_s1 rfl ?_
    refine mm_s1 rfl ?_
    refine mm_s1 rfl ?_
    refine mm_s1 rfl ?_
    show mm_Go (mm_run 8) mc_M_writes _ (95, [(0, .inr (.inr 407)), (1, .inl v1), (2, .inl v2), (3, .inl v3)], [.inl v3, .inl (mm_w ((mm_w ((mm_w (v1 + 24)) + 32)) + v2)), .inr (.inr 408)], M80)
    obtain ⟨b95, h⟩ := h
    refine mm_s1 rfl ⟨nn_bd (na_13_0 NN (nn_c407 NN)) b95, ?_⟩
    show mm_Go (mm_run 8) mc_M_writes _ (96, [(0, .inr (.inr 407)), (1, .inl v1), (2, .inl v2), (3, .inl v3)], [], (nn_ui M80 408 (mm_w ((mm_w ((mm_w (v1 + 24)) + 32)) + v2)) v3))
    have L : nn_L (nn_ui M80 408 (mm_w ((mm_w ((mm_w (v1 + 24)) + 32)) + v2)) v3) := nn_L_ua L (congrArg Prod.fst (na_13_0 NN (nn_c407 NN))) (by decide)
    have N : (nn_ui M80 408 (mm_w ((mm_w ((mm_w (v1 + 24)) + 32)) + v2)) v3).1 = n := N
    replace h := h _ rfl
    generalize nn_ui M80 408 (mm_w ((mm_w ((mm_w (v1 + 24)) + 32)) + v2)) v3 = M95 at h L N ⊢
    show mm_Go (mm_run 8) mc_M_writes _ (96, [(0, .inr (.inr 407)), (1, .inl v1), (2, .inl v2), (3, .inl v3)], [], M95)
    refine mm_s1 rfl ?_
    refine nn_getr rfl (nn_c407 NN).1 (lf_13_0 L N (nn_c407 NN)) ?_
    refine mm_s1 rfl ?_
    refine mm_s1 rfl ?_
    refine mm_s1 rfl ?_
    show mm_Go (mm_run 8) mc_M_writes _ (103, [(0, .inr (.inr 407)), (1, .inl v1), (2, .inl v2), (3, .inl v3)], [.inl (mm_w (v1 + 0)), .inr (.inr 408)], M95)
    obtain ⟨b103, h⟩ := h
    refine mm_s1 rfl ⟨nn_bd (na_13_0 NN (nn_c407 NN)) b103, ?_⟩
    show mm_Go (mm_run 8) mc_M_writes _ (104, [(0, .inr (.inr 407)), (1, .inl v1), (2, .inl v2), (3, .inl v3)], [.inl (nn_ri M95 408 (mm_w (v1 + 0)))], M95)
    refine mm_s1 rfl ?_
    show mm_Go (mm_run 8) mc_M_writes _ (106, [(0, .inr (.inr 407)), (1, .inl v1), (2, .inl v2), (3, .inl v3), (4, .inl (nn_ri M95 408 (mm_w (v1 + 0))))], [], M95)
    replace h := h _ rfl
    generalize nn_ri M95 408 (mm_w (v1 + 0)) = x4_104 at h ⊢
    show mm_Go (mm_run 8) mc_M_writes _ (106, [(0, .inr (.inr 407)), (1, .inl v1), (2, .inl v2), (3, .inl v3), (4, .inl x4_104)], [], M95)
    refine mm_s1 rfl ?_
    refine mm_s1 rfl ?_
    show mm_Go (mm_run 8) mc_M_writes _ (109, [(0, .inr (.inr 407)), (1, .inl v1), (2, .inl v2), (3, .inl v3), (4, .inl x4_104), (5, .inl 0)], [], M95)
    exact nn_go_ext (nn_xc rfl (nn_xc rfl (nn_xc rfl (nn_xc rfl (nn_xc rfl (nn_xc rfl nn_xn)))))) (h n L N)
  · show mm_Go (mm_run 8) mc_M_writes _ (30, [(0, .inr (.inr 407)), (1, .inl v1), (2, .inl v2), (3, .inl v3)], [.inl (mm_w (v1 + 2)), .inr (.inr 408)], M11)
    replace c27 := Decidable.not_not.mp c27
    replace h := h.2 c27
    refine mm_s1 rfl ?_
    refine nn_getr rfl (nn_c407 NN).1 (lf_13_0 L N (nn_c407 NN)) ?_
    refine mm_s1 rfl ?_
    refine mm_s1 rfl ?_
    refine mm_s1 rfl ?_
    show mm_Go (mm_run 8) mc_M_writes _ (37, [(0, .inr (.inr 407)), (1, .inl v1), (2, .inl v2), (3, .inl v3)], [.inl (mm_w (v1 + 0)), .inr (.inr 408), .inl (mm_w (v1 + 2)), .inr (.inr 408)], M11)
    obtain ⟨b37, h⟩ := h
    refine mm_s1 rfl ⟨nn_bd (na_13_0 NN (nn_c407 NN)) b37, ?_⟩
    show mm_Go (mm_run 8) mc_M_writes _ (38, [(0, .inr (.inr 407)), (1, .inl v1), (2, .inl v2), (3, .inl v3)], [.inl (nn_ri M11 408 (mm_w (v1 + 0))), .inl (mm_w (v1 + 2)), .inr (.inr 408)], M11)
    refine mm_s1 rfl ?_
    show mm_Go (mm_run 8) mc_M_writes _ (49, [(0, .inr (.inr 407)), (1, .inl v1), (2, .inl v2), (3, .inl v3)], [.inl (nn_ri M11 408 (mm_w (v1 + 0))), .inl (mm_w (v1 + 2)), .inr (.inr 408)], M11)
    obtain ⟨b49, h⟩ := h
    refine mm_s1 rfl ⟨nn_bd (na_13_0 NN (nn_c407 NN)) b49, ?_⟩
    show mm_Go (mm_run 8) mc_M_writes _ (50, [(0, .inr (.inr 407)), (1, .inl v1), (2, .inl v2), (3, .inl v3)], [], (nn_ui M11 408 (mm_w (v1 + 2)) (nn_ri M11 408 (mm_w (v1 + 0)))))
    have L : nn_L (nn_ui M11 408 (mm_w (v1 + 2)) (nn_ri M11 408 (mm_w (v1 + 0)))) := nn_L_ua L (congrArg Prod.fst (na_13_0 NN (nn_c407 NN))) (by decide)
    have N : (nn_ui M11 408 (mm_w (v1 + 2)) (nn_ri M11 408 (mm_w (v1 + 0)))).1 = n := N
    replace h := h _ rfl
    generalize nn_ui M11 408 (mm_w (v1 + 2)) (nn_ri M11 408 (mm_w (v1 + 0))) = M49 at h L N ⊢
    show mm_Go (mm_run 8) mc_M_writes _ (50, [(0, .inr (.inr 407)), (1, .inl v1), (2, .inl v2), (3, .inl v3)], [], M49)
    refine mm_s1 rfl ?_
    refine nn_getr rfl (nn_c407 NN).1 (lf_13_0 L N (nn_c407 NN)) ?_
    refine mm_s1 rfl ?_
    refine mm_s1 rfl ?_
    refine mm_s1 rfl ?_
    show mm_Go (mm_run 8) mc_M_writes _ (57, [(0, .inr (.inr 407)), (1, .inl v1), (2, .inl v2), (3, .inl v3)], [.inl (mm_w (v1 + 1)), .inr (.inr 408)], M49)
    refine mm_s1 rfl ?_
    obtain ⟨b58, h⟩ := h
    refine mm_s1 rfl ⟨nn_bd (na_13_0 NN (nn_c407 NN)) b58, ?_⟩
    show mm_Go (mm_run 8) mc_M_writes _ (59, [(0, .inr (.inr 407)), (1, .inl v1), (2, .inl v2), (3, .inl v3)], [.inl (nn_ri M49 408 (mm_w (v1 + 1))), .inl (mm_w (v1 + 1)), .inr (.inr 408)], M49)
    refine mm_s1 rfl ?_
    refine mm_s1 rfl ?_
    obtain ⟨b61, h⟩ := h
    refine mm_s1 rfl ⟨nn_bd (na_13_0 NN (nn_c407 NN)) b61, ?_⟩
    show mm_Go (mm_run 8) mc_M_writes _ (62, [(0, .inr (.inr 407)), (1, .inl v1), (2, .inl v2), (3, .inl v3)], [], (nn_ui M49 408 (mm_w (v1 + 1)) (mm_w ((nn_ri M49 408 (mm_w (v1 + 1))) + 1))))
    have L : nn_L (nn_ui M49 408 (mm_w (v1 + 1)) (mm_w ((nn_ri M49 408 (mm_w (v1 + 1))) + 1))) := nn_L_ua L (congrArg Prod.fst (na_13_0 NN (nn_c407 NN))) (by decide)
    have N : (nn_ui M49 408 (mm_w (v1 + 1)) (mm_w ((nn_ri M49 408 (mm_w (v1 + 1))) + 1))).1 = n := N
    replace h := h _ rfl
    generalize nn_ui M49 408 (mm_w (v1 + 1)) (mm_w ((nn_ri M49 408 (mm_w (v1 + 1))) + 1)) = M61 at h L N ⊢
    show mm_Go (mm_run 8) mc_M_writes _ (62, [(0, .inr (.inr 407)), (1, .inl v1), (2, .inl v2), (3, .inl v3)], [], M61)
    refine mm_s1 rfl ?_
    refine nn_getr rfl (nn_c407 NN).1 (lf_13_0 L N (nn_c407 NN)) ?_
    refine mm_s1 rfl ?_
    refine mm_s1 rfl ?_
    refine mm_s1 rfl ?_
    show mm_Go (mm_run 8) mc_M_writes _ (70, [(0, .inr (.inr 407)), (1, .inl v1), (2, .inl v2), (3, .inl v3)], [.inl (mm_w (v1 + 24)), .inr (.inr 408)], M61)
    refine mm_s1 rfl ?_
    refine mm_s1 rfl ?_
    refine mm_s1 rfl ?_
    refine nn_getr rfl (nn_c407 NN).1 (lf_13_0 L N (nn_c407 NN)) ?_
    refine mm_s1 rfl ?_
    show mm_Go (mm_run 8) mc_M_writes _ (77, [(0, .inr (.inr 407)), (1, .inl v1), (2, .inl v2), (3, .inl v3)], [.inl v1, .inr (.inr 408), .inl (mm_w ((mm_w (v1 + 24)) + v2)), .inr (.inr 408)], M61)
    refine mm_s1 rfl ?_
    refine mm_s1 rfl ?_
    obtain ⟨b79, h⟩ := h
    refine mm_s1 rfl ⟨nn_bd (na_13_0 NN (nn_c407 NN)) b79, ?_⟩
    show mm_Go (mm_run 8) mc_M_writes _ (80, [(0, .inr (.inr 407)), (1, .inl v1), (2, .inl v2), (3, .inl v3)], [.inl (nn_ri M61 408 (mm_w (v1 + 0))), .inl (mm_w ((mm_w (v1 + 24)) + v2)), .inr (.inr 408)], M61)
    obtain ⟨b80, h⟩ := h
    refine mm_s1 rfl ⟨nn_bd (na_13_0 NN (nn_c407 NN)) b80, ?_⟩
    show mm_Go (mm_run 8) mc_M_writes _ (81, [(0, .inr (.inr 407)), (1, .inl v1), (2, .inl v2), (3, .inl v3)], [], (nn_ui M61 408 (mm_w ((mm_w (v1 + 24)) + v2)) (nn_ri M61 408 (mm_w (v1 + 0)))))
    have L : nn_L (nn_ui M61 408 (mm_w ((mm_w (v1 + 24)) + v2)) (nn_ri M61 408 (mm_w (v1 + 0)))) := nn_L_ua L (congrArg Prod.fst (na_13_0 NN (nn_c407 NN))) (by decide)
    have N : (nn_ui M61 408 (mm_w ((mm_w (v1 + 24)) + v2)) (nn_ri M61 408 (mm_w (v1 + 0)))).1 = n := N
    replace h := h _ rfl
    generalize nn_ui M61 408 (mm_w ((mm_w (v1 + 24)) + v2)) (nn_ri M61 408 (mm_w (v1 + 0))) = M80 at h L N ⊢
    show mm_Go (mm_run 8) mc_M_writes _ (81, [(0, .inr (.inr 407)), (1, .inl v1), (2, .inl v2), (3, .inl v3)], [], M80)
    refine mm_s1 rfl ?_
    refine nn_getr rfl (nn_c407 NN).1 (lf_13_0 L N (nn_c407 NN)) ?_
    refine mm_s1 rfl ?_
    refine mm_s1 rfl ?_
    refine mm_s1 rfl ?_
    show mm_Go (mm_run 8) mc_M_writes _ (89, [(0, .inr (.inr 407)), (1, .inl v1), (2, .inl v2), (3, .inl v3)], [.inl (mm_w (v1 + 24)), .inr (.inr 408)], M80)
    refine mm_s1 rfl ?_
    refine mm_s1 rfl ?_
    refine mm_s1 rfl ?_
    refine mm_s1 rfl ?_
    refine mm_s1 rfl ?_
    show mm_Go (mm_run 8) mc_M_writes _ (95, [(0, .inr (.inr 407)), (1, .inl v1), (2, .inl v2), (3, .inl v3)], [.inl v3, .inl (mm_w ((mm_w ((mm_w (v1 + 24)) + 32)) + v2)), .inr (.inr 408)], M80)
    obtain ⟨b95, h⟩ := h
    refine mm_s1 rfl ⟨nn_bd (na_13_0 NN (nn_c407 NN)) b95, ?_⟩
    show mm_Go (mm_run 8) mc_M_writes _ (96, [(0, .inr (.inr 407)), (1, .inl v1), (2, .inl v2), (3, .inl v3)], [], (nn_ui M80 408 (mm_w ((mm_w ((mm_w (v1 + 24)) + 32)) + v2)) v3))
    have L : nn_L (nn_ui M80 408 (mm_w ((mm_w ((mm_w (v1 + 24)) + 32)) + v2)) v3) := nn_L_ua L (congrArg Prod.fst (na_13_0 NN (nn_c407 NN))) (by decide)
    have N : (nn_ui M80 408 (mm_w ((mm_w ((mm_w (v1 + 24)) + 32)) + v2)) v3).1 = n := N
    replace h := h _ rfl
    generalize nn_ui M80 408 (mm_w ((mm_w ((mm_w (v1 + 24)) + 32)) + v2)) v3 = M95 at h L N ⊢
    show mm_Go (mm_run 8) mc_M_writes _ (96, [(0, .inr (.inr 407)), (1, .inl v1), (2, .inl v2), (3, .inl v3)], [], M95)
    refine mm_s1 rfl ?_
    refine nn_getr rfl (nn_c407 NN).1 (lf_13_0 L N (nn_c407 NN)) ?_
    refine mm_s1 rfl ?_
    refine mm_s1 rfl ?_
    refine mm_s1 rfl ?_
    show mm_Go (mm_run 8) mc_M_writes _ (103, [(0, .inr (.inr 407)), (1, .inl v1), (2, .inl v2), (3, .inl v3)], [.inl (mm_w (v1 + 0)), .inr (.inr 408)], M95)
    obtain ⟨b103, h⟩ := h
    refine mm_s1 rfl ⟨nn_bd (na_13_0 NN (nn_c407 NN)) b103, ?_⟩
    show mm_Go (mm_run 8) mc_M_writes _ (104, [(0, .inr (.inr 407)), (1, .inl v1), (2, .inl v2), (3, .inl v3)], [.inl (nn_ri M95 408 (mm_w (v1 + 0)))], M95)
    refine mm_s1 rfl ?_
    show mm_Go (mm_run 8) mc_M_writes _ (106, [(0, .inr (.inr 407)), (1, .inl v1), (2, .inl v2), (3, .inl v3), (4, .inl (nn_ri M95 408 (mm_w (v1 + 0))))], [], M95)
    replace h := h _ rfl
    generalize nn_ri M95 408 (mm_w (v1 + 0)) = x4_104 at h ⊢
    show mm_Go (mm_run 8) mc_M_writes _ (106, [(0, .inr (.inr 407)), (1, .inl v1), (2, .inl v2), (3, .inl v3), (4, .inl x4_104)], [], M95)
    refine mm_s1 rfl ?_
    refine mm_s1 rfl ?_
    show mm_Go (mm_run 8) mc_M_writes _ (109, [(0, .inr (.inr 407)), (1, .inl v1), (2, .inl v2), (3, .inl v3), (4, .inl x4_104), (5, .inl 0)], [], M95)
    exact nn_go_ext (nn_xc rfl (nn_xc rfl (nn_xc rfl (nn_xc rfl (nn_xc rfl (nn_xc rfl nn_xn)))))) (h n L N)
theorem ng_M_writes_109 (v1 : Int) (v2 : Int) (v3 : Int) (v4 : Int) (v5 : Int) (M : mm_M) (R : Int → mm_M → Prop) (h : ((4 ≤ v5 → ((0 ≤ (mm_w (v1 + 1)) ∧ (mm_w (v1 + 1)) < 32844) ∧ ((0 ≤ (mm_w (v1 + 3)) ∧ (mm_w (v1 + 3)) < 32844) ∧ (((nn_ri M 408 (mm_w (v1 + 1))) < (nn_ri M 408 (mm_w (v1 + 3))) → nk_M_writes_210 v1 v4 0 M R) ∧ ((nn_ri M 408 (mm_w (v1 + 3))) ≤ (nn_ri M 408 (mm_w (v1 + 1))) → (nr_M_flushes v1 M (fun r203 M203 => nk_M_writes_210 v1 v4 0 M203 R))))))) ∧ (v5 < 4 → ((0 ≤ (mm_w ((nf_M_at v1 v5) + 0)) ∧ (mm_w ((nf_M_at v1 v5) + 0)) < 32844) ∧ ((((nn_ri M 408 (mm_w ((nf_M_at v1 v5) + 0))) = 0 ∨ (v3 = (-1))) → nk_M_writes_109 v1 v2 v3 v4 (mm_w (v5 + 1)) M R) ∧ (((nn_ri M 408 (mm_w ((nf_M_at v1 v5) + 0))) ≠ 0 ∧ (v3 ≠ (-1))) → (nr_M_wants (nf_M_at v1 v5) v3 M (fun r144 M144 => ((r144 ≠ 0 → (nr_M_valueOf (nf_M_at v1 v5) v3 M144 (fun r161 M161 => (nr_M_adds (nf_M_at v1 v5) 0 r161 v2 v4 M161 (fun M167 => (nr_M_sorts (nf_M_at v1 v5) M167 (fun M173 => nk_M_writes_109 v1 v2 v3 v4 (mm_w (v5 + 1)) M173 R))))))) ∧ (r144 = 0 → nk_M_writes_109 v1 v2 v3 v4 (mm_w (v5 + 1)) M144 R)))))))))) : nk_M_writes_109 v1 v2 v3 v4 v5 M R := by
  intro n L N 
  have NN := nn_L_n L N
  show mm_Go (mm_run 8) mc_M_writes _ (109, [(0, .inr (.inr 407)), (1, .inl v1), (2, .inl v2), (3, .inl v3), (4, .inl v4), (5, .inl v5)], [], M)
  refine mm_s1 rfl ?_
  refine mm_s1 rfl ?_
  refine mm_s1 rfl ⟨fun c112 => ?_, fun c112 => ?_⟩
  · show mm_Go (mm_run 8) mc_M_writes _ (182, [(0, .inr (.inr 407)), (1, .inl v1), (2, .inl v2), (3, .inl v3), (4, .inl v4), (5, .inl v5)], [], M)
    replace h := h.1 c112
    refine mm_s1 rfl ?_
    refine nn_getr rfl (nn_c407 NN).1 (lf_13_0 L N (nn_c407 NN)) ?_
    refine mm_s1 rfl ?_
    refine mm_s1 rfl ?_
    refine mm_s1 rfl ?_
    show mm_Go (mm_run 8) mc_M_writes _ (189, [(0, .inr (.inr 407)), (1, .inl v1), (2, .inl v2), (3, .inl v3), (4, .inl v4), (5, .inl v5)], [.inl (mm_w (v1 + 1)), .inr (.inr 408)], M)
    obtain ⟨b189, h⟩ := h
    refine mm_s1 rfl ⟨nn_bd (na_13_0 NN (nn_c407 NN)) b189, ?_⟩
    show mm_Go (mm_run 8) mc_M_writes _ (190, [(0, .inr (.inr 407)), (1, .inl v1), (2, .inl v2), (3, .inl v3), (4, .inl v4), (5, .inl v5)], [.inl (nn_ri M 408 (mm_w (v1 + 1)))], M)
    refine mm_s1 rfl ?_
    refine nn_getr rfl (nn_c407 NN).1 (lf_13_0 L N (nn_c407 NN)) ?_
    refine mm_s1 rfl ?_
    refine mm_s1 rfl ?_
    refine mm_s1 rfl ?_
    show mm_Go (mm_run 8) mc_M_writes _ (197, [(0, .inr (.inr 407)), (1, .inl v1), (2, .inl v2), (3, .inl v3), (4, .inl v4), (5, .inl v5)], [.inl (mm_w (v1 + 3)), .inr (.inr 408), .inl (nn_ri M 408 (mm_w (v1 + 1)))], M)
    obtain ⟨b197, h⟩ := h
    refine mm_s1 rfl ⟨nn_bd (na_13_0 NN (nn_c407 NN)) b197, ?_⟩
    show mm_Go (mm_run 8) mc_M_writes _ (198, [(0, .inr (.inr 407)), (1, .inl v1), (2, .inl v2), (3, .inl v3), (4, .inl v4), (5, .inl v5)], [.inl (nn_ri M 408 (mm_w (v1 + 3))), .inl (nn_ri M 408 (mm_w (v1 + 1)))], M)
    refine mm_s1 rfl ⟨fun c198 => ?_, fun c198 => ?_⟩
    · show mm_Go (mm_run 8) mc_M_writes _ (207, [(0, .inr (.inr 407)), (1, .inl v1), (2, .inl v2), (3, .inl v3), (4, .inl v4), (5, .inl v5)], [], M)
      replace h := h.1 c198
      refine mm_s1 rfl ?_
      refine mm_s1 rfl ?_
      show mm_Go (mm_run 8) mc_M_writes _ (210, [(0, .inr (.inr 407)), (1, .inl v1), (2, .inl v2), (3, .inl v3), (4, .inl v4), (5, .inl 0)], [], M)
      exact nn_go_ext (nn_xc rfl (nn_xc rfl (nn_xc rfl (nn_xc rfl nn_xn)))) (h n L N)
    · show mm_Go (mm_run 8) mc_M_writes _ (201, [(0, .inr (.inr 407)), (1, .inl v1), (2, .inl v2), (3, .inl v3), (4, .inl v4), (5, .inl v5)], [], M)
      replace c198 := Int.not_lt.mp c198
      replace h := h.2 c198
      refine mm_s1 rfl ?_
      refine mm_s1 rfl ?_
      refine mm_s1 rfl ⟨(nn_c407 NN).1, ?_⟩
      refine nn_call (D := 8) (by decide) (h n L N) ?_
      intro v M203 q; clear L N h
      obtain ⟨r203, rfl, q203, L, N, h⟩ := q
      show mm_Go (mm_run 8) mc_M_writes _ (206, [(0, .inr (.inr 407)), (1, .inl v1), (2, .inl v2), (3, .inl v3), (4, .inl v4), (5, .inl v5)], [.inl r203], M203)
      refine mm_s1 rfl ?_
      refine mm_s1 rfl ?_
      refine mm_s1 rfl ?_
      show mm_Go (mm_run 8) mc_M_writes _ (210, [(0, .inr (.inr 407)), (1, .inl v1), (2, .inl v2), (3, .inl v3), (4, .inl v4), (5, .inl 0)], [], M203)
      exact nn_go_ext (nn_xc rfl (nn_xc rfl (nn_xc rfl (nn_xc rfl nn_xn)))) (h n L N)
  · show mm_Go (mm_run 8) mc_M_writes _ (115, [(0, .inr (.inr 407)), (1, .inl v1), (2, .inl v2), (3, .inl v3), (4, .inl v4), (5, .inl v5)], [], M)
    replace c112 := Int.not_le.mp c112
    replace h := h.2 c112
    refine mm_s1 rfl ?_
    refine mm_s1 rfl ?_
    refine mm_s1 rfl ⟨trivial, ?_⟩
    refine np_M_at (by decide) L N ?_
    show mm_Go (mm_run 8) mc_M_writes _ (121, [(0, .inr (.inr 407)), (1, .inl v1), (2, .inl v2), (3, .inl v3), (4, .inl v4), (5, .inl v5)], [.inl (nf_M_at v1 v5)], M)
    refine mm_s1 rfl ?_
    show mm_Go (mm_run 8) mc_M_writes _ (123, [(0, .inr (.inr 407)), (1, .inl v1), (2, .inl v2), (3, .inl v3), (4, .inl v4), (5, .inl v5), (6, .inl (nf_M_at v1 v5))], [], M)
    refine mm_s1 rfl ?_
    refine nn_getr rfl (nn_c407 NN).1 (lf_13_0 L N (nn_c407 NN)) ?_
    refine mm_s1 rfl ?_
    refine mm_s1 rfl ?_
    refine mm_s1 rfl ?_
    show mm_Go (mm_run 8) mc_M_writes _ (131, [(0, .inr (.inr 407)), (1, .inl v1), (2, .inl v2), (3, .inl v3), (4, .inl v4), (5, .inl v5), (6, .inl (nf_M_at v1 v5))], [.inl (mm_w ((nf_M_at v1 v5) + 0)), .inr (.inr 408)], M)
    obtain ⟨b131, h⟩ := h
    refine mm_s1 rfl ⟨nn_bd (na_13_0 NN (nn_c407 NN)) b131, ?_⟩
    show mm_Go (mm_run 8) mc_M_writes _ (132, [(0, .inr (.inr 407)), (1, .inl v1), (2, .inl v2), (3, .inl v3), (4, .inl v4), (5, .inl v5), (6, .inl (nf_M_at v1 v5))], [.inl (nn_ri M 408 (mm_w ((nf_M_at v1 v5) + 0)))], M)
    refine mm_s1 rfl ⟨fun c132 => ?_, fun c132 => ?_⟩
    · show mm_Go (mm_run 8) mc_M_writes _ (176, [(0, .inr (.inr 407)), (1, .inl v1), (2, .inl v2), (3, .inl v3), (4, .inl v4), (5, .inl v5), (6, .inl (nf_M_at v1 v5))], [], M)
      refine mm_s1 rfl ?_
      show mm_Go (mm_run 8) mc_M_writes _ (179, [(0, .inr (.inr 407)), (1, .inl v1), (2, .inl v2), (3, .inl v3), (4, .inl v4), (5, .inl (mm_w (v5 + 1))), (6, .inl (nf_M_at v1 v5))], [], M)
      refine mm_s1 rfl ?_
      show mm_Go (mm_run 8) mc_M_writes _ (109, [(0, .inr (.inr 407)), (1, .inl v1), (2, .inl v2), (3, .inl v3), (4, .inl v4), (5, .inl (mm_w (v5 + 1))), (6, .inl (nf_M_at v1 v5))], [], M)
      replace h := h.1 (Or.inl c132)
      exact nn_go_ext (nn_xc rfl (nn_xc rfl (nn_xc rfl (nn_xc rfl (nn_xc rfl (nn_xc rfl nn_xn)))))) (h n L N)
    · show mm_Go (mm_run 8) mc_M_writes _ (135, [(0, .inr (.inr 407)), (1, .inl v1), (2, .inl v2), (3, .inl v3), (4, .inl v4), (5, .inl v5), (6, .inl (nf_M_at v1 v5))], [], M)
      refine mm_s1 rfl ?_
      refine mm_s1 rfl ?_
      refine mm_s1 rfl ⟨fun c137 => ?_, fun c137 => ?_⟩
      · show mm_Go (mm_run 8) mc_M_writes _ (176, [(0, .inr (.inr 407)), (1, .inl v1), (2, .inl v2), (3, .inl v3), (4, .inl v4), (5, .inl v5), (6, .inl (nf_M_at v1 v5))], [], M)
        refine mm_s1 rfl ?_
        show mm_Go (mm_run 8) mc_M_writes _ (179, [(0, .inr (.inr 407)), (1, .inl v1), (2, .inl v2), (3, .inl v3), (4, .inl v4), (5, .inl (mm_w (v5 + 1))), (6, .inl (nf_M_at v1 v5))], [], M)
        refine mm_s1 rfl ?_
        show mm_Go (mm_run 8) mc_M_writes _ (109, [(0, .inr (.inr 407)), (1, .inl v1), (2, .inl v2), (3, .inl v3), (4, .inl v4), (5, .inl (mm_w (v5 + 1))), (6, .inl (nf_M_at v1 v5))], [], M)
        replace h := h.1 (Or.inr c137)
        exact nn_go_ext (nn_xc rfl (nn_xc rfl (nn_xc rfl (nn_xc rfl (nn_xc rfl (nn_xc rfl nn_xn)))))) (h n L N)
      · show mm_Go (mm_run 8) mc_M_writes _ (140, [(0, .inr (.inr 407)), (1, .inl v1), (2, .inl v2), (3, .inl v3), (4, .inl v4), (5, .inl v5), (6, .inl (nf_M_at v1 v5))], [], M)
        refine mm_s1 rfl ?_
        refine mm_s1 rfl ?_
        refine mm_s1 rfl ?_
        replace h := h.2 ⟨c132, c137⟩
        refine mm_s1 rfl ⟨(nn_c407 NN).1, ?_⟩
        refine nn_call (D := 3) (by decide) (h n L N) ?_
        intro v M144 q; clear L N h
        obtain ⟨r144, rfl, q144, L, N, h⟩ := q
        show mm_Go (mm_run 8) mc_M_writes _ (147, [(0, .inr (.inr 407)), (1, .inl v1), (2, .inl v2), (3, .inl v3), (4, .inl v4), (5, .inl v5), (6, .inl (nf_M_at v1 v5))], [.inl r144], M144)
        refine mm_s1 rfl ⟨fun c147 => ?_, fun c147 => ?_⟩
        · show mm_Go (mm_run 8) mc_M_writes _ (153, [(0, .inr (.inr 407)), (1, .inl v1), (2, .inl v2), (3, .inl v3), (4, .inl v4), (5, .inl v5), (6, .inl (nf_M_at v1 v5))], [], M144)
          replace h := h.1 c147
          refine mm_s1 rfl ?_
          refine mm_s1 rfl ?_
          refine mm_s1 rfl ?_
          refine mm_s1 rfl ?_
          refine mm_s1 rfl ?_
          show mm_Go (mm_run 8) mc_M_writes _ (160, [(0, .inr (.inr 407)), (1, .inl v1), (2, .inl v2), (3, .inl v3), (4, .inl v4), (5, .inl v5), (6, .inl (nf_M_at v1 v5))], [.inl (nf_M_at v1 v5), .inr (.inr 407), .inl 0, .inl (nf_M_at v1 v5), .inr (.inr 407)], M144)
          refine mm_s1 rfl ?_
          refine mm_s1 rfl ⟨(nn_c407 NN).1, ?_⟩
          refine nn_call (D := 3) (by decide) (h n L N) ?_
          intro v M161 q; clear L N h
          obtain ⟨r161, rfl, L, N, h⟩ := q
          show mm_Go (mm_run 8) mc_M_writes _ (164, [(0, .inr (.inr 407)), (1, .inl v1), (2, .inl v2), (3, .inl v3), (4, .inl v4), (5, .inl v5), (6, .inl (nf_M_at v1 v5))], [.inl r161, .inl 0, .inl (nf_M_at v1 v5), .inr (.inr 407)], M161)
          refine mm_s1 rfl ?_
          refine mm_s1 rfl ?_
          refine mm_s1 rfl ⟨(nn_c407 NN).1, ?_⟩
          refine nn_call (D := 2) (by decide) (h n L N) ?_
          intro v M167 q; clear L N h
          obtain ⟨rfl, L, N, h⟩ := q
          show mm_Go (mm_run 8) mc_M_writes _ (170, [(0, .inr (.inr 407)), (1, .inl v1), (2, .inl v2), (3, .inl v3), (4, .inl v4), (5, .inl v5), (6, .inl (nf_M_at v1 v5))], [], M167)
          refine mm_s1 rfl ?_
          refine mm_s1 rfl ?_
          refine mm_s1 rfl ⟨(nn_c407 NN).1, ?_⟩
          refine nn_call (D := 2) (by decide) (h n L N) ?_
          intro v M173 q; clear L N h
          obtain ⟨rfl, L, N, h⟩ := q
          show mm_Go (mm_run 8) mc_M_writes _ (176, [(0, .inr (.inr 407)), (1, .inl v1), (2, .inl v2), (3, .inl v3), (4, .inl v4), (5, .inl v5), (6, .inl (nf_M_at v1 v5))], [], M173)
          refine mm_s1 rfl ?_
          show mm_Go (mm_run 8) mc_M_writes _ (179, [(0, .inr (.inr 407)), (1, .inl v1), (2, .inl v2), (3, .inl v3), (4, .inl v4), (5, .inl (mm_w (v5 + 1))), (6, .inl (nf_M_at v1 v5))], [], M173)
          refine mm_s1 rfl ?_
          show mm_Go (mm_run 8) mc_M_writes _ (109, [(0, .inr (.inr 407)), (1, .inl v1), (2, .inl v2), (3, .inl v3), (4, .inl v4), (5, .inl (mm_w (v5 + 1))), (6, .inl (nf_M_at v1 v5))], [], M173)
          exact nn_go_ext (nn_xc rfl (nn_xc rfl (nn_xc rfl (nn_xc rfl (nn_xc rfl (nn_xc rfl nn_xn)))))) (h n L N)
        · show mm_Go (mm_run 8) mc_M_writes _ (150, [(0, .inr (.inr 407)), (1, .inl v1), (2, .inl v2), (3, .inl v3), (4, .inl v4), (5, .inl v5), (6, .inl (nf_M_at v1 v5))], [], M144)
          replace c147 := Decidable.not_not.mp c147
          replace h := h.2 c147
          refine mm_s1 rfl ?_
          show mm_Go (mm_run 8) mc_M_writes _ (176, [(0, .inr (.inr 407)), (1, .inl v1), (2, .inl v2), (3, .inl v3), (4, .inl v4), (5, .inl v5), (6, .inl (nf_M_at v1 v5))], [], M144)
          refine mm_s1 rfl ?_
          show mm_Go (mm_run 8) mc_M_writes _ (179, [(0, .inr (.inr 407)), (1, .inl v1), (2, .inl v2), (3, .inl v3), (4, .inl v4), (5, .inl (mm_w (v5 + 1))), (6, .inl (nf_M_at v1 v5))], [], M144)
          refine mm_s1 rfl ?_
          show mm_Go (mm_run 8) mc_M_writes _ (109, [(0, .inr (.inr 407)), (1, .inl v1), (2, .inl v2), (3, .inl v3), (4, .inl v4), (5, .inl (mm_w (v5 + 1))), (6, .inl (nf_M_at v1 v5))], [], M144)
          exact nn_go_ext (nn_xc rfl (nn_xc rfl (nn_xc rfl (nn_xc rfl (nn_xc rfl (nn_xc rfl nn_xn)))))) (h n L N)
theorem ng_M_writes_210 (v1 : Int) (v4 : Int) (v5 : Int) (M : mm_M) (R : Int → mm_M → Prop) (h : ((4 ≤ v5 → R v4 M) ∧ (v5 < 4 → ((0 ≤ (mm_w ((nf_M_at v1 v5) + 0)) ∧ (mm_w ((nf_M_at v1 v5) + 0)) < 32844) ∧ (((0 < (nn_ri M 408 (mm_w ((nf_M_at v1 v5) + 0)))) → (0 ≤ (mm_w ((nf_M_at v1 v5) + 6)) ∧ (mm_w ((nf_M_at v1 v5) + 6)) < 32844)) ∧ ((((nn_ri M 408 (mm_w ((nf_M_at v1 v5) + 0))) ≤ 0 ∧ (0 = 0)) ∨ (0 < (nn_ri M 408 (mm_w ((nf_M_at v1 v5) + 0))) ∧ (((nn_ri M 408 (mm_w ((nf_M_at v1 v5) + 6))) ≤ 96 ∧ (0 = 0)) ∨ (96 < (nn_ri M 408 (mm_w ((nf_M_at v1 v5) + 6))) ∧ (1 = 0))))) → nk_M_writes_210 v1 v4 (mm_w (v5 + 1)) M R) ∧ ((((nn_ri M 408 (mm_w ((nf_M_at v1 v5) + 0))) ≤ 0 ∧ (0 ≠ 0)) ∨ (0 < (nn_ri M 408 (mm_w ((nf_M_at v1 v5) + 0))) ∧ (((nn_ri M 408 (mm_w ((nf_M_at v1 v5) + 6))) ≤ 96 ∧ (0 ≠ 0)) ∨ (96 < (nn_ri M 408 (mm_w ((nf_M_at v1 v5) + 6))) ∧ (1 ≠ 0))))) → (nr_M_repairs v1 v5 M (fun r267 M267 => nk_M_writes_210 v1 v4 (mm_w (v5 + 1)) M267 R)))))))) : nk_M_writes_210 v1 v4 v5 M R := by
  intro n L N 
  have NN := nn_L_n L N
  show mm_Go (mm_run 8) mc_M_writes _ (210, [(0, .inr (.inr 407)), (1, .inl v1), (4, .inl v4), (5, .inl v5)], [], M)
  refine mm_s1 rfl ?_
  refine mm_s1 rfl ?_
  refine mm_s1 rfl ⟨fun c213 => ?_, fun c213 => ?_⟩
  · show mm_Go (mm_run 8) mc_M_writes _ (282, [(0, .inr (.inr 407)), (1, .inl v1), (4, .inl v4), (5, .inl v5)], [], M)
    replace h := h.1 c213
    refine mm_s1 rfl ?_
    exact mm_s1 rfl ⟨_, rfl, L, N, h⟩
  · show mm_Go (mm_run 8) mc_M_writes _ (216, [(0, .inr (.inr 407)), (1, .inl v1), (4, .inl v4), (5, .inl v5)], [], M)
    replace c213 := Int.not_le.mp c213
    replace h := h.2 c213
    refine mm_s1 rfl ?_
    refine nn_getr rfl (nn_c407 NN).1 (lf_13_0 L N (nn_c407 NN)) ?_
    refine mm_s1 rfl ?_
    refine mm_s1 rfl ?_
    refine mm_s1 rfl ⟨trivial, ?_⟩
    refine np_M_at (by decide) L N ?_
    show mm_Go (mm_run 8) mc_M_writes _ (226, [(0, .inr (.inr 407)), (1, .inl v1), (4, .inl v4), (5, .inl v5)], [.inl (nf_M_at v1 v5), .inr (.inr 408)], M)
    refine mm_s1 rfl ?_
    refine mm_s1 rfl ?_
    obtain ⟨b228, h⟩ := h
    refine mm_s1 rfl ⟨nn_bd (na_13_0 NN (nn_c407 NN)) b228, ?_⟩
    show mm_Go (mm_run 8) mc_M_writes _ (229, [(0, .inr (.inr 407)), (1, .inl v1), (4, .inl v4), (5, .inl v5)], [.inl (nn_ri M 408 (mm_w ((nf_M_at v1 v5) + 0)))], M)
    refine mm_s1 rfl ⟨fun c229 => ?_, fun c229 => ?_⟩
    · show mm_Go (mm_run 8) mc_M_writes _ (255, [(0, .inr (.inr 407)), (1, .inl v1), (4, .inl v4), (5, .inl v5)], [], M)
      refine mm_s1 rfl ?_
      refine mm_s1 rfl ?_
      show mm_Go (mm_run 8) mc_M_writes _ (258, [(0, .inr (.inr 407)), (1, .inl v1), (4, .inl v4), (5, .inl v5), (6, .inl 0)], [], M)
      refine mm_s1 rfl ?_
      refine mm_s1 rfl ⟨fun c260 => ?_, fun c260 => ?_⟩
      · show mm_Go (mm_run 8) mc_M_writes _ (273, [(0, .inr (.inr 407)), (1, .inl v1), (4, .inl v4), (5, .inl v5), (6, .inl 0)], [], M)
        refine mm_s1 rfl ?_
        refine mm_s1 rfl ?_
        show mm_Go (mm_run 8) mc_M_writes _ (276, [(0, .inr (.inr 407)), (1, .inl v1), (4, .inl v4), (5, .inl v5), (6, .inl 0), (7, .inl 0)], [], M)
        refine mm_s1 rfl ?_
        show mm_Go (mm_run 8) mc_M_writes _ (279, [(0, .inr (.inr 407)), (1, .inl v1), (4, .inl v4), (5, .inl (mm_w (v5 + 1))), (6, .inl 0), (7, .inl 0)], [], M)
        refine mm_s1 rfl ?_
        show mm_Go (mm_run 8) mc_M_writes _ (210, [(0, .inr (.inr 407)), (1, .inl v1), (4, .inl v4), (5, .inl (mm_w (v5 + 1))), (6, .inl 0), (7, .inl 0)], [], M)
        replace h := h.2.1 (Or.inl ⟨c229, c260⟩)
        exact nn_go_ext (nn_xc rfl (nn_xc rfl (nn_xc rfl (nn_xc rfl nn_xn)))) (h n L N)
      · show mm_Go (mm_run 8) mc_M_writes _ (263, [(0, .inr (.inr 407)), (1, .inl v1), (4, .inl v4), (5, .inl v5), (6, .inl 0)], [], M)
        refine mm_s1 rfl ?_
        refine mm_s1 rfl ?_
        refine mm_s1 rfl ?_
        replace h := h.2.2 (Or.inl ⟨c229, c260⟩)
        refine mm_s1 rfl ⟨(nn_c407 NN).1, ?_⟩
        refine nn_call (D := 5) (by decide) (h n L N) ?_
        intro v M267 q; clear L N h
        obtain ⟨r267, rfl, L, N, h⟩ := q
        show mm_Go (mm_run 8) mc_M_writes _ (270, [(0, .inr (.inr 407)), (1, .inl v1), (4, .inl v4), (5, .inl v5), (6, .inl 0)], [.inl r267], M267)
        refine mm_s1 rfl ?_
        show mm_Go (mm_run 8) mc_M_writes _ (274, [(0, .inr (.inr 407)), (1, .inl v1), (4, .inl v4), (5, .inl v5), (6, .inl 0)], [.inl r267], M267)
        refine mm_s1 rfl ?_
        show mm_Go (mm_run 8) mc_M_writes _ (276, [(0, .inr (.inr 407)), (1, .inl v1), (4, .inl v4), (5, .inl v5), (6, .inl 0), (7, .inl r267)], [], M267)
        refine mm_s1 rfl ?_
        show mm_Go (mm_run 8) mc_M_writes _ (279, [(0, .inr (.inr 407)), (1, .inl v1), (4, .inl v4), (5, .inl (mm_w (v5 + 1))), (6, .inl 0), (7, .inl r267)], [], M267)
        refine mm_s1 rfl ?_
        show mm_Go (mm_run 8) mc_M_writes _ (210, [(0, .inr (.inr 407)), (1, .inl v1), (4, .inl v4), (5, .inl (mm_w (v5 + 1))), (6, .inl 0), (7, .inl r267)], [], M267)
        exact nn_go_ext (nn_xc rfl (nn_xc rfl (nn_xc rfl (nn_xc rfl nn_xn)))) (h n L N)
    · show mm_Go (mm_run 8) mc_M_writes _ (232, [(0, .inr (.inr 407)), (1, .inl v1), (4, .inl v4), (5, .inl v5)], [], M)
      replace c229 := Int.not_le.mp c229
      refine mm_s1 rfl ?_
      refine nn_getr rfl (nn_c407 NN).1 (lf_13_0 L N (nn_c407 NN)) ?_
      refine mm_s1 rfl ?_
      refine mm_s1 rfl ?_
      refine mm_s1 rfl ⟨trivial, ?_⟩
      refine np_M_at (by decide) L N ?_
      show mm_Go (mm_run 8) mc_M_writes _ (242, [(0, .inr (.inr 407)), (1, .inl v1), (4, .inl v4), (5, .inl v5)], [.inl (nf_M_at v1 v5), .inr (.inr 408)], M)
      refine mm_s1 rfl ?_
      refine mm_s1 rfl ?_
      have b245 := h.1 c229
      refine mm_s1 rfl ⟨nn_bd (na_13_0 NN (nn_c407 NN)) b245, ?_⟩
      show mm_Go (mm_run 8) mc_M_writes _ (246, [(0, .inr (.inr 407)), (1, .inl v1), (4, .inl v4), (5, .inl v5)], [.inl (nn_ri M 408 (mm_w ((nf_M_at v1 v5) + 6)))], M)
      refine mm_s1 rfl ?_
      refine mm_s1 rfl ⟨fun c248 => ?_, fun c248 => ?_⟩
      · show mm_Go (mm_run 8) mc_M_writes _ (255, [(0, .inr (.inr 407)), (1, .inl v1), (4, .inl v4), (5, .inl v5)], [], M)
        refine mm_s1 rfl ?_
        refine mm_s1 rfl ?_
        show mm_Go (mm_run 8) mc_M_writes _ (258, [(0, .inr (.inr 407)), (1, .inl v1), (4, .inl v4), (5, .inl v5), (6, .inl 0)], [], M)
        refine mm_s1 rfl ?_
        refine mm_s1 rfl ⟨fun c260 => ?_, fun c260 => ?_⟩
        · show mm_Go (mm_run 8) mc_M_writes _ (273, [(0, .inr (.inr 407)), (1, .inl v1), (4, .inl v4), (5, .inl v5), (6, .inl 0)], [], M)
          refine mm_s1 rfl ?_
          refine mm_s1 rfl ?_
          show mm_Go (mm_run 8) mc_M_writes _ (276, [(0, .inr (.inr 407)), (1, .inl v1), (4, .inl v4), (5, .inl v5), (6, .inl 0), (7, .inl 0)], [], M)
          refine mm_s1 rfl ?_
          show mm_Go (mm_run 8) mc_M_writes _ (279, [(0, .inr (.inr 407)), (1, .inl v1), (4, .inl v4), (5, .inl (mm_w (v5 + 1))), (6, .inl 0), (7, .inl 0)], [], M)
          refine mm_s1 rfl ?_
          show mm_Go (mm_run 8) mc_M_writes _ (210, [(0, .inr (.inr 407)), (1, .inl v1), (4, .inl v4), (5, .inl (mm_w (v5 + 1))), (6, .inl 0), (7, .inl 0)], [], M)
          replace h := h.2.1 (Or.inr ⟨c229, (Or.inl ⟨c248, c260⟩)⟩)
          exact nn_go_ext (nn_xc rfl (nn_xc rfl (nn_xc rfl (nn_xc rfl nn_xn)))) (h n L N)
        · show mm_Go (mm_run 8) mc_M_writes _ (263, [(0, .inr (.inr 407)), (1, .inl v1), (4, .inl v4), (5, .inl v5), (6, .inl 0)], [], M)
          refine mm_s1 rfl ?_
          refine mm_s1 rfl ?_
          refine mm_s1 rfl ?_
          replace h := h.2.2 (Or.inr ⟨c229, (Or.inl ⟨c248, c260⟩)⟩)
          refine mm_s1 rfl ⟨(nn_c407 NN).1, ?_⟩
          refine nn_call (D := 5) (by decide) (h n L N) ?_
          intro v M267 q; clear L N h
          obtain ⟨r267, rfl, L, N, h⟩ := q
          show mm_Go (mm_run 8) mc_M_writes _ (270, [(0, .inr (.inr 407)), (1, .inl v1), (4, .inl v4), (5, .inl v5), (6, .inl 0)], [.inl r267], M267)
          refine mm_s1 rfl ?_
          show mm_Go (mm_run 8) mc_M_writes _ (274, [(0, .inr (.inr 407)), (1, .inl v1), (4, .inl v4), (5, .inl v5), (6, .inl 0)], [.inl r267], M267)
          refine mm_s1 rfl ?_
          show mm_Go (mm_run 8) mc_M_writes _ (276, [(0, .inr (.inr 407)), (1, .inl v1), (4, .inl v4), (5, .inl v5), (6, .inl 0), (7, .inl r267)], [], M267)
          refine mm_s1 rfl ?_
          show mm_Go (mm_run 8) mc_M_writes _ (279, [(0, .inr (.inr 407)), (1, .inl v1), (4, .inl v4), (5, .inl (mm_w (v5 + 1))), (6, .inl 0), (7, .inl r267)], [], M267)
          refine mm_s1 rfl ?_
          show mm_Go (mm_run 8) mc_M_writes _ (210, [(0, .inr (.inr 407)), (1, .inl v1), (4, .inl v4), (5, .inl (mm_w (v5 + 1))), (6, .inl 0), (7, .inl r267)], [], M267)
          exact nn_go_ext (nn_xc rfl (nn_xc rfl (nn_xc rfl (nn_xc rfl nn_xn)))) (h n L N)
      · show mm_Go (mm_run 8) mc_M_writes _ (251, [(0, .inr (.inr 407)), (1, .inl v1), (4, .inl v4), (5, .inl v5)], [], M)
        replace c248 := Int.not_le.mp c248
        refine mm_s1 rfl ?_
        refine mm_s1 rfl ?_
        show mm_Go (mm_run 8) mc_M_writes _ (256, [(0, .inr (.inr 407)), (1, .inl v1), (4, .inl v4), (5, .inl v5)], [.inl 1], M)
        refine mm_s1 rfl ?_
        show mm_Go (mm_run 8) mc_M_writes _ (258, [(0, .inr (.inr 407)), (1, .inl v1), (4, .inl v4), (5, .inl v5), (6, .inl 1)], [], M)
        refine mm_s1 rfl ?_
        refine mm_s1 rfl ⟨fun c260 => ?_, fun c260 => ?_⟩
        · show mm_Go (mm_run 8) mc_M_writes _ (273, [(0, .inr (.inr 407)), (1, .inl v1), (4, .inl v4), (5, .inl v5), (6, .inl 1)], [], M)
          refine mm_s1 rfl ?_
          refine mm_s1 rfl ?_
          show mm_Go (mm_run 8) mc_M_writes _ (276, [(0, .inr (.inr 407)), (1, .inl v1), (4, .inl v4), (5, .inl v5), (6, .inl 1), (7, .inl 0)], [], M)
          refine mm_s1 rfl ?_
          show mm_Go (mm_run 8) mc_M_writes _ (279, [(0, .inr (.inr 407)), (1, .inl v1), (4, .inl v4), (5, .inl (mm_w (v5 + 1))), (6, .inl 1), (7, .inl 0)], [], M)
          refine mm_s1 rfl ?_
          show mm_Go (mm_run 8) mc_M_writes _ (210, [(0, .inr (.inr 407)), (1, .inl v1), (4, .inl v4), (5, .inl (mm_w (v5 + 1))), (6, .inl 1), (7, .inl 0)], [], M)
          replace h := h.2.1 (Or.inr ⟨c229, (Or.inr ⟨c248, c260⟩)⟩)
          exact nn_go_ext (nn_xc rfl (nn_xc rfl (nn_xc rfl (nn_xc rfl nn_xn)))) (h n L N)
        · show mm_Go (mm_run 8) mc_M_writes _ (263, [(0, .inr (.inr 407)), (1, .inl v1), (4, .inl v4), (5, .inl v5), (6, .inl 1)], [], M)
          refine mm_s1 rfl ?_
          refine mm_s1 rfl ?_
          refine mm_s1 rfl ?_
          replace h := h.2.2 (Or.inr ⟨c229, (Or.inr ⟨c248, c260⟩)⟩)
          refine mm_s1 rfl ⟨(nn_c407 NN).1, ?_⟩
          refine nn_call (D := 5) (by decide) (h n L N) ?_
          intro v M267 q; clear L N h
          obtain ⟨r267, rfl, L, N, h⟩ := q
          show mm_Go (mm_run 8) mc_M_writes _ (270, [(0, .inr (.inr 407)), (1, .inl v1), (4, .inl v4), (5, .inl v5), (6, .inl 1)], [.inl r267], M267)
          refine mm_s1 rfl ?_
          show mm_Go (mm_run 8) mc_M_writes _ (274, [(0, .inr (.inr 407)), (1, .inl v1), (4, .inl v4), (5, .inl v5), (6, .inl 1)], [.inl r267], M267)
          refine mm_s1 rfl ?_
          show mm_Go (mm_run 8) mc_M_writes _ (276, [(0, .inr (.inr 407)), (1, .inl v1), (4, .inl v4), (5, .inl v5), (6, .inl 1), (7, .inl r267)], [], M267)
          refine mm_s1 rfl ?_
          show mm_Go (mm_run 8) mc_M_writes _ (279, [(0, .inr (.inr 407)), (1, .inl v1), (4, .inl v4), (5, .inl (mm_w (v5 + 1))), (6, .inl 1), (7, .inl r267)], [], M267)
          refine mm_s1 rfl ?_
          show mm_Go (mm_run 8) mc_M_writes _ (210, [(0, .inr (.inr 407)), (1, .inl v1), (4, .inl v4), (5, .inl (mm_w (v5 + 1))), (6, .inl 1), (7, .inl r267)], [], M267)
          exact nn_go_ext (nn_xc rfl (nn_xc rfl (nn_xc rfl (nn_xc rfl nn_xn)))) (h n L N)
def nr_M_flush  (M : mm_M) (R : Int → mm_M → Prop) : Prop := ∀ n, nn_L M → M.1 = n → mm_run 9 mi_M_flush [.inr (.inr 407)] M (nw_Z n R)
theorem ng_M_flush  (M : mm_M) (R : Int → mm_M → Prop) (h : (nr_M_flushes 0 M (fun r2 M2 => R r2 M2))) : nr_M_flush  M R := by
  intro n L N 
  have NN := nn_L_n L N
  show mm_Go (mm_run 8) mc_M_flush _ (0, [(0, .inr (.inr 407))], [], M)
  refine mm_s1 rfl ?_
  refine mm_s1 rfl ?_
  refine mm_s1 rfl ⟨(nn_c407 NN).1, ?_⟩
  refine nn_call (D := 8) (by decide) (h n L N) ?_
  intro v M2 q; clear L N h
  obtain ⟨r2, rfl, q2, L, N, h⟩ := q
  show mm_Go (mm_run 8) mc_M_flush _ (5, [(0, .inr (.inr 407))], [.inl r2], M2)
  exact mm_s1 rfl ⟨q2, _, rfl, q2, L, N, h⟩
def nr_M_merging (v1 : Int) (M : mm_M) (R : Int → mm_M → Prop) : Prop := ∀ n, nn_L M → M.1 = n → mm_run 9 mi_M_merging [.inr (.inr 407), .inl v1] M (nw_I n R)
theorem ng_M_merging (v1 : Int) (M : mm_M) (R : Int → mm_M → Prop) (h : (nr_M_copies v1 10948 M (fun M5 => ((0 ≤ 10971 ∧ 10971 < 32844) ∧ (∀ M16 : mm_M, M16 = nn_ui M5 408 10971 0 → (nr_M_flushes 10948 M16 (fun r21 M21 => ((r21 = 0 → R 0 M21) ∧ (r21 ≠ 0 → ((0 ≤ 10971 ∧ 10971 < 32844) ∧ R (nn_ri M21 408 10971) M21)))))))))) : nr_M_merging v1 M R := by
  intro n L N 
  have NN := nn_L_n L N
  show mm_Go (mm_run 8) mc_M_merging _ (0, [(0, .inr (.inr 407)), (1, .inl v1)], [], M)
  refine mm_s1 rfl ?_
  refine mm_s1 rfl ?_
  refine mm_s1 rfl ?_
  refine mm_s1 rfl ⟨(nn_c407 NN).1, ?_⟩
  refine nn_call (D := 1) (by decide) (h n L N) ?_
  intro v M5 q; clear L N h
  obtain ⟨rfl, L, N, h⟩ := q
  show mm_Go (mm_run 8) mc_M_merging _ (8, [(0, .inr (.inr 407)), (1, .inl v1)], [], M5)
  refine mm_s1 rfl ?_
  refine nn_getr rfl (nn_c407 NN).1 (lf_13_0 L N (nn_c407 NN)) ?_
  refine mm_s1 rfl ?_
  refine mm_s1 rfl ?_
  obtain ⟨b16, h⟩ := h
  refine mm_s1 rfl ⟨nn_bd (na_13_0 NN (nn_c407 NN)) b16, ?_⟩
  show mm_Go (mm_run 8) mc_M_merging _ (17, [(0, .inr (.inr 407)), (1, .inl v1)], [], (nn_ui M5 408 10971 0))
  have L : nn_L (nn_ui M5 408 10971 0) := nn_L_ua L (congrArg Prod.fst (na_13_0 NN (nn_c407 NN))) (by decide)
  have N : (nn_ui M5 408 10971 0).1 = n := N
  replace h := h _ rfl
  generalize nn_ui M5 408 10971 0 = M16 at h L N ⊢
  show mm_Go (mm_run 8) mc_M_merging _ (17, [(0, .inr (.inr 407)), (1, .inl v1)], [], M16)
  refine mm_s1 rfl ?_
  refine mm_s1 rfl ?_
  refine mm_s1 rfl ⟨(nn_c407 NN).1, ?_⟩
  refine nn_call (D := 8) (by decide) (h n L N) ?_
  intro v M21 q; clear L N h
  obtain ⟨r21, rfl, q21, L, N, h⟩ := q
  show mm_Go (mm_run 8) mc_M_merging _ (24, [(0, .inr (.inr 407)), (1, .inl v1)], [.inl r21], M21)
  refine mm_s1 rfl ⟨fun c24 => ?_, fun c24 => ?_⟩
  · show mm_Go (mm_run 8) mc_M_merging _ (38, [(0, .inr (.inr 407)), (1, .inl v1)], [], M21)
    replace h := h.1 c24
    refine mm_s1 rfl ?_
    exact mm_s1 rfl ⟨_, rfl, L, N, h⟩
  · show mm_Go (mm_run 8) mc_M_merging _ (27, [(0, .inr (.inr 407)), (1, .inl v1)], [], M21)
    replace h := h.2 c24
    refine mm_s1 rfl ?_
    refine nn_getr rfl (nn_c407 NN).1 (lf_13_0 L N (nn_c407 NN)) ?_
    refine mm_s1 rfl ?_
    obtain ⟨b34, h⟩ := h
    refine mm_s1 rfl ⟨nn_bd (na_13_0 NN (nn_c407 NN)) b34, ?_⟩
    show mm_Go (mm_run 8) mc_M_merging _ (35, [(0, .inr (.inr 407)), (1, .inl v1)], [.inl (nn_ri M21 408 10971)], M21)
    refine mm_s1 rfl ?_
    show mm_Go (mm_run 8) mc_M_merging _ (39, [(0, .inr (.inr 407)), (1, .inl v1)], [.inl (nn_ri M21 408 10971)], M21)
    exact mm_s1 rfl ⟨_, rfl, L, N, h⟩
def nr_Reader_split (v1 : Nat) (v2 : Int) (M : mm_M) (R : mm_M → Prop) : Prop := ∀ n, nn_L M → M.1 = n → nn_C 20 v1 n → mm_run 10 mi_Reader_split [.inr (.inr 402), .inr (.inr v1), .inl v2] M (nw_V n R)
def nk_Reader_split_5 (v1 : Nat) (v2 : Int) (v3 : Int) (v4 : Int) (M : mm_M) (R : mm_M → Prop) : Prop := ∀ n, nn_L M → M.1 = n → nn_C 20 v1 n → mm_Go (mm_run 9) mc_Reader_split (nw_V n R) (5, [(0, .inr (.inr 402)), (1, .inr (.inr v1)), (2, .inl v2), (3, .inl v3), (4, .inl v4)], [], M)
def nk_Reader_split_68 (v1 : Nat) (v2 : Int) (v3 : Int) (v4 : Int) (v5 : Int) (v7 : Int) (M : mm_M) (R : mm_M → Prop) : Prop := ∀ n, nn_L M → M.1 = n → nn_C 20 v1 n → mm_Go (mm_run 9) mc_Reader_split (nw_V n R) (68, [(0, .inr (.inr 402)), (1, .inr (.inr v1)), (2, .inl v2), (3, .inl v3), (4, .inl v4), (5, .inl v5), (7, .inl v7)], [], M)
theorem ng_Reader_split (v1 : Nat) (v2 : Int) (M : mm_M) (R : mm_M → Prop) (h : nk_Reader_split_5 v1 v2 0 0 M R) : nr_Reader_split v1 v2 M R := by
  intro n L N C1
  have NN := nn_L_n L N
  show mm_Go (mm_run 9) mc_Reader_split _ (0, [(0, .inr (.inr 402)), (1, .inr (.inr v1)), (2, .inl v2)], [], M)
  refine mm_s1 rfl ?_
  refine mm_s1 rfl ?_
  show mm_Go (mm_run 9) mc_Reader_split _ (2, [(0, .inr (.inr 402)), (1, .inr (.inr v1)), (2, .inl v2), (3, .inl 0)], [], M)
  refine mm_s1 rfl ?_
  refine mm_s1 rfl ?_
  show mm_Go (mm_run 9) mc_Reader_split _ (5, [(0, .inr (.inr 402)), (1, .inr (.inr v1)), (2, .inl v2), (3, .inl 0), (4, .inl 0)], [], M)
  exact nn_go_ext (nn_xc rfl (nn_xc rfl (nn_xc rfl (nn_xc rfl (nn_xc rfl nn_xn))))) (h n L N C1)
theorem ng_Reader_split_5 (v1 : Nat) (v2 : Int) (v3 : Int) (v4 : Int) (M : mm_M) (R : mm_M → Prop) (h : ((v2 ≤ v4 → ((0 ≤ v3 ∧ v3 < 201) ∧ (∀ M131 : mm_M, M131 = nn_ui M 404 v3 v2 → ((0 ≤ v3 ∧ v3 < 201) ∧ (∀ M138 : mm_M, M138 = nn_ui M131 403 v3 0 → R M138))))) ∧ (v4 < v2 → ((0 ≤ v4 ∧ v4 < ((mm_kd v1).2 : Int)) ∧ (nr_Reader_sortOf (nn_ri M v1 v4) M (fun r15 M15 => ((v4 ≤ 0 → (((r15 = 0 ∨ (0 ≠ 0)) → nk_Reader_split_5 v1 v2 v3 (mm_w (v4 + 1)) M15 R) ∧ ((r15 ≠ 0 ∧ (0 = 0)) → nk_Reader_split_68 v1 v2 v3 v4 r15 (mm_w (v4 + 1)) M15 R))) ∧ (0 < v4 → ((r15 = 3 → (((r15 = 0 ∨ (0 ≠ 0)) → nk_Reader_split_5 v1 v2 v3 (mm_w (v4 + 1)) M15 R) ∧ ((r15 ≠ 0 ∧ (0 = 0)) → nk_Reader_split_68 v1 v2 v3 v4 r15 (mm_w (v4 + 1)) M15 R))) ∧ (r15 ≠ 3 → ((0 ≤ (mm_w (v4 - 1)) ∧ (mm_w (v4 - 1)) < ((mm_kd v1).2 : Int)) ∧ (nr_Reader_sortOf (nn_ri M15 v1 (mm_w (v4 - 1))) M15 (fun r39 M39 => ((((r15 ≠ r39 ∧ (r15 = 0 ∨ (0 ≠ 0))) ∨ (r15 = r39 ∧ (r15 = 0 ∨ (1 ≠ 0)))) → nk_Reader_split_5 v1 v2 v3 (mm_w (v4 + 1)) M39 R) ∧ (((r15 ≠ r39 ∧ (r15 ≠ 0 ∧ (0 = 0))) ∨ (r15 = r39 ∧ (r15 ≠ 0 ∧ (1 = 0)))) → nk_Reader_split_68 v1 v2 v3 v4 r15 (mm_w (v4 + 1)) M39 R))))))))))))))) : nk_Reader_split_5 v1 v2 v3 v4 M R := by
  intro n L N C1
  have NN := nn_L_n L N
  show mm_Go (mm_run 9) mc_Reader_split _ (5, [(0, .inr (.inr 402)), (1, .inr (.inr v1)), (2, .inl v2), (3, .inl v3), (4, .inl v4)], [], M)
  refine mm_s1 rfl ?_
  refine mm_s1 rfl ?_
  refine mm_s1 rfl ⟨fun c8 => ?_, fun c8 => ?_⟩
  · show mm_Go (mm_run 9) mc_Reader_split _ (125, [(0, .inr (.inr 402)), (1, .inr (.inr v1)), (2, .inl v2), (3, .inl v3), (4, .inl v4)], [], M)
    replace h := h.1 c8
    refine mm_s1 rfl ?_
    refine nn_getr rfl (nn_c402 NN).1 (lf_7_1 L N (nn_c402 NN)) ?_
    refine mm_s1 rfl ?_
    refine mm_s1 rfl ?_
    obtain ⟨b131, h⟩ := h
    refine mm_s1 rfl ⟨nn_bd (na_7_1 NN (nn_c402 NN)) b131, ?_⟩
    show mm_Go (mm_run 9) mc_Reader_split _ (132, [(0, .inr (.inr 402)), (1, .inr (.inr v1)), (2, .inl v2), (3, .inl v3), (4, .inl v4)], [], (nn_ui M 404 v3 v2))
    have L : nn_L (nn_ui M 404 v3 v2) := nn_L_ua L (congrArg Prod.fst (na_7_1 NN (nn_c402 NN))) (by decide)
    have N : (nn_ui M 404 v3 v2).1 = n := N
    replace h := h _ rfl
    generalize nn_ui M 404 v3 v2 = M131 at h L N ⊢
    show mm_Go (mm_run 9) mc_Reader_split _ (132, [(0, .inr (.inr 402)), (1, .inr (.inr v1)), (2, .inl v2), (3, .inl v3), (4, .inl v4)], [], M131)
    refine mm_s1 rfl ?_
    refine nn_getr rfl (nn_c402 NN).1 (lf_7_0 L N (nn_c402 NN)) ?_
    refine mm_s1 rfl ?_
    refine mm_s1 rfl ?_
    obtain ⟨b138, h⟩ := h
    refine mm_s1 rfl ⟨nn_bd (na_7_0 NN (nn_c402 NN)) b138, ?_⟩
    show mm_Go (mm_run 9) mc_Reader_split _ (139, [(0, .inr (.inr 402)), (1, .inr (.inr v1)), (2, .inl v2), (3, .inl v3), (4, .inl v4)], [], (nn_ui M131 403 v3 0))
    have L : nn_L (nn_ui M131 403 v3 0) := nn_L_ua L (congrArg Prod.fst (na_7_0 NN (nn_c402 NN))) (by decide)
    have N : (nn_ui M131 403 v3 0).1 = n := N
    replace h := h _ rfl
    generalize nn_ui M131 403 v3 0 = M138 at h L N ⊢
    show mm_Go (mm_run 9) mc_Reader_split _ (139, [(0, .inr (.inr 402)), (1, .inr (.inr v1)), (2, .inl v2), (3, .inl v3), (4, .inl v4)], [], M138)
    exact mm_s1 rfl ⟨rfl, L, N, h⟩
  · show mm_Go (mm_run 9) mc_Reader_split _ (11, [(0, .inr (.inr 402)), (1, .inr (.inr v1)), (2, .inl v2), (3, .inl v3), (4, .inl v4)], [], M)
    replace c8 := Int.not_le.mp c8
    replace h := h.2 c8
    refine mm_s1 rfl ?_
    refine mm_s1 rfl ?_
    obtain ⟨b14, h⟩ := h
    refine mm_s1 rfl ⟨⟨C1.1, b14⟩, ?_⟩
    show mm_Go (mm_run 9) mc_Reader_split _ (15, [(0, .inr (.inr 402)), (1, .inr (.inr v1)), (2, .inl v2), (3, .inl v3), (4, .inl v4)], [.inl (nn_ri M v1 v4)], M)
    refine mm_s1 rfl ⟨trivial, ?_⟩
    refine nn_call (D := 1) (by decide) (h n L N) ?_
    intro v M15 q; clear L N h
    obtain ⟨r15, rfl, L, N, h⟩ := q
    show mm_Go (mm_run 9) mc_Reader_split _ (18, [(0, .inr (.inr 402)), (1, .inr (.inr v1)), (2, .inl v2), (3, .inl v3), (4, .inl v4)], [.inl r15], M15)
    refine mm_s1 rfl ?_
    show mm_Go (mm_run 9) mc_Reader_split _ (20, [(0, .inr (.inr 402)), (1, .inr (.inr v1)), (2, .inl v2), (3, .inl v3), (4, .inl v4), (5, .inl r15)], [], M15)
    refine mm_s1 rfl ?_
    refine mm_s1 rfl ⟨fun c22 => ?_, fun c22 => ?_⟩
    · show mm_Go (mm_run 9) mc_Reader_split _ (49, [(0, .inr (.inr 402)), (1, .inr (.inr v1)), (2, .inl v2), (3, .inl v3), (4, .inl v4), (5, .inl r15)], [], M15)
      replace h := h.1 c22
      refine mm_s1 rfl ?_
      refine mm_s1 rfl ?_
      show mm_Go (mm_run 9) mc_Reader_split _ (52, [(0, .inr (.inr 402)), (1, .inr (.inr v1)), (2, .inl v2), (3, .inl v3), (4, .inl v4), (5, .inl r15), (6, .inl 0)], [], M15)
      refine mm_s1 rfl ?_
      refine mm_s1 rfl ⟨fun c54 => ?_, fun c54 => ?_⟩
      · show mm_Go (mm_run 9) mc_Reader_split _ (119, [(0, .inr (.inr 402)), (1, .inr (.inr v1)), (2, .inl v2), (3, .inl v3), (4, .inl v4), (5, .inl r15), (6, .inl 0)], [], M15)
        refine mm_s1 rfl ?_
        show mm_Go (mm_run 9) mc_Reader_split _ (122, [(0, .inr (.inr 402)), (1, .inr (.inr v1)), (2, .inl v2), (3, .inl v3), (4, .inl (mm_w (v4 + 1))), (5, .inl r15), (6, .inl 0)], [], M15)
        refine mm_s1 rfl ?_
        show mm_Go (mm_run 9) mc_Reader_split _ (5, [(0, .inr (.inr 402)), (1, .inr (.inr v1)), (2, .inl v2), (3, .inl v3), (4, .inl (mm_w (v4 + 1))), (5, .inl r15), (6, .inl 0)], [], M15)
        replace h := h.1 (Or.inl c54)
        exact nn_go_ext (nn_xc rfl (nn_xc rfl (nn_xc rfl (nn_xc rfl (nn_xc rfl nn_xn))))) (h n L N C1)
      · show mm_Go (mm_run 9) mc_Reader_split _ (57, [(0, .inr (.inr 402)), (1, .inr (.inr v1)), (2, .inl v2), (3, .inl v3), (4, .inl v4), (5, .inl r15), (6, .inl 0)], [], M15)
        refine mm_s1 rfl ?_
        refine mm_s1 rfl ⟨fun c59 => ?_, fun c59 => ?_⟩
        · show mm_Go (mm_run 9) mc_Reader_split _ (119, [(0, .inr (.inr 402)), (1, .inr (.inr v1)), (2, .inl v2), (3, .inl v3), (4, .inl v4), (5, .inl r15), (6, .inl 0)], [], M15)
          refine mm_s1 rfl ?_
          show mm_Go (mm_run 9) mc_Reader_split _ (122, [(0, .inr (.inr 402)), (1, .inr (.inr v1)), (2, .inl v2), (3, .inl v3), (4, .inl (mm_w (v4 + 1))), (5, .inl r15), (6, .inl 0)], [], M15)
          refine mm_s1 rfl ?_
          show mm_Go (mm_run 9) mc_Reader_split _ (5, [(0, .inr (.inr 402)), (1, .inr (.inr v1)), (2, .inl v2), (3, .inl v3), (4, .inl (mm_w (v4 + 1))), (5, .inl r15), (6, .inl 0)], [], M15)
          replace h := h.1 (Or.inr c59)
          exact nn_go_ext (nn_xc rfl (nn_xc rfl (nn_xc rfl (nn_xc rfl (nn_xc rfl nn_xn))))) (h n L N C1)
        · show mm_Go (mm_run 9) mc_Reader_split _ (62, [(0, .inr (.inr 402)), (1, .inr (.inr v1)), (2, .inl v2), (3, .inl v3), (4, .inl v4), (5, .inl r15), (6, .inl 0)], [], M15)
          replace c59 := Decidable.not_not.mp c59
          refine mm_s1 rfl ?_
          refine mm_s1 rfl ?_
          refine mm_s1 rfl ?_
          refine mm_s1 rfl ?_
          show mm_Go (mm_run 9) mc_Reader_split _ (68, [(0, .inr (.inr 402)), (1, .inr (.inr v1)), (2, .inl v2), (3, .inl v3), (4, .inl v4), (5, .inl r15), (6, .inl 0), (7, .inl (mm_w (v4 + 1)))], [], M15)
          replace h := h.2 ⟨c54, c59⟩
          exact nn_go_ext (nn_xc rfl (nn_xc rfl (nn_xc rfl (nn_xc rfl (nn_xc rfl (nn_xc rfl (nn_xc rfl nn_xn))))))) (h n L N C1)
    · show mm_Go (mm_run 9) mc_Reader_split _ (25, [(0, .inr (.inr 402)), (1, .inr (.inr v1)), (2, .inl v2), (3, .inl v3), (4, .inl v4), (5, .inl r15)], [], M15)
      replace c22 := Int.not_le.mp c22
      replace h := h.2 c22
      refine mm_s1 rfl ?_
      refine mm_s1 rfl ?_
      refine mm_s1 rfl ⟨fun c28 => ?_, fun c28 => ?_⟩
      · show mm_Go (mm_run 9) mc_Reader_split _ (49, [(0, .inr (.inr 402)), (1, .inr (.inr v1)), (2, .inl v2), (3, .inl v3), (4, .inl v4), (5, .inl r15)], [], M15)
        replace h := h.1 c28
        refine mm_s1 rfl ?_
        refine mm_s1 rfl ?_
        show mm_Go (mm_run 9) mc_Reader_split _ (52, [(0, .inr (.inr 402)), (1, .inr (.inr v1)), (2, .inl v2), (3, .inl v3), (4, .inl v4), (5, .inl r15), (6, .inl 0)], [], M15)
        refine mm_s1 rfl ?_
        refine mm_s1 rfl ⟨fun c54 => ?_, fun c54 => ?_⟩
        · show mm_Go (mm_run 9) mc_Reader_split _ (119, [(0, .inr (.inr 402)), (1, .inr (.inr v1)), (2, .inl v2), (3, .inl v3), (4, .inl v4), (5, .inl r15), (6, .inl 0)], [], M15)
          refine mm_s1 rfl ?_
          show mm_Go (mm_run 9) mc_Reader_split _ (122, [(0, .inr (.inr 402)), (1, .inr (.inr v1)), (2, .inl v2), (3, .inl v3), (4, .inl (mm_w (v4 + 1))), (5, .inl r15), (6, .inl 0)], [], M15)
          refine mm_s1 rfl ?_
          show mm_Go (mm_run 9) mc_Reader_split _ (5, [(0, .inr (.inr 402)), (1, .inr (.inr v1)), (2, .inl v2), (3, .inl v3), (4, .inl (mm_w (v4 + 1))), (5, .inl r15), (6, .inl 0)], [], M15)
          replace h := h.1 (Or.inl c54)
          exact nn_go_ext (nn_xc rfl (nn_xc rfl (nn_xc rfl (nn_xc rfl (nn_xc rfl nn_xn))))) (h n L N C1)
        · show mm_Go (mm_run 9) mc_Reader_split _ (57, [(0, .inr (.inr 402)), (1, .inr (.inr v1)), (2, .inl v2), (3, .inl v3), (4, .inl v4), (5, .inl r15), (6, .inl 0)], [], M15)
          refine mm_s1 rfl ?_
          refine mm_s1 rfl ⟨fun c59 => ?_, fun c59 => ?_⟩
          · show mm_Go (mm_run 9) mc_Reader_split _ (119, [(0, .inr (.inr 402)), (1, .inr (.inr v1)), (2, .inl v2), (3, .inl v3), (4, .inl v4), (5, .inl r15), (6, .inl 0)], [], M15)
            refine mm_s1 rfl ?_
            show mm_Go (mm_run 9) mc_Reader_split _ (122, [(0, .inr (.inr 402)), (1, .inr (.inr v1)), (2, .inl v2), (3, .inl v3), (4, .inl (mm_w (v4 + 1))), (5, .inl r15), (6, .inl 0)], [], M15)
            refine mm_s1 rfl ?_
            show mm_Go (mm_run 9) mc_Reader_split _ (5, [(0, .inr (.inr 402)), (1, .inr (.inr v1)), (2, .inl v2), (3, .inl v3), (4, .inl (mm_w (v4 + 1))), (5, .inl r15), (6, .inl 0)], [], M15)
            replace h := h.1 (Or.inr c59)
            exact nn_go_ext (nn_xc rfl (nn_xc rfl (nn_xc rfl (nn_xc rfl (nn_xc rfl nn_xn))))) (h n L N C1)
          · show mm_Go (mm_run 9) mc_Reader_split _ (62, [(0, .inr (.inr 402)), (1, .inr (.inr v1)), (2, .inl v2), (3, .inl v3), (4, .inl v4), (5, .inl r15), (6, .inl 0)], [], M15)
            replace c59 := Decidable.not_not.mp c59
            refine mm_s1 rfl ?_
            refine mm_s1 rfl ?_
            refine mm_s1 rfl ?_
            refine mm_s1 rfl ?_
            show mm_Go (mm_run 9) mc_Reader_split _ (68, [(0, .inr (.inr 402)), (1, .inr (.inr v1)), (2, .inl v2), (3, .inl v3), (4, .inl v4), (5, .inl r15), (6, .inl 0), (7, .inl (mm_w (v4 + 1)))], [], M15)
            replace h := h.2 ⟨c54, c59⟩
            exact nn_go_ext (nn_xc rfl (nn_xc rfl (nn_xc rfl (nn_xc rfl (nn_xc rfl (nn_xc rfl (nn_xc rfl nn_xn))))))) (h n L N C1)
      · show mm_Go (mm_run 9) mc_Reader_split _ (31, [(0, .inr (.inr 402)), (1, .inr (.inr v1)), (2, .inl v2), (3, .inl v3), (4, .inl v4), (5, .inl r15)], [], M15)
        replace h := h.2 c28
        refine mm_s1 rfl ?_
        refine mm_s1 rfl ?_
        refine mm_s1 rfl ?_
        refine mm_s1 rfl ?_
        refine mm_s1 rfl ?_
        show mm_Go (mm_run 9) mc_Reader_split _ (38, [(0, .inr (.inr 402)), (1, .inr (.inr v1)), (2, .inl v2), (3, .inl v3), (4, .inl v4), (5, .inl r15)], [.inl (mm_w (v4 - 1)), .inr (.inr v1), .inl r15], M15)
        obtain ⟨b38, h⟩ := h
        refine mm_s1 rfl ⟨⟨C1.1, b38⟩, ?_⟩
        show mm_Go (mm_run 9) mc_Reader_split _ (39, [(0, .inr (.inr 402)), (1, .inr (.inr v1)), (2, .inl v2), (3, .inl v3), (4, .inl v4), (5, .inl r15)], [.inl (nn_ri M15 v1 (mm_w (v4 - 1))), .inl r15], M15)
        refine mm_s1 rfl ⟨trivial, ?_⟩
        refine nn_call (D := 1) (by decide) (h n L N) ?_
        intro v M39 q; clear L N h
        obtain ⟨r39, rfl, L, N, h⟩ := q
        show mm_Go (mm_run 9) mc_Reader_split _ (42, [(0, .inr (.inr 402)), (1, .inr (.inr v1)), (2, .inl v2), (3, .inl v3), (4, .inl v4), (5, .inl r15)], [.inl r39, .inl r15], M39)
        refine mm_s1 rfl ⟨fun c42 => ?_, fun c42 => ?_⟩
        · show mm_Go (mm_run 9) mc_Reader_split _ (49, [(0, .inr (.inr 402)), (1, .inr (.inr v1)), (2, .inl v2), (3, .inl v3), (4, .inl v4), (5, .inl r15)], [], M39)
          refine mm_s1 rfl ?_
          refine mm_s1 rfl ?_
          show mm_Go (mm_run 9) mc_Reader_split _ (52, [(0, .inr (.inr 402)), (1, .inr (.inr v1)), (2, .inl v2), (3, .inl v3), (4, .inl v4), (5, .inl r15), (6, .inl 0)], [], M39)
          refine mm_s1 rfl ?_
          refine mm_s1 rfl ⟨fun c54 => ?_, fun c54 => ?_⟩
          · show mm_Go (mm_run 9) mc_Reader_split _ (119, [(0, .inr (.inr 402)), (1, .inr (.inr v1)), (2, .inl v2), (3, .inl v3), (4, .inl v4), (5, .inl r15), (6, .inl 0)], [], M39)
            refine mm_s1 rfl ?_
            show mm_Go (mm_run 9) mc_Reader_split _ (122, [(0, .inr (.inr 402)), (1, .inr (.inr v1)), (2, .inl v2), (3, .inl v3), (4, .inl (mm_w (v4 + 1))), (5, .inl r15), (6, .inl 0)], [], M39)
            refine mm_s1 rfl ?_
            show mm_Go (mm_run 9) mc_Reader_split _ (5, [(0, .inr (.inr 402)), (1, .inr (.inr v1)), (2, .inl v2), (3, .inl v3), (4, .inl (mm_w (v4 + 1))), (5, .inl r15), (6, .inl 0)], [], M39)
            replace h := h.1 (Or.inl ⟨c42, (Or.inl c54)⟩)
            exact nn_go_ext (nn_xc rfl (nn_xc rfl (nn_xc rfl (nn_xc rfl (nn_xc rfl nn_xn))))) (h n L N C1)
          · show mm_Go (mm_run 9) mc_Reader_split _ (57, [(0, .inr (.inr 402)), (1, .inr (.inr v1)), (2, .inl v2), (3, .inl v3), (4, .inl v4), (5, .inl r15), (6, .inl 0)], [], M39)
            refine mm_s1 rfl ?_
            refine mm_s1 rfl ⟨fun c59 => ?_, fun c59 => ?_⟩
            · show mm_Go (mm_run 9) mc_Reader_split _ (119, [(0, .inr (.inr 402)), (1, .inr (.inr v1)), (2, .inl v2), (3, .inl v3), (4, .inl v4), (5, .inl r15), (6, .inl 0)], [], M39)
              refine mm_s1 rfl ?_
              show mm_Go (mm_run 9) mc_Reader_split _ (122, [(0, .inr (.inr 402)), (1, .inr (.inr v1)), (2, .inl v2), (3, .inl v3), (4, .inl (mm_w (v4 + 1))), (5, .inl r15), (6, .inl 0)], [], M39)
              refine mm_s1 rfl ?_
              show mm_Go (mm_run 9) mc_Reader_split _ (5, [(0, .inr (.inr 402)), (1, .inr (.inr v1)), (2, .inl v2), (3, .inl v3), (4, .inl (mm_w (v4 + 1))), (5, .inl r15), (6, .inl 0)], [], M39)
              replace h := h.1 (Or.inl ⟨c42, (Or.inr c59)⟩)
              exact nn_go_ext (nn_xc rfl (nn_xc rfl (nn_xc rfl (nn_xc rfl (nn_xc rfl nn_xn))))) (h n L N C1)
            · show mm_Go (mm_run 9) mc_Reader_split _ (62, [(0, .inr (.inr 402)), (1, .inr (.inr v1)), (2, .inl v2), (3, .inl v3), (4, .inl v4), (5, .inl r15), (6, .inl 0)], [], M39)
              replace c59 := Decidable.not_not.mp c59
              refine mm_s1 rfl ?_
              refine mm_s1 rfl ?_
              refine mm_s1 rfl ?_
              refine mm_s1 rfl ?_
              show mm_Go (mm_run 9) mc_Reader_split _ (68, [(0, .inr (.inr 402)), (1, .inr (.inr v1)), (2, .inl v2), (3, .inl v3), (4, .inl v4), (5, .inl r15), (6, .inl 0), (7, .inl (mm_w (v4 + 1)))], [], M39)
              replace h := h.2 (Or.inl ⟨c42, ⟨c54, c59⟩⟩)
              exact nn_go_ext (nn_xc rfl (nn_xc rfl (nn_xc rfl (nn_xc rfl (nn_xc rfl (nn_xc rfl (nn_xc rfl nn_xn))))))) (h n L N C1)
        · show mm_Go (mm_run 9) mc_Reader_split _ (45, [(0, .inr (.inr 402)), (1, .inr (.inr v1)), (2, .inl v2), (3, .inl v3), (4, .inl v4), (5, .inl r15)], [], M39)
          replace c42 := Decidable.not_not.mp c42
          refine mm_s1 rfl ?_
          refine mm_s1 rfl ?_
          show mm_Go (mm_run 9) mc_Reader_split _ (50, [(0, .inr (.inr 402)), (1, .inr (.inr v1)), (2, .inl v2), (3, .inl v3), (4, .inl v4), (5, .inl r15)], [.inl 1], M39)
          refine mm_s1 rfl ?_
          show mm_Go (mm_run 9) mc_Reader_split _ (52, [(0, .inr (.inr 402)), (1, .inr (.inr v1)), (2, .inl v2), (3, .inl v3), (4, .inl v4), (5, .inl r15), (6, .inl 1)], [], M39)
          refine mm_s1 rfl ?_
          refine mm_s1 rfl ⟨fun c54 => ?_, fun c54 => ?_⟩
          · show mm_Go (mm_run 9) mc_Reader_split _ (119, [(0, .inr (.inr 402)), (1, .inr (.inr v1)), (2, .inl v2), (3, .inl v3), (4, .inl v4), (5, .inl r15), (6, .inl 1)], [], M39)
            refine mm_s1 rfl ?_
            show mm_Go (mm_run 9) mc_Reader_split _ (122, [(0, .inr (.inr 402)), (1, .inr (.inr v1)), (2, .inl v2), (3, .inl v3), (4, .inl (mm_w (v4 + 1))), (5, .inl r15), (6, .inl 1)], [], M39)
            refine mm_s1 rfl ?_
            show mm_Go (mm_run 9) mc_Reader_split _ (5, [(0, .inr (.inr 402)), (1, .inr (.inr v1)), (2, .inl v2), (3, .inl v3), (4, .inl (mm_w (v4 + 1))), (5, .inl r15), (6, .inl 1)], [], M39)
            replace h := h.1 (Or.inr ⟨c42, (Or.inl c54)⟩)
            exact nn_go_ext (nn_xc rfl (nn_xc rfl (nn_xc rfl (nn_xc rfl (nn_xc rfl nn_xn))))) (h n L N C1)
          · show mm_Go (mm_run 9) mc_Reader_split _ (57, [(0, .inr (.inr 402)), (1, .inr (.inr v1)), (2, .inl v2), (3, .inl v3), (4, .inl v4), (5, .inl r15), (6, .inl 1)], [], M39)
            refine mm_s1 rfl ?_
            refine mm_s1 rfl ⟨fun c59 => ?_, fun c59 => ?_⟩
            · show mm_Go (mm_run 9) mc_Reader_split _ (119, [(0, .inr (.inr 402)), (1, .inr (.inr v1)), (2, .inl v2), (3, .inl v3), (4, .inl v4), (5, .inl r15), (6, .inl 1)], [], M39)
              refine mm_s1 rfl ?_
              show mm_Go (mm_run 9) mc_Reader_split _ (122, [(0, .inr (.inr 402)), (1, .inr (.inr v1)), (2, .inl v2), (3, .inl v3), (4, .inl (mm_w (v4 + 1))), (5, .inl r15), (6, .inl 1)], [], M39)
              refine mm_s1 rfl ?_
              show mm_Go (mm_run 9) mc_Reader_split _ (5, [(0, .inr (.inr 402)), (1, .inr (.inr v1)), (2, .inl v2), (3, .inl v3), (4, .inl (mm_w (v4 + 1))), (5, .inl r15), (6, .inl 1)], [], M39)
              replace h := h.1 (Or.inr ⟨c42, (Or.inr c59)⟩)
              exact nn_go_ext (nn_xc rfl (nn_xc rfl (nn_xc rfl (nn_xc rfl (nn_xc rfl nn_xn))))) (h n L N C1)
            · show mm_Go (mm_run 9) mc_Reader_split _ (62, [(0, .inr (.inr 402)), (1, .inr (.inr v1)), (2, .inl v2), (3, .inl v3), (4, .inl v4), (5, .inl r15), (6, .inl 1)], [], M39)
              replace c59 := Decidable.not_not.mp c59
              refine mm_s1 rfl ?_
              refine mm_s1 rfl ?_
              refine mm_s1 rfl ?_
              refine mm_s1 rfl ?_
              show mm_Go (mm_run 9) mc_Reader_split _ (68, [(0, .inr (.inr 402)), (1, .inr (.inr v1)), (2, .inl v2), (3, .inl v3), (4, .inl v4), (5, .inl r15), (6, .inl 1), (7, .inl (mm_w (v4 + 1)))], [], M39)
              replace h := h.2 (Or.inr ⟨c42, ⟨c54, c59⟩⟩)
              exact nn_go_ext (nn_xc rfl (nn_xc rfl (nn_xc rfl (nn_xc rfl (nn_xc rfl (nn_xc rfl (nn_xc rfl nn_xn))))))) (h n L N C1)
theorem ng_Reader_split_68 (v1 : Nat) (v2 : Int) (v3 : Int) (v4 : Int) (v5 : Int) (v7 : Int) (M : mm_M) (R : mm_M → Prop) (h : (((v2 ≤ v7) → (0 ≤ v3 ∧ v3 < 201)) ∧ ((v7 < v2) ∧ (v5 = 3) → (0 ≤ v3 ∧ v3 < 201)) ∧ ((v7 < v2) ∧ (v5 ≠ 3) → (0 ≤ v7 ∧ v7 < ((mm_kd v1).2 : Int))) ∧ ((v2 ≤ v7 ∨ (v5 = 3)) → (∀ M105 : mm_M, M105 = nn_ui M 404 v3 v4 → (nr_Reader_name v3 v5 v1 v7 M105 (fun M113 => nk_Reader_split_5 v1 v2 (mm_w (v3 + 1)) (mm_w (v4 + 1)) M113 R)))) ∧ ((v7 < v2 ∧ (v5 ≠ 3)) → (nr_Reader_sortOf (nn_ri M v1 v7) M (fun r86 M86 => ((v5 ≠ r86 → ((0 ≤ v3 ∧ v3 < 201) ∧ (∀ M105 : mm_M, M105 = nn_ui M86 404 v3 v4 → (nr_Reader_name v3 v5 v1 v7 M105 (fun M113 => nk_Reader_split_5 v1 v2 (mm_w (v3 + 1)) (mm_w (v4 + 1)) M113 R))))) ∧ (v5 = r86 → nk_Reader_split_68 v1 v2 v3 v4 v5 (mm_w (v7 + 1)) M86 R))))))) : nk_Reader_split_68 v1 v2 v3 v4 v5 v7 M R := by
  intro n L N C1
  have NN := nn_L_n L N
  show mm_Go (mm_run 9) mc_Reader_split _ (68, [(0, .inr (.inr 402)), (1, .inr (.inr v1)), (2, .inl v2), (3, .inl v3), (4, .inl v4), (5, .inl v5), (7, .inl v7)], [], M)
  refine mm_s1 rfl ?_
  refine mm_s1 rfl ?_
  refine mm_s1 rfl ⟨fun c71 => ?_, fun c71 => ?_⟩
  · show mm_Go (mm_run 9) mc_Reader_split _ (98, [(0, .inr (.inr 402)), (1, .inr (.inr v1)), (2, .inl v2), (3, .inl v3), (4, .inl v4), (5, .inl v5), (7, .inl v7)], [], M)
    refine mm_s1 rfl ?_
    refine nn_getr rfl (nn_c402 NN).1 (lf_7_1 L N (nn_c402 NN)) ?_
    refine mm_s1 rfl ?_
    refine mm_s1 rfl ?_
    have b105 := h.1 c71
    replace h := h.2.2.2.1 (Or.inl c71)
    refine mm_s1 rfl ⟨nn_bd (na_7_1 NN (nn_c402 NN)) b105, ?_⟩
    show mm_Go (mm_run 9) mc_Reader_split _ (106, [(0, .inr (.inr 402)), (1, .inr (.inr v1)), (2, .inl v2), (3, .inl v3), (4, .inl v4), (5, .inl v5), (7, .inl v7)], [], (nn_ui M 404 v3 v4))
    have L : nn_L (nn_ui M 404 v3 v4) := nn_L_ua L (congrArg Prod.fst (na_7_1 NN (nn_c402 NN))) (by decide)
    have N : (nn_ui M 404 v3 v4).1 = n := N
    replace h := h _ rfl
    generalize nn_ui M 404 v3 v4 = M105 at h L N ⊢
    show mm_Go (mm_run 9) mc_Reader_split _ (106, [(0, .inr (.inr 402)), (1, .inr (.inr v1)), (2, .inl v2), (3, .inl v3), (4, .inl v4), (5, .inl v5), (7, .inl v7)], [], M105)
    refine mm_s1 rfl ?_
    refine mm_s1 rfl ?_
    refine mm_s1 rfl ?_
    refine mm_s1 rfl ?_
    refine mm_s1 rfl ?_
    show mm_Go (mm_run 9) mc_Reader_split _ (113, [(0, .inr (.inr 402)), (1, .inr (.inr v1)), (2, .inl v2), (3, .inl v3), (4, .inl v4), (5, .inl v5), (7, .inl v7)], [.inl v7, .inr (.inr v1), .inl v5, .inl v3, .inr (.inr 402)], M105)
    refine mm_s1 rfl ⟨(nn_c402 NN).1, ?_⟩
    refine nn_call (D := 9) (by decide) (h n L N C1) ?_
    intro v M113 q; clear L N h
    obtain ⟨rfl, L, N, h⟩ := q
    show mm_Go (mm_run 9) mc_Reader_split _ (116, [(0, .inr (.inr 402)), (1, .inr (.inr v1)), (2, .inl v2), (3, .inl v3), (4, .inl v4), (5, .inl v5), (7, .inl v7)], [], M113)
    refine mm_s1 rfl ?_
    show mm_Go (mm_run 9) mc_Reader_split _ (119, [(0, .inr (.inr 402)), (1, .inr (.inr v1)), (2, .inl v2), (3, .inl (mm_w (v3 + 1))), (4, .inl v4), (5, .inl v5), (7, .inl v7)], [], M113)
    refine mm_s1 rfl ?_
    show mm_Go (mm_run 9) mc_Reader_split _ (122, [(0, .inr (.inr 402)), (1, .inr (.inr v1)), (2, .inl v2), (3, .inl (mm_w (v3 + 1))), (4, .inl (mm_w (v4 + 1))), (5, .inl v5), (7, .inl v7)], [], M113)
    refine mm_s1 rfl ?_
    show mm_Go (mm_run 9) mc_Reader_split _ (5, [(0, .inr (.inr 402)), (1, .inr (.inr v1)), (2, .inl v2), (3, .inl (mm_w (v3 + 1))), (4, .inl (mm_w (v4 + 1))), (5, .inl v5), (7, .inl v7)], [], M113)
    exact nn_go_ext (nn_xc rfl (nn_xc rfl (nn_xc rfl (nn_xc rfl (nn_xc rfl nn_xn))))) (h n L N C1)
  · show mm_Go (mm_run 9) mc_Reader_split _ (74, [(0, .inr (.inr 402)), (1, .inr (.inr v1)), (2, .inl v2), (3, .inl v3), (4, .inl v4), (5, .inl v5), (7, .inl v7)], [], M)
    replace c71 := Int.not_le.mp c71
    refine mm_s1 rfl ?_
    refine mm_s1 rfl ?_
    refine mm_s1 rfl ⟨fun c77 => ?_, fun c77 => ?_⟩
    · show mm_Go (mm_run 9) mc_Reader_split _ (98, [(0, .inr (.inr 402)), (1, .inr (.inr v1)), (2, .inl v2), (3, .inl v3), (4, .inl v4), (5, .inl v5), (7, .inl v7)], [], M)
      refine mm_s1 rfl ?_
      refine nn_getr rfl (nn_c402 NN).1 (lf_7_1 L N (nn_c402 NN)) ?_
      refine mm_s1 rfl ?_
      refine mm_s1 rfl ?_
      have b105 := h.2.1 ⟨c71, c77⟩
      replace h := h.2.2.2.1 (Or.inr c77)
      refine mm_s1 rfl ⟨nn_bd (na_7_1 NN (nn_c402 NN)) b105, ?_⟩
      show mm_Go (mm_run 9) mc_Reader_split _ (106, [(0, .inr (.inr 402)), (1, .inr (.inr v1)), (2, .inl v2), (3, .inl v3), (4, .inl v4), (5, .inl v5), (7, .inl v7)], [], (nn_ui M 404 v3 v4))
      have L : nn_L (nn_ui M 404 v3 v4) := nn_L_ua L (congrArg Prod.fst (na_7_1 NN (nn_c402 NN))) (by decide)
      have N : (nn_ui M 404 v3 v4).1 = n := N
      replace h := h _ rfl
      generalize nn_ui M 404 v3 v4 = M105 at h L N ⊢
      show mm_Go (mm_run 9) mc_Reader_split _ (106, [(0, .inr (.inr 402)), (1, .inr (.inr v1)), (2, .inl v2), (3, .inl v3), (4, .inl v4), (5, .inl v5), (7, .inl v7)], [], M105)
      refine mm_s1 rfl ?_
      refine mm_s1 rfl ?_
      refine mm_s1 rfl ?_
      refine mm_s1 rfl ?_
      refine mm_s1 rfl ?_
      show mm_Go (mm_run 9) mc_Reader_split _ (113, [(0, .inr (.inr 402)), (1, .inr (.inr v1)), (2, .inl v2), (3, .inl v3), (4, .inl v4), (5, .inl v5), (7, .inl v7)], [.inl v7, .inr (.inr v1), .inl v5, .inl v3, .inr (.inr 402)], M105)
      refine mm_s1 rfl ⟨(nn_c402 NN).1, ?_⟩
      refine nn_call (D := 9) (by decide) (h n L N C1) ?_
      intro v M113 q; clear L N h
      obtain ⟨rfl, L, N, h⟩ := q
      show mm_Go (mm_run 9) mc_Reader_split _ (116, [(0, .inr (.inr 402)), (1, .inr (.inr v1)), (2, .inl v2), (3, .inl v3), (4, .inl v4), (5, .inl v5), (7, .inl v7)], [], M113)
      refine mm_s1 rfl ?_
      show mm_Go (mm_run 9) mc_Reader_split _ (119, [(0, .inr (.inr 402)), (1, .inr (.inr v1)), (2, .inl v2), (3, .inl (mm_w (v3 + 1))), (4, .inl v4), (5, .inl v5), (7, .inl v7)], [], M113)
      refine mm_s1 rfl ?_
      show mm_Go (mm_run 9) mc_Reader_split _ (122, [(0, .inr (.inr 402)), (1, .inr (.inr v1)), (2, .inl v2), (3, .inl (mm_w (v3 + 1))), (4, .inl (mm_w (v4 + 1))), (5, .inl v5), (7, .inl v7)], [], M113)
      refine mm_s1 rfl ?_
      show mm_Go (mm_run 9) mc_Reader_split _ (5, [(0, .inr (.inr 402)), (1, .inr (.inr v1)), (2, .inl v2), (3, .inl (mm_w (v3 + 1))), (4, .inl (mm_w (v4 + 1))), (5, .inl v5), (7, .inl v7)], [], M113)
      exact nn_go_ext (nn_xc rfl (nn_xc rfl (nn_xc rfl (nn_xc rfl (nn_xc rfl nn_xn))))) (h n L N C1)
    · show mm_Go (mm_run 9) mc_Reader_split _ (80, [(0, .inr (.inr 402)), (1, .inr (.inr v1)), (2, .inl v2), (3, .inl v3), (4, .inl v4), (5, .inl v5), (7, .inl v7)], [], M)
      refine mm_s1 rfl ?_
      refine mm_s1 rfl ?_
      refine mm_s1 rfl ?_
      have b85 := h.2.2.1 ⟨c71, c77⟩
      refine mm_s1 rfl ⟨⟨C1.1, b85⟩, ?_⟩
      show mm_Go (mm_run 9) mc_Reader_split _ (86, [(0, .inr (.inr 402)), (1, .inr (.inr v1)), (2, .inl v2), (3, .inl v3), (4, .inl v4), (5, .inl v5), (7, .inl v7)], [.inl (nn_ri M v1 v7), .inl v5], M)
      replace h := h.2.2.2.2 ⟨c71, c77⟩
      refine mm_s1 rfl ⟨trivial, ?_⟩
      refine nn_call (D := 1) (by decide) (h n L N) ?_
      intro v M86 q; clear L N h
      obtain ⟨r86, rfl, L, N, h⟩ := q
      show mm_Go (mm_run 9) mc_Reader_split _ (89, [(0, .inr (.inr 402)), (1, .inr (.inr v1)), (2, .inl v2), (3, .inl v3), (4, .inl v4), (5, .inl v5), (7, .inl v7)], [.inl r86, .inl v5], M86)
      refine mm_s1 rfl ⟨fun c89 => ?_, fun c89 => ?_⟩
      · show mm_Go (mm_run 9) mc_Reader_split _ (98, [(0, .inr (.inr 402)), (1, .inr (.inr v1)), (2, .inl v2), (3, .inl v3), (4, .inl v4), (5, .inl v5), (7, .inl v7)], [], M86)
        replace h := h.1 c89
        refine mm_s1 rfl ?_
        refine nn_getr rfl (nn_c402 NN).1 (lf_7_1 L N (nn_c402 NN)) ?_
        refine mm_s1 rfl ?_
        refine mm_s1 rfl ?_
        obtain ⟨b105, h⟩ := h
        refine mm_s1 rfl ⟨nn_bd (na_7_1 NN (nn_c402 NN)) b105, ?_⟩
        show mm_Go (mm_run 9) mc_Reader_split _ (106, [(0, .inr (.inr 402)), (1, .inr (.inr v1)), (2, .inl v2), (3, .inl v3), (4, .inl v4), (5, .inl v5), (7, .inl v7)], [], (nn_ui M86 404 v3 v4))
        have L : nn_L (nn_ui M86 404 v3 v4) := nn_L_ua L (congrArg Prod.fst (na_7_1 NN (nn_c402 NN))) (by decide)
        have N : (nn_ui M86 404 v3 v4).1 = n := N
        replace h := h _ rfl
        generalize nn_ui M86 404 v3 v4 = M105 at h L N ⊢
        show mm_Go (mm_run 9) mc_Reader_split _ (106, [(0, .inr (.inr 402)), (1, .inr (.inr v1)), (2, .inl v2), (3, .inl v3), (4, .inl v4), (5, .inl v5), (7, .inl v7)], [], M105)
        refine mm_s1 rfl ?_
        refine mm_s1 rfl ?_
        refine mm_s1 rfl ?_
        refine mm_s1 rfl ?_
        refine mm_s1 rfl ?_
        show mm_Go (mm_run 9) mc_Reader_split _ (113, [(0, .inr (.inr 402)), (1, .inr (.inr v1)), (2, .inl v2), (3, .inl v3), (4, .inl v4), (5, .inl v5), (7, .inl v7)], [.inl v7, .inr (.inr v1), .inl v5, .inl v3, .inr (.inr 402)], M105)
        refine mm_s1 rfl ⟨(nn_c402 NN).1, ?_⟩
        refine nn_call (D := 9) (by decide) (h n L N C1) ?_
        intro v M113 q; clear L N h
        obtain ⟨rfl, L, N, h⟩ := q
        show mm_Go (mm_run 9) mc_Reader_split _ (116, [(0, .inr (.inr 402)), (1, .inr (.inr v1)), (2, .inl v2), (3, .inl v3), (4, .inl v4), (5, .inl v5), (7, .inl v7)], [], M113)
        refine mm_s1 rfl ?_
        show mm_Go (mm_run 9) mc_Reader_split _ (119, [(0, .inr (.inr 402)), (1, .inr (.inr v1)), (2, .inl v2), (3, .inl (mm_w (v3 + 1))), (4, .inl v4), (5, .inl v5), (7, .inl v7)], [], M113)
        refine mm_s1 rfl ?_
        show mm_Go (mm_run 9) mc_Reader_split _ (122, [(0, .inr (.inr 402)), (1, .inr (.inr v1)), (2, .inl v2), (3, .inl (mm_w (v3 + 1))), (4, .inl (mm_w (v4 + 1))), (5, .inl v5), (7, .inl v7)], [], M113)
        refine mm_s1 rfl ?_
        show mm_Go (mm_run 9) mc_Reader_split _ (5, [(0, .inr (.inr 402)), (1, .inr (.inr v1)), (2, .inl v2), (3, .inl (mm_w (v3 + 1))), (4, .inl (mm_w (v4 + 1))), (5, .inl v5), (7, .inl v7)], [], M113)
        exact nn_go_ext (nn_xc rfl (nn_xc rfl (nn_xc rfl (nn_xc rfl (nn_xc rfl nn_xn))))) (h n L N C1)
      · show mm_Go (mm_run 9) mc_Reader_split _ (92, [(0, .inr (.inr 402)), (1, .inr (.inr v1)), (2, .inl v2), (3, .inl v3), (4, .inl v4), (5, .inl v5), (7, .inl v7)], [], M86)
        replace c89 := Decidable.not_not.mp c89
        replace h := h.2 c89
        refine mm_s1 rfl ?_
        show mm_Go (mm_run 9) mc_Reader_split _ (95, [(0, .inr (.inr 402)), (1, .inr (.inr v1)), (2, .inl v2), (3, .inl v3), (4, .inl v4), (5, .inl v5), (7, .inl (mm_w (v7 + 1)))], [], M86)
        refine mm_s1 rfl ?_
        show mm_Go (mm_run 9) mc_Reader_split _ (68, [(0, .inr (.inr 402)), (1, .inr (.inr v1)), (2, .inl v2), (3, .inl v3), (4, .inl v4), (5, .inl v5), (7, .inl (mm_w (v7 + 1)))], [], M86)
        exact nn_go_ext (nn_xc rfl (nn_xc rfl (nn_xc rfl (nn_xc rfl (nn_xc rfl (nn_xc rfl (nn_xc rfl nn_xn))))))) (h n L N C1)
def nr_M_puts (v1 : Int) (v2 : Int) (v3 : Int) (v4 : Int) (M : mm_M) (R : Int → mm_M → Prop) : Prop := ∀ n, nn_L M → M.1 = n → mm_run 10 mi_M_puts [.inr (.inr 407), .inl v1, .inl v2, .inl v3, .inl v4] M (nw_I n R)
def nk_M_puts_3 (v1 : Int) (v2 : Int) (v3 : Int) (v4 : Int) (v5 : Int) (M : mm_M) (R : Int → mm_M → Prop) : Prop := ∀ n, nn_L M → M.1 = n → mm_Go (mm_run 9) mc_M_puts (nw_I n R) (3, [(0, .inr (.inr 407)), (1, .inl v1), (2, .inl v2), (3, .inl v3), (4, .inl v4), (5, .inl v5)], [], M)
theorem ng_M_puts (v1 : Int) (v2 : Int) (v3 : Int) (v4 : Int) (M : mm_M) (R : Int → mm_M → Prop) (h : nk_M_puts_3 v1 v2 v3 v4 0 M R) : nr_M_puts v1 v2 v3 v4 M R := by
  intro n L N 
  have NN := nn_L_n L N
  show mm_Go (mm_run 9) mc_M_puts _ (0, [(0, .inr (.inr 407)), (1, .inl v1), (2, .inl v2), (3, .inl v3), (4, .inl v4)], [], M)
  refine mm_s1 rfl ?_
  refine mm_s1 rfl ?_
  show mm_Go (mm_run 9) mc_M_puts _ (3, [(0, .inr (.inr 407)), (1, .inl v1), (2, .inl v2), (3, .inl v3), (4, .inl v4), (5, .inl 0)], [], M)
  exact nn_go_ext (nn_xc rfl (nn_xc rfl (nn_xc rfl (nn_xc rfl (nn_xc rfl (nn_xc rfl nn_xn)))))) (h n L N)
theorem ng_M_puts_3 (v1 : Int) (v2 : Int) (v3 : Int) (v4 : Int) (v5 : Int) (M : mm_M) (R : Int → mm_M → Prop) (h : ((4 ≤ v5 → (nr_M_writes v1 v3 v4 M (fun r152 M152 => R r152 M152))) ∧ (v5 < 4 → ((0 ≤ (mm_w ((nf_M_at v1 v5) + 0)) ∧ (mm_w ((nf_M_at v1 v5) + 0)) < 32844) ∧ ((((nn_ri M 408 (mm_w ((nf_M_at v1 v5) + 0))) = 2) → (0 ≤ (mm_w ((nf_M_at v1 v5) + 1)) ∧ (mm_w ((nf_M_at v1 v5) + 1)) < 32844)) ∧ (((nn_ri M 408 (mm_w ((nf_M_at v1 v5) + 0))) ≠ 2 ∨ ((nn_ri M 408 (mm_w ((nf_M_at v1 v5) + 1))) = 0)) → nk_M_puts_3 v1 v2 v3 v4 (mm_w (v5 + 1)) M R) ∧ (((nn_ri M 408 (mm_w ((nf_M_at v1 v5) + 0))) = 2 ∧ ((nn_ri M 408 (mm_w ((nf_M_at v1 v5) + 1))) ≠ 0)) → (nr_M_wants (nf_M_at v1 v5) v4 M (fun r47 M47 => ((r47 ≠ 0 → (nr_M_valueOf (nf_M_at v1 v5) v4 M47 (fun r66 M66 => (nr_M_other v1 (nf_M_at v1 v5) v3 r66 M66 (fun r69 M69 => ((0 ≤ r69 → ((0 ≤ (mm_w (v1 + 6)) ∧ (mm_w (v1 + 6)) < 32844) ∧ ((0 ≤ (mm_w (v1 + 6)) ∧ (mm_w (v1 + 6)) < 32844) ∧ (∀ M94 : mm_M, M94 = nn_ui M69 408 (mm_w (v1 + 6)) (mm_w ((nn_ri M69 408 (mm_w (v1 + 6))) + 1)) → (nr_M_valueOf (nf_M_at v1 v5) v4 M94 (fun r106 M106 => (nr_M_whys v1 v2 v3 v5 r106 M106 (fun M109 => ((0 ≤ (mm_w (v1 + 13)) ∧ (mm_w (v1 + 13)) < 32844) ∧ (∀ M122 : mm_M, M122 = nn_ui M109 408 (mm_w (v1 + 13)) r69 → (nr_M_stampOf v1 r69 M122 (fun r135 M135 => ((0 ≤ (mm_w (v1 + 14)) ∧ (mm_w (v1 + 14)) < 32844) ∧ (∀ M138 : mm_M, M138 = nn_ui M135 408 (mm_w (v1 + 14)) r135 → R (-1) M138)))))))))))))) ∧ (r69 < 0 → nk_M_puts_3 v1 v2 v3 v4 (mm_w (v5 + 1)) M69 R))))))) ∧ (r47 = 0 → nk_M_puts_3 v1 v2 v3 v4 (mm_w (v5 + 1)) M47 R)))))))))) : nk_M_puts_3 v1 v2 v3 v4 v5 M R := by
  intro n L N 
  have NN := nn_L_n L N
  show mm_Go (mm_run 9) mc_M_puts _ (3, [(0, .inr (.inr 407)), (1, .inl v1), (2, .inl v2), (3, .inl v3), (4, .inl v4), (5, .inl v5)], [], M)
  refine mm_s1 rfl ?_
  refine mm_s1 rfl ?_
  refine mm_s1 rfl ⟨fun c6 => ?_, fun c6 => ?_⟩
  · show mm_Go (mm_run 9) mc_M_puts _ (147, [(0, .inr (.inr 407)), (1, .inl v1), (2, .inl v2), (3, .inl v3), (4, .inl v4), (5, .inl v5)], [], M)
    replace h := h.1 c6
    refine mm_s1 rfl ?_
    refine mm_s1 rfl ?_
    refine mm_s1 rfl ?_
    refine mm_s1 rfl ?_
    refine mm_s1 rfl ⟨(nn_c407 NN).1, ?_⟩
    refine nn_call (D := 9) (by decide) (h n L N) ?_
    intro v M152 q; clear L N h
    obtain ⟨r152, rfl, L, N, h⟩ := q
    show mm_Go (mm_run 9) mc_M_puts _ (155, [(0, .inr (.inr 407)), (1, .inl v1), (2, .inl v2), (3, .inl v3), (4, .inl v4), (5, .inl v5)], [.inl r152], M152)
    exact mm_s1 rfl ⟨_, rfl, L, N, h⟩
  · show mm_Go (mm_run 9) mc_M_puts _ (9, [(0, .inr (.inr 407)), (1, .inl v1), (2, .inl v2), (3, .inl v3), (4, .inl v4), (5, .inl v5)], [], M)
    replace c6 := Int.not_le.mp c6
    replace h := h.2 c6
    refine mm_s1 rfl ?_
    refine mm_s1 rfl ?_
    refine mm_s1 rfl ⟨trivial, ?_⟩
    refine np_M_at (by decide) L N ?_
    show mm_Go (mm_run 9) mc_M_puts _ (15, [(0, .inr (.inr 407)), (1, .inl v1), (2, .inl v2), (3, .inl v3), (4, .inl v4), (5, .inl v5)], [.inl (nf_M_at v1 v5)], M)
    refine mm_s1 rfl ?_
    show mm_Go (mm_run 9) mc_M_puts _ (17, [(0, .inr (.inr 407)), (1, .inl v1), (2, .inl v2), (3, .inl v3), (4, .inl v4), (5, .inl v5), (6, .inl (nf_M_at v1 v5))], [], M)
    refine mm_s1 rfl ?_
    refine nn_getr rfl (nn_c407 NN).1 (lf_13_0 L N (nn_c407 NN)) ?_
    refine mm_s1 rfl ?_
    refine mm_s1 rfl ?_
    refine mm_s1 rfl ?_
    show mm_Go (mm_run 9) mc_M_puts _ (25, [(0, .inr (.inr 407)), (1, .inl v1), (2, .inl v2), (3, .inl v3), (4, .inl v4), (5, .inl v5), (6, .inl (nf_M_at v1 v5))], [.inl (mm_w ((nf_M_at v1 v5) + 0)), .inr (.inr 408)], M)
    obtain ⟨b25, h⟩ := h
    refine mm_s1 rfl ⟨nn_bd (na_13_0 NN (nn_c407 NN)) b25, ?_⟩
    show mm_Go (mm_run 9) mc_M_puts _ (26, [(0, .inr (.inr 407)), (1, .inl v1), (2, .inl v2), (3, .inl v3), (4, .inl v4), (5, .inl v5), (6, .inl (nf_M_at v1 v5))], [.inl (nn_ri M 408 (mm_w ((nf_M_at v1 v5) + 0)))], M)
    refine mm_s1 rfl ?_
    refine mm_s1 rfl ⟨fun c27 => ?_, fun c27 => ?_⟩
    · show mm_Go (mm_run 9) mc_M_puts _ (141, [(0, .inr (.inr 407)), (1, .inl v1), (2, .inl v2), (3, .inl v3), (4, .inl v4), (5, .inl v5), (6, .inl (nf_M_at v1 v5))], [], M)
      refine mm_s1 rfl ?_
      show mm_Go (mm_run 9) mc_M_puts _ (144, [(0, .inr (.inr 407)), (1, .inl v1), (2, .inl v2), (3, .inl v3), (4, .inl v4), (5, .inl (mm_w (v5 + 1))), (6, .inl (nf_M_at v1 v5))], [], M)
      refine mm_s1 rfl ?_
      show mm_Go (mm_run 9) mc_M_puts _ (3, [(0, .inr (.inr 407)), (1, .inl v1), (2, .inl v2), (3, .inl v3), (4, .inl v4), (5, .inl (mm_w (v5 + 1))), (6, .inl (nf_M_at v1 v5))], [], M)
      replace h := h.2.1 (Or.inl c27)
      exact nn_go_ext (nn_xc rfl (nn_xc rfl (nn_xc rfl (nn_xc rfl (nn_xc rfl (nn_xc rfl nn_xn)))))) (h n L N)
    · show mm_Go (mm_run 9) mc_M_puts _ (30, [(0, .inr (.inr 407)), (1, .inl v1), (2, .inl v2), (3, .inl v3), (4, .inl v4), (5, .inl v5), (6, .inl (nf_M_at v1 v5))], [], M)
      replace c27 := Decidable.not_not.mp c27
      refine mm_s1 rfl ?_
      refine nn_getr rfl (nn_c407 NN).1 (lf_13_0 L N (nn_c407 NN)) ?_
      refine mm_s1 rfl ?_
      refine mm_s1 rfl ?_
      refine mm_s1 rfl ?_
      show mm_Go (mm_run 9) mc_M_puts _ (38, [(0, .inr (.inr 407)), (1, .inl v1), (2, .inl v2), (3, .inl v3), (4, .inl v4), (5, .inl v5), (6, .inl (nf_M_at v1 v5))], [.inl (mm_w ((nf_M_at v1 v5) + 1)), .inr (.inr 408)], M)
      have b38 := h.1 c27
      refine mm_s1 rfl ⟨nn_bd (na_13_0 NN (nn_c407 NN)) b38, ?_⟩
      show mm_Go (mm_run 9) mc_M_puts _ (39, [(0, .inr (.inr 407)), (1, .inl v1), (2, .inl v2), (3, .inl v3), (4, .inl v4), (5, .inl v5), (6, .inl (nf_M_at v1 v5))], [.inl (nn_ri M 408 (mm_w ((nf_M_at v1 v5) + 1)))], M)
      refine mm_s1 rfl ⟨fun c39 => ?_, fun c39 => ?_⟩
      · show mm_Go (mm_run 9) mc_M_puts _ (141, [(0, .inr (.inr 407)), (1, .inl v1), (2, .inl v2), (3, .inl v3), (4, .inl v4), (5, .inl v5), (6, .inl (nf_M_at v1 v5))], [], M)
        refine mm_s1 rfl ?_
        show mm_Go (mm_run 9) mc_M_puts _ (144, [(0, .inr (.inr 407)), (1, .inl v1), (2, .inl v2), (3, .inl v3), (4, .inl v4), (5, .inl (mm_w (v5 + 1))), (6, .inl (nf_M_at v1 v5))], [], M)
        refine mm_s1 rfl ?_
        show mm_Go (mm_run 9) mc_M_puts _ (3, [(0, .inr (.inr 407)), (1, .inl v1), (2, .inl v2), (3, .inl v3), (4, .inl v4), (5, .inl (mm_w (v5 + 1))), (6, .inl (nf_M_at v1 v5))], [], M)
        replace h := h.2.1 (Or.inr c39)
        exact nn_go_ext (nn_xc rfl (nn_xc rfl (nn_xc rfl (nn_xc rfl (nn_xc rfl (nn_xc rfl nn_xn)))))) (h n L N)
      · show mm_Go (mm_run 9) mc_M_puts _ (42, [(0, .inr (.inr 407)), (1, .inl v1), (2, .inl v2), (3, .inl v3), (4, .inl v4), (5, .inl v5), (6, .inl (nf_M_at v1 v5))], [], M)
        refine mm_s1 rfl ?_
        refine mm_s1 rfl ?_
        refine mm_s1 rfl ?_
        replace h := h.2.2 ⟨c27, c39⟩
        refine mm_s1 rfl ⟨(nn_c407 NN).1, ?_⟩
        refine nn_call (D := 3) (by decide) (h n L N) ?_
        intro v M47 q; clear L N h
        obtain ⟨r47, rfl, q47, L, N, h⟩ := q
        show mm_Go (mm_run 9) mc_M_puts _ (50, [(0, .inr (.inr 407)), (1, .inl v1), (2, .inl v2), (3, .inl v3), (4, .inl v4), (5, .inl v5), (6, .inl (nf_M_at v1 v5))], [.inl r47], M47)
        refine mm_s1 rfl ⟨fun c50 => ?_, fun c50 => ?_⟩
        · show mm_Go (mm_run 9) mc_M_puts _ (56, [(0, .inr (.inr 407)), (1, .inl v1), (2, .inl v2), (3, .inl v3), (4, .inl v4), (5, .inl v5), (6, .inl (nf_M_at v1 v5))], [], M47)
          replace h := h.1 c50
          refine mm_s1 rfl ?_
          refine mm_s1 rfl ?_
          refine mm_s1 rfl ?_
          refine mm_s1 rfl ?_
          refine mm_s1 rfl ?_
          show mm_Go (mm_run 9) mc_M_puts _ (62, [(0, .inr (.inr 407)), (1, .inl v1), (2, .inl v2), (3, .inl v3), (4, .inl v4), (5, .inl v5), (6, .inl (nf_M_at v1 v5))], [.inr (.inr 407), .inl v3, .inl (nf_M_at v1 v5), .inl v1, .inr (.inr 407)], M47)
          refine mm_s1 rfl ?_
          refine mm_s1 rfl ?_
          refine mm_s1 rfl ⟨(nn_c407 NN).1, ?_⟩
          refine nn_call (D := 3) (by decide) (h n L N) ?_
          intro v M66 q; clear L N h
          obtain ⟨r66, rfl, L, N, h⟩ := q
          show mm_Go (mm_run 9) mc_M_puts _ (69, [(0, .inr (.inr 407)), (1, .inl v1), (2, .inl v2), (3, .inl v3), (4, .inl v4), (5, .inl v5), (6, .inl (nf_M_at v1 v5))], [.inl r66, .inl v3, .inl (nf_M_at v1 v5), .inl v1, .inr (.inr 407)], M66)
          refine mm_s1 rfl ⟨(nn_c407 NN).1, ?_⟩
          refine nn_call (D := 5) (by decide) (h n L N) ?_
          intro v M69 q; clear L N h
          obtain ⟨r69, rfl, L, N, h⟩ := q
          show mm_Go (mm_run 9) mc_M_puts _ (72, [(0, .inr (.inr 407)), (1, .inl v1), (2, .inl v2), (3, .inl v3), (4, .inl v4), (5, .inl v5), (6, .inl (nf_M_at v1 v5))], [.inl r69], M69)
          refine mm_s1 rfl ?_
          show mm_Go (mm_run 9) mc_M_puts _ (74, [(0, .inr (.inr 407)), (1, .inl v1), (2, .inl v2), (3, .inl v3), (4, .inl v4), (5, .inl v5), (6, .inl (nf_M_at v1 v5)), (7, .inl r69)], [], M69)
          refine mm_s1 rfl ?_
          refine mm_s1 rfl ⟨fun c76 => ?_, fun c76 => ?_⟩
          · show mm_Go (mm_run 9) mc_M_puts _ (82, [(0, .inr (.inr 407)), (1, .inl v1), (2, .inl v2), (3, .inl v3), (4, .inl v4), (5, .inl v5), (6, .inl (nf_M_at v1 v5)), (7, .inl r69)], [], M69)
            replace h := h.1 c76
            refine mm_s1 rfl ?_
            refine nn_getr rfl (nn_c407 NN).1 (lf_13_0 L N (nn_c407 NN)) ?_
            refine mm_s1 rfl ?_
            refine mm_s1 rfl ?_
            refine mm_s1 rfl ?_
            show mm_Go (mm_run 9) mc_M_puts _ (90, [(0, .inr (.inr 407)), (1, .inl v1), (2, .inl v2), (3, .inl v3), (4, .inl v4), (5, .inl v5), (6, .inl (nf_M_at v1 v5)), (7, .inl r69)], [.inl (mm_w (v1 + 6)), .inr (.inr 408)], M69)
            refine mm_s1 rfl ?_
            obtain ⟨b91, h⟩ := h
            refine mm_s1 rfl ⟨nn_bd (na_13_0 NN (nn_c407 NN)) b91, ?_⟩
            show mm_Go (mm_run 9) mc_M_puts _ (92, [(0, .inr (.inr 407)), (1, .inl v1), (2, .inl v2), (3, .inl v3), (4, .inl v4), (5, .inl v5), (6, .inl (nf_M_at v1 v5)), (7, .inl r69)], [.inl (nn_ri M69 408 (mm_w (v1 + 6))), .inl (mm_w (v1 + 6)), .inr (.inr 408)], M69)
            refine mm_s1 rfl ?_
            refine mm_s1 rfl ?_
            obtain ⟨b94, h⟩ := h
            refine mm_s1 rfl ⟨nn_bd (na_13_0 NN (nn_c407 NN)) b94, ?_⟩
            show mm_Go (mm_run 9) mc_M_puts _ (95, [(0, .inr (.inr 407)), (1, .inl v1), (2, .inl v2), (3, .inl v3), (4, .inl v4), (5, .inl v5), (6, .inl (nf_M_at v1 v5)), (7, .inl r69)], [], (nn_ui M69 408 (mm_w (v1 + 6)) (mm_w ((nn_ri M69 408 (mm_w (v1 + 6))) + 1))))
            have L : nn_L (nn_ui M69 408 (mm_w (v1 + 6)) (mm_w ((nn_ri M69 408 (mm_w (v1 + 6))) + 1))) := nn_L_ua L (congrArg Prod.fst (na_13_0 NN (nn_c407 NN))) (by decide)
            have N : (nn_ui M69 408 (mm_w (v1 + 6)) (mm_w ((nn_ri M69 408 (mm_w (v1 + 6))) + 1))).1 = n := N
            replace h := h _ rfl
            generalize nn_ui M69 408 (mm_w (v1 + 6)) (mm_w ((nn_ri M69 408 (mm_w (v1 + 6))) + 1)) = M94 at h L N ⊢
            show mm_Go (mm_run 9) mc_M_puts _ (95, [(0, .inr (.inr 407)), (1, .inl v1), (2, .inl v2), (3, .inl v3), (4, .inl v4), (5, .inl v5), (6, .inl (nf_M_at v1 v5)), (7, .inl r69)], [], M94)
            refine mm_s1 rfl ?_
            refine mm_s1 rfl ?_
            refine mm_s1 rfl ?_
            refine mm_s1 rfl ?_
            refine mm_s1 rfl ?_
            show mm_Go (mm_run 9) mc_M_puts _ (101, [(0, .inr (.inr 407)), (1, .inl v1), (2, .inl v2), (3, .inl v3), (4, .inl v4), (5, .inl v5), (6, .inl (nf_M_at v1 v5)), (7, .inl r69)], [.inl v5, .inl v3, .inl v2, .inl v1, .inr (.inr 407)], M94)
            refine mm_s1 rfl ?_
            refine mm_s1 rfl ?_
            refine mm_s1 rfl ?_
            refine mm_s1 rfl ⟨(nn_c407 NN).1, ?_⟩
            refine nn_call (D := 3) (by decide) (h n L N) ?_
            intro v M106 q; clear L N h
            obtain ⟨r106, rfl, L, N, h⟩ := q
            show mm_Go (mm_run 9) mc_M_puts _ (109, [(0, .inr (.inr 407)), (1, .inl v1), (2, .inl v2), (3, .inl v3), (4, .inl v4), (5, .inl v5), (6, .inl (nf_M_at v1 v5)), (7, .inl r69)], [.inl r106, .inl v5, .inl v3, .inl v2, .inl v1, .inr (.inr 407)], M106)
            refine mm_s1 rfl ⟨(nn_c407 NN).1, ?_⟩
            refine nn_call (D := 1) (by decide) (h n L N) ?_
            intro v M109 q; clear L N h
            obtain ⟨rfl, L, N, h⟩ := q
            show mm_Go (mm_run 9) mc_M_puts _ (112, [(0, .inr (.inr 407)), (1, .inl v1), (2, .inl v2), (3, .inl v3), (4, .inl v4), (5, .inl v5), (6, .inl (nf_M_at v1 v5)), (7, .inl r69)], [], M109)
            refine mm_s1 rfl ?_
            refine nn_getr rfl (nn_c407 NN).1 (lf_13_0 L N (nn_c407 NN)) ?_
            refine mm_s1 rfl ?_
            refine mm_s1 rfl ?_
            refine mm_s1 rfl ?_
            show mm_Go (mm_run 9) mc_M_puts _ (120, [(0, .inr (.inr 407)), (1, .inl v1), (2, .inl v2), (3, .inl v3), (4, .inl v4), (5, .inl v5), (6, .inl (nf_M_at v1 v5)), (7, .inl r69)], [.inl (mm_w (v1 + 13)), .inr (.inr 408)], M109)
            refine mm_s1 rfl ?_
            obtain ⟨b122, h⟩ := h
            refine mm_s1 rfl ⟨nn_bd (na_13_0 NN (nn_c407 NN)) b122, ?_⟩
            show mm_Go (mm_run 9) mc_M_puts _ (123, [(0, .inr (.inr 407)), (1, .inl v1), (2, .inl v2), (3, .inl v3), (4, .inl v4), (5, .inl v5), (6, .inl (nf_M_at v1 v5)), (7, .inl r69)], [], (nn_ui M109 408 (mm_w (v1 + 13)) r69))
            have L : nn_L (nn_ui M109 408 (mm_w (v1 + 13)) r69) := nn_L_ua L (congrArg Prod.fst (na_13_0 NN (nn_c407 NN))) (by decide)
            have N : (nn_ui M109 408 (mm_w (v1 + 13)) r69).1 = n := N
            replace h := h _ rfl
            generalize nn_ui M109 408 (mm_w (v1 + 13)) r69 = M122 at h L N ⊢
            show mm_Go (mm_run 9) mc_M_puts _ (123, [(0, .inr (.inr 407)), (1, .inl v1), (2, .inl v2), (3, .inl v3), (4, .inl v4), (5, .inl v5), (6, .inl (nf_M_at v1 v5)), (7, .inl r69)], [], M122)
            refine mm_s1 rfl ?_
            refine nn_getr rfl (nn_c407 NN).1 (lf_13_0 L N (nn_c407 NN)) ?_
            refine mm_s1 rfl ?_
            refine mm_s1 rfl ?_
            refine mm_s1 rfl ?_
            show mm_Go (mm_run 9) mc_M_puts _ (131, [(0, .inr (.inr 407)), (1, .inl v1), (2, .inl v2), (3, .inl v3), (4, .inl v4), (5, .inl v5), (6, .inl (nf_M_at v1 v5)), (7, .inl r69)], [.inl (mm_w (v1 + 14)), .inr (.inr 408)], M122)
            refine mm_s1 rfl ?_
            refine mm_s1 rfl ?_
            refine mm_s1 rfl ?_
            refine mm_s1 rfl ⟨(nn_c407 NN).1, ?_⟩
            refine nn_call (D := 3) (by decide) (h n L N) ?_
            intro v M135 q; clear L N h
            obtain ⟨r135, rfl, L, N, h⟩ := q
            show mm_Go (mm_run 9) mc_M_puts _ (138, [(0, .inr (.inr 407)), (1, .inl v1), (2, .inl v2), (3, .inl v3), (4, .inl v4), (5, .inl v5), (6, .inl (nf_M_at v1 v5)), (7, .inl r69)], [.inl r135, .inl (mm_w (v1 + 14)), .inr (.inr 408)], M135)
            obtain ⟨b138, h⟩ := h
            refine mm_s1 rfl ⟨nn_bd (na_13_0 NN (nn_c407 NN)) b138, ?_⟩
            show mm_Go (mm_run 9) mc_M_puts _ (139, [(0, .inr (.inr 407)), (1, .inl v1), (2, .inl v2), (3, .inl v3), (4, .inl v4), (5, .inl v5), (6, .inl (nf_M_at v1 v5)), (7, .inl r69)], [], (nn_ui M135 408 (mm_w (v1 + 14)) r135))
            have L : nn_L (nn_ui M135 408 (mm_w (v1 + 14)) r135) := nn_L_ua L (congrArg Prod.fst (na_13_0 NN (nn_c407 NN))) (by decide)
            have N : (nn_ui M135 408 (mm_w (v1 + 14)) r135).1 = n := N
            replace h := h _ rfl
            generalize nn_ui M135 408 (mm_w (v1 + 14)) r135 = M138 at h L N ⊢
            show mm_Go (mm_run 9) mc_M_puts _ (139, [(0, .inr (.inr 407)), (1, .inl v1), (2, .inl v2), (3, .inl v3), (4, .inl v4), (5, .inl v5), (6, .inl (nf_M_at v1 v5)), (7, .inl r69)], [], M138)
            refine mm_s1 rfl ?_
            exact mm_s1 rfl ⟨_, rfl, L, N, h⟩
          · show mm_Go (mm_run 9) mc_M_puts _ (79, [(0, .inr (.inr 407)), (1, .inl v1), (2, .inl v2), (3, .inl v3), (4, .inl v4), (5, .inl v5), (6, .inl (nf_M_at v1 v5)), (7, .inl r69)], [], M69)
            replace c76 := Int.not_le.mp c76
            replace h := h.2 c76
            refine mm_s1 rfl ?_
            show mm_Go (mm_run 9) mc_M_puts _ (141, [(0, .inr (.inr 407)), (1, .inl v1), (2, .inl v2), (3, .inl v3), (4, .inl v4), (5, .inl v5), (6, .inl (nf_M_at v1 v5)), (7, .inl r69)], [], M69)
            refine mm_s1 rfl ?_
            show mm_Go (mm_run 9) mc_M_puts _ (144, [(0, .inr (.inr 407)), (1, .inl v1), (2, .inl v2), (3, .inl v3), (4, .inl v4), (5, .inl (mm_w (v5 + 1))), (6, .inl (nf_M_at v1 v5)), (7, .inl r69)], [], M69)
            refine mm_s1 rfl ?_
            show mm_Go (mm_run 9) mc_M_puts _ (3, [(0, .inr (.inr 407)), (1, .inl v1), (2, .inl v2), (3, .inl v3), (4, .inl v4), (5, .inl (mm_w (v5 + 1))), (6, .inl (nf_M_at v1 v5)), (7, .inl r69)], [], M69)
            exact nn_go_ext (nn_xc rfl (nn_xc rfl (nn_xc rfl (nn_xc rfl (nn_xc rfl (nn_xc rfl nn_xn)))))) (h n L N)
        · show mm_Go (mm_run 9) mc_M_puts _ (53, [(0, .inr (.inr 407)), (1, .inl v1), (2, .inl v2), (3, .inl v3), (4, .inl v4), (5, .inl v5), (6, .inl (nf_M_at v1 v5))], [], M47)
          replace c50 := Decidable.not_not.mp c50
          replace h := h.2 c50
          refine mm_s1 rfl ?_
          show mm_Go (mm_run 9) mc_M_puts _ (141, [(0, .inr (.inr 407)), (1, .inl v1), (2, .inl v2), (3, .inl v3), (4, .inl v4), (5, .inl v5), (6, .inl (nf_M_at v1 v5))], [], M47)
          refine mm_s1 rfl ?_
          show mm_Go (mm_run 9) mc_M_puts _ (144, [(0, .inr (.inr 407)), (1, .inl v1), (2, .inl v2), (3, .inl v3), (4, .inl v4), (5, .inl (mm_w (v5 + 1))), (6, .inl (nf_M_at v1 v5))], [], M47)
          refine mm_s1 rfl ?_
          show mm_Go (mm_run 9) mc_M_puts _ (3, [(0, .inr (.inr 407)), (1, .inl v1), (2, .inl v2), (3, .inl v3), (4, .inl v4), (5, .inl (mm_w (v5 + 1))), (6, .inl (nf_M_at v1 v5))], [], M47)
          exact nn_go_ext (nn_xc rfl (nn_xc rfl (nn_xc rfl (nn_xc rfl (nn_xc rfl (nn_xc rfl nn_xn)))))) (h n L N)
def nr_M_remove (v1 : Int) (M : mm_M) (R : Int → mm_M → Prop) : Prop := ∀ n, nn_L M → M.1 = n → mm_run 10 mi_M_remove [.inr (.inr 407), .inl v1] M (nw_I n R)
theorem ng_M_remove (v1 : Int) (M : mm_M) (R : Int → mm_M → Prop) (h : (((nf_M_isKey v1) = 0 → R (-1) M) ∧ ((nf_M_isKey v1) ≠ 0 → (nr_M_writes 0 v1 (-1) M (fun r11 M11 => R r11 M11))))) : nr_M_remove v1 M R := by
  intro n L N 
  have NN := nn_L_n L N
  show mm_Go (mm_run 9) mc_M_remove _ (0, [(0, .inr (.inr 407)), (1, .inl v1)], [], M)
  refine mm_s1 rfl ?_
  refine mm_s1 rfl ⟨trivial, ?_⟩
  refine np_M_isKey (by decide) L N ?_
  show mm_Go (mm_run 9) mc_M_remove _ (4, [(0, .inr (.inr 407)), (1, .inl v1)], [.inl (nf_M_isKey v1)], M)
  refine mm_s1 rfl ⟨fun c4 => ?_, fun c4 => ?_⟩
  · show mm_Go (mm_run 9) mc_M_remove _ (17, [(0, .inr (.inr 407)), (1, .inl v1)], [], M)
    replace h := h.1 c4
    refine mm_s1 rfl ?_
    exact mm_s1 rfl ⟨_, rfl, L, N, h⟩
  · show mm_Go (mm_run 9) mc_M_remove _ (7, [(0, .inr (.inr 407)), (1, .inl v1)], [], M)
    replace h := h.2 c4
    refine mm_s1 rfl ?_
    refine mm_s1 rfl ?_
    refine mm_s1 rfl ?_
    refine mm_s1 rfl ?_
    refine mm_s1 rfl ⟨(nn_c407 NN).1, ?_⟩
    refine nn_call (D := 9) (by decide) (h n L N) ?_
    intro v M11 q; clear L N h
    obtain ⟨r11, rfl, L, N, h⟩ := q
    show mm_Go (mm_run 9) mc_M_remove _ (14, [(0, .inr (.inr 407)), (1, .inl v1)], [.inl r11], M11)
    refine mm_s1 rfl ?_
    show mm_Go (mm_run 9) mc_M_remove _ (18, [(0, .inr (.inr 407)), (1, .inl v1)], [.inl r11], M11)
    exact mm_s1 rfl ⟨_, rfl, L, N, h⟩
def nr_M_counts (v1 : Int) (v2 : Int) (M : mm_M) (R : Int → mm_M → Prop) : Prop := ∀ n, nn_L M → M.1 = n → mm_run 10 mi_M_counts [.inr (.inr 407), .inl v1, .inl v2] M (nw_I n R)
theorem ng_M_counts (v1 : Int) (v2 : Int) (M : mm_M) (R : Int → mm_M → Prop) (h : ((v2 = 0 → ((0 ≤ (mm_w (v1 + 0)) ∧ (mm_w (v1 + 0)) < 32844) ∧ R (nn_ri M 408 (mm_w (v1 + 0))) M)) ∧ (v2 = 1 → ((0 ≤ (mm_w (v1 + 1)) ∧ (mm_w (v1 + 1)) < 32844) ∧ R (nn_ri M 408 (mm_w (v1 + 1))) M)) ∧ (v2 = 2 → (nr_M_inMemory v1 M (fun r92 M92 => R r92 M92))) ∧ (v2 = 3 → ((0 ≤ (mm_w (v1 + 5)) ∧ (mm_w (v1 + 5)) < 32844) ∧ R (nn_ri M 408 (mm_w (v1 + 5))) M)) ∧ (v2 = 4 → (nr_M_versions v1 0 M (fun r108 M108 => R r108 M108))) ∧ (v2 = 5 → (nr_M_there v1 M (fun r114 M114 => R r114 M114))) ∧ (v2 = 6 → (nr_M_versions v1 1 M (fun r121 M121 => R r121 M121))) ∧ (v2 = 7 → (nr_M_sure v1 M (fun r127 M127 => R r127 M127))) ∧ (v2 = 8 → (nr_M_leftOver v1 M (fun r133 M133 => R r133 M133))) ∧ (v2 = 9 → (nr_M_cursors v1 M (fun r139 M139 => R r139 M139))) ∧ (v2 = 10 → (nr_M_indexes v1 M (fun r145 M145 => R r145 M145))) ∧ (v2 = 11 → ((0 ≤ (mm_w (v1 + 6)) ∧ (mm_w (v1 + 6)) < 32844) ∧ R (nn_ri M 408 (mm_w (v1 + 6))) M)) ∧ (v2 = 12 → ((0 ≤ (mm_w (v1 + 7)) ∧ (mm_w (v1 + 7)) < 32844) ∧ R (nn_ri M 408 (mm_w (v1 + 7))) M)) ∧ (v2 = 13 → (nr_M_merging v1 M (fun r171 M171 => R r171 M171))) ∧ ((v2 < 0 ∨ 13 < v2) → R (-1) M))) : nr_M_counts v1 v2 M R := by
  intro n L N 
  have NN := nn_L_n L N
  show mm_Go (mm_run 9) mc_M_counts _ (0, [(0, .inr (.inr 407)), (1, .inl v1), (2, .inl v2)], [], M)
  refine mm_s1 rfl ?_
  refine nn_sw rfl (by decide) (fun k hk hx => ?_) (fun c1 => ?_)
  · match k, hk, hx with
    | 0, _, hx =>
      have c1 : v2 = 0 := hx.trans (by decide)
      replace h := h.1 c1
      show mm_Go (mm_run 9) mc_M_counts _ (72, [(0, .inr (.inr 407)), (1, .inl v1), (2, .inl v2)], [], M)
      refine mm_s1 rfl ?_
      refine nn_getr rfl (nn_c407 NN).1 (lf_13_0 L N (nn_c407 NN)) ?_
      refine mm_s1 rfl ?_
      refine mm_s1 rfl ?_
      refine mm_s1 rfl ?_
      show mm_Go (mm_run 9) mc_M_counts _ (79, [(0, .inr (.inr 407)), (1, .inl v1), (2, .inl v2)], [.inl (mm_w (v1 + 0)), .inr (.inr 408)], M)
      obtain ⟨b79, h⟩ := h
      refine mm_s1 rfl ⟨nn_bd (na_13_0 NN (nn_c407 NN)) b79, ?_⟩
      show mm_Go (mm_run 9) mc_M_counts _ (80, [(0, .inr (.inr 407)), (1, .inl v1), (2, .inl v2)], [.inl (nn_ri M 408 (mm_w (v1 + 0)))], M)
      exact mm_s1 rfl ⟨_, rfl, L, N, h⟩
    | 1, _, hx =>
      have c1 : v2 = 1 := hx.trans (by decide)
      replace h := h.2.1 c1
      show mm_Go (mm_run 9) mc_M_counts _ (81, [(0, .inr (.inr 407)), (1, .inl v1), (2, .inl v2)], [], M)
      refine mm_s1 rfl ?_
      refine nn_getr rfl (nn_c407 NN).1 (lf_13_0 L N (nn_c407 NN)) ?_
      refine mm_s1 rfl ?_
      refine mm_s1 rfl ?_
      refine mm_s1 rfl ?_
      show mm_Go (mm_run 9) mc_M_counts _ (88, [(0, .inr (.inr 407)), (1, .inl v1), (2, .inl v2)], [.inl (mm_w (v1 + 1)), .inr (.inr 408)], M)
      obtain ⟨b88, h⟩ := h
      refine mm_s1 rfl ⟨nn_bd (na_13_0 NN (nn_c407 NN)) b88, ?_⟩
      show mm_Go (mm_run 9) mc_M_counts _ (89, [(0, .inr (.inr 407)), (1, .inl v1), (2, .inl v2)], [.inl (nn_ri M 408 (mm_w (v1 + 1)))], M)
      exact mm_s1 rfl ⟨_, rfl, L, N, h⟩
    | 2, _, hx =>
      have c1 : v2 = 2 := hx.trans (by decide)
      replace h := h.2.2.1 c1
      show mm_Go (mm_run 9) mc_M_counts _ (90, [(0, .inr (.inr 407)), (1, .inl v1), (2, .inl v2)], [], M)
      refine mm_s1 rfl ?_
      refine mm_s1 rfl ?_
      refine mm_s1 rfl ⟨(nn_c407 NN).1, ?_⟩
      refine nn_call (D := 1) (by decide) (h n L N) ?_
      intro v M92 q; clear L N h
      obtain ⟨r92, rfl, L, N, h⟩ := q
      show mm_Go (mm_run 9) mc_M_counts _ (95, [(0, .inr (.inr 407)), (1, .inl v1), (2, .inl v2)], [.inl r92], M92)
      exact mm_s1 rfl ⟨_, rfl, L, N, h⟩
    | 3, _, hx =>
      have c1 : v2 = 3 := hx.trans (by decide)
      replace h := h.2.2.2.1 c1
      show mm_Go (mm_run 9) mc_M_counts _ (96, [(0, .inr (.inr 407)), (1, .inl v1), (2, .inl v2)], [], M)
      refine mm_s1 rfl ?_
      refine nn_getr rfl (nn_c407 NN).1 (lf_13_0 L N (nn_c407 NN)) ?_
      refine mm_s1 rfl ?_
      refine mm_s1 rfl ?_
      refine mm_s1 rfl ?_
      show mm_Go (mm_run 9) mc_M_counts _ (103, [(0, .inr (.inr 407)), (1, .inl v1), (2, .inl v2)], [.inl (mm_w (v1 + 5)), .inr (.inr 408)], M)
      obtain ⟨b103, h⟩ := h
      refine mm_s1 rfl ⟨nn_bd (na_13_0 NN (nn_c407 NN)) b103, ?_⟩
      show mm_Go (mm_run 9) mc_M_counts _ (104, [(0, .inr (.inr 407)), (1, .inl v1), (2, .inl v2)], [.inl (nn_ri M 408 (mm_w (v1 + 5)))], M)
      exact mm_s1 rfl ⟨_, rfl, L, N, h⟩
    | 4, _, hx =>
      have c1 : v2 = 4 := hx.trans (by decide)
      replace h := h.2.2.2.2.1 c1
      show mm_Go (mm_run 9) mc_M_counts _ (105, [(0, .inr (.inr 407)), (1, .inl v1), (2, .inl v2)], [], M)
      refine mm_s1 rfl ?_
      refine mm_s1 rfl ?_
      refine mm_s1 rfl ?_
      refine mm_s1 rfl ⟨(nn_c407 NN).1, ?_⟩
      refine nn_call (D := 2) (by decide) (h n L N) ?_
      intro v M108 q; clear L N h
      obtain ⟨r108, rfl, L, N, h⟩ := q
      show mm_Go (mm_run 9) mc_M_counts _ (111, [(0, .inr (.inr 407)), (1, .inl v1), (2, .inl v2)], [.inl r108], M108)
      exact mm_s1 rfl ⟨_, rfl, L, N, h⟩
    | 5, _, hx =>
      have c1 : v2 = 5 := hx.trans (by decide)
      replace h := h.2.2.2.2.2.1 c1
      show mm_Go (mm_run 9) mc_M_counts _ (112, [(0, .inr (.inr 407)), (1, .inl v1), (2, .inl v2)], [], M)
      refine mm_s1 rfl ?_
      refine mm_s1 rfl ?_
      refine mm_s1 rfl ⟨(nn_c407 NN).1, ?_⟩
      refine nn_call (D := 4) (by decide) (h n L N) ?_
      intro v M114 q; clear L N h
      obtain ⟨r114, rfl, L, N, h⟩ := q
      show mm_Go (mm_run 9) mc_M_counts _ (117, [(0, .inr (.inr 407)), (1, .inl v1), (2, .inl v2)], [.inl r114], M114)
      exact mm_s1 rfl ⟨_, rfl, L, N, h⟩
    | 6, _, hx =>
      have c1 : v2 = 6 := hx.trans (by decide)
      replace h := h.2.2.2.2.2.2.1 c1
      show mm_Go (mm_run 9) mc_M_counts _ (118, [(0, .inr (.inr 407)), (1, .inl v1), (2, .inl v2)], [], M)
      refine mm_s1 rfl ?_
      refine mm_s1 rfl ?_
      refine mm_s1 rfl ?_
      refine mm_s1 rfl ⟨(nn_c407 NN).1, ?_⟩
      refine nn_call (D := 2) (by decide) (h n L N) ?_
      intro v M121 q; clear L N h
      obtain ⟨r121, rfl, L, N, h⟩ := q
      show mm_Go (mm_run 9) mc_M_counts _ (124, [(0, .inr (.inr 407)), (1, .inl v1), (2, .inl v2)], [.inl r121], M121)
      exact mm_s1 rfl ⟨_, rfl, L, N, h⟩
    | 7, _, hx =>
      have c1 : v2 = 7 := hx.trans (by decide)
      replace h := h.2.2.2.2.2.2.2.1 c1
      show mm_Go (mm_run 9) mc_M_counts _ (125, [(0, .inr (.inr 407)), (1, .inl v1), (2, .inl v2)], [], M)
      refine mm_s1 rfl ?_
      refine mm_s1 rfl ?_
      refine mm_s1 rfl ⟨(nn_c407 NN).1, ?_⟩
      refine nn_call (D := 3) (by decide) (h n L N) ?_
      intro v M127 q; clear L N h
      obtain ⟨r127, rfl, L, N, h⟩ := q
      show mm_Go (mm_run 9) mc_M_counts _ (130, [(0, .inr (.inr 407)), (1, .inl v1), (2, .inl v2)], [.inl r127], M127)
      exact mm_s1 rfl ⟨_, rfl, L, N, h⟩
    | 8, _, hx =>
      have c1 : v2 = 8 := hx.trans (by decide)
      replace h := h.2.2.2.2.2.2.2.2.1 c1
      show mm_Go (mm_run 9) mc_M_counts _ (131, [(0, .inr (.inr 407)), (1, .inl v1), (2, .inl v2)], [], M)
      refine mm_s1 rfl ?_
      refine mm_s1 rfl ?_
      refine mm_s1 rfl ⟨(nn_c407 NN).1, ?_⟩
      refine nn_call (D := 3) (by decide) (h n L N) ?_
      intro v M133 q; clear L N h
      obtain ⟨r133, rfl, L, N, h⟩ := q
      show mm_Go (mm_run 9) mc_M_counts _ (136, [(0, .inr (.inr 407)), (1, .inl v1), (2, .inl v2)], [.inl r133], M133)
      exact mm_s1 rfl ⟨_, rfl, L, N, h⟩
    | 9, _, hx =>
      have c1 : v2 = 9 := hx.trans (by decide)
      replace h := h.2.2.2.2.2.2.2.2.2.1 c1
      show mm_Go (mm_run 9) mc_M_counts _ (137, [(0, .inr (.inr 407)), (1, .inl v1), (2, .inl v2)], [], M)
      refine mm_s1 rfl ?_
      refine mm_s1 rfl ?_
      refine mm_s1 rfl ⟨(nn_c407 NN).1, ?_⟩
      refine nn_call (D := 2) (by decide) (h n L N) ?_
      intro v M139 q; clear L N h
      obtain ⟨r139, rfl, L, N, h⟩ := q
      show mm_Go (mm_run 9) mc_M_counts _ (142, [(0, .inr (.inr 407)), (1, .inl v1), (2, .inl v2)], [.inl r139], M139)
      exact mm_s1 rfl ⟨_, rfl, L, N, h⟩
    | 10, _, hx =>
      have c1 : v2 = 10 := hx.trans (by decide)
      replace h := h.2.2.2.2.2.2.2.2.2.2.1 c1
      show mm_Go (mm_run 9) mc_M_counts _ (143, [(0, .inr (.inr 407)), (1, .inl v1), (2, .inl v2)], [], M)
      refine mm_s1 rfl ?_
      refine mm_s1 rfl ?_
      refine mm_s1 rfl ⟨(nn_c407 NN).1, ?_⟩
      refine nn_call (D := 2) (by decide) (h n L N) ?_
      intro v M145 q; clear L N h
      obtain ⟨r145, rfl, L, N, h⟩ := q
      show mm_Go (mm_run 9) mc_M_counts _ (148, [(0, .inr (.inr 407)), (1, .inl v1), (2, .inl v2)], [.inl r145], M145)
      exact mm_s1 rfl ⟨_, rfl, L, N, h⟩
    | 11, _, hx =>
      have c1 : v2 = 11 := hx.trans (by decide)
      replace h := h.2.2.2.2.2.2.2.2.2.2.2.1 c1
      show mm_Go (mm_run 9) mc_M_counts _ (149, [(0, .inr (.inr 407)), (1, .inl v1), (2, .inl v2)], [], M)
      refine mm_s1 rfl ?_
      refine nn_getr rfl (nn_c407 NN).1 (lf_13_0 L N (nn_c407 NN)) ?_
      refine mm_s1 rfl ?_
      refine mm_s1 rfl ?_
      refine mm_s1 rfl ?_
      show mm_Go (mm_run 9) mc_M_counts _ (157, [(0, .inr (.inr 407)), (1, .inl v1), (2, .inl v2)], [.inl (mm_w (v1 + 6)), .inr (.inr 408)], M)
      obtain ⟨b157, h⟩ := h
      refine mm_s1 rfl ⟨nn_bd (na_13_0 NN (nn_c407 NN)) b157, ?_⟩
      show mm_Go (mm_run 9) mc_M_counts _ (158, [(0, .inr (.inr 407)), (1, .inl v1), (2, .inl v2)], [.inl (nn_ri M 408 (mm_w (v1 + 6)))], M)
      exact mm_s1 rfl ⟨_, rfl, L, N, h⟩
    | 12, _, hx =>
      have c1 : v2 = 12 := hx.trans (by decide)
      replace h := h.2.2.2.2.2.2.2.2.2.2.2.2.1 c1
      show mm_Go (mm_run 9) mc_M_counts _ (159, [(0, .inr (.inr 407)), (1, .inl v1), (2, .inl v2)], [], M)
      refine mm_s1 rfl ?_
      refine nn_getr rfl (nn_c407 NN).1 (lf_13_0 L N (nn_c407 NN)) ?_
      refine mm_s1 rfl ?_
      refine mm_s1 rfl ?_
      refine mm_s1 rfl ?_
      show mm_Go (mm_run 9) mc_M_counts _ (167, [(0, .inr (.inr 407)), (1, .inl v1), (2, .inl v2)], [.inl (mm_w (v1 + 7)), .inr (.inr 408)], M)
      obtain ⟨b167, h⟩ := h
      refine mm_s1 rfl ⟨nn_bd (na_13_0 NN (nn_c407 NN)) b167, ?_⟩
      show mm_Go (mm_run 9) mc_M_counts _ (168, [(0, .inr (.inr 407)), (1, .inl v1), (2, .inl v2)], [.inl (nn_ri M 408 (mm_w (v1 + 7)))], M)
      exact mm_s1 rfl ⟨_, rfl, L, N, h⟩
    | 13, _, hx =>
      have c1 : v2 = 13 := hx.trans (by decide)
      replace h := h.2.2.2.2.2.2.2.2.2.2.2.2.2.1 c1
      show mm_Go (mm_run 9) mc_M_counts _ (169, [(0, .inr (.inr 407)), (1, .inl v1), (2, .inl v2)], [], M)
      refine mm_s1 rfl ?_
      refine mm_s1 rfl ?_
      refine mm_s1 rfl ⟨(nn_c407 NN).1, ?_⟩
      refine nn_call (D := 9) (by decide) (h n L N) ?_
      intro v M171 q; clear L N h
      obtain ⟨r171, rfl, L, N, h⟩ := q
      show mm_Go (mm_run 9) mc_M_counts _ (174, [(0, .inr (.inr 407)), (1, .inl v1), (2, .inl v2)], [.inl r171], M171)
      exact mm_s1 rfl ⟨_, rfl, L, N, h⟩
    | k + 14, hk, _ => exact absurd hk (by show ¬ (k + 14 < 14); omega)
  · replace h := h.2.2.2.2.2.2.2.2.2.2.2.2.2.2 c1
    show mm_Go (mm_run 9) mc_M_counts _ (175, [(0, .inr (.inr 407)), (1, .inl v1), (2, .inl v2)], [], M)
    refine mm_s1 rfl ?_
    exact mm_s1 rfl ⟨_, rfl, L, N, h⟩
