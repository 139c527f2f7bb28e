/-! methods walked by program (wip/whole/dec.py) -/
def nr_Table_versions (v0 : Nat) (M : mm_M) (R : Int → mm_M → Prop) : Prop := ∀ n, nn_L M → M.1 = n → nn_C 10 v0 n → mm_run 3 mi_Table_versions [.inr (.inr v0)] M (nw_I n R)
def nk_Table_versions_4 (v0 : Nat) (v1 : Int) (v2 : Int) (M : mm_M) (R : Int → mm_M → Prop) : Prop := ∀ n, nn_L M → M.1 = n → nn_C 10 v0 n → mm_Go (mm_run 2) mc_Table_versions (nw_I n R) (4, [(0, .inr (.inr v0)), (1, .inl v1), (2, .inl v2)], [], M)
set_option maxRecDepth 20000 in
theorem ng_Table_versions (v0 : Nat) (M : mm_M) (R : Int → mm_M → Prop) (h : nk_Table_versions_4 v0 0 0 M R) : nr_Table_versions v0 M R := by
  intro n L N C0
  have NN := nn_L_n L N
  show mm_Go (mm_run 2) mc_Table_versions _ (0, [(0, .inr (.inr v0))], [], M)
  refine mm_s1 rfl ?_
  refine mm_s1 rfl ?_
  show mm_Go (mm_run 2) mc_Table_versions _ (2, [(0, .inr (.inr v0)), (1, .inl 0)], [], M)
  refine mm_s1 rfl ?_
  refine mm_s1 rfl ?_
  show mm_Go (mm_run 2) mc_Table_versions _ (4, [(0, .inr (.inr v0)), (1, .inl 0), (2, .inl 0)], [], M)
  exact nn_go_ext (nn_xc rfl (nn_xc rfl (nn_xc rfl nn_xn))) (h n L N C0)
set_option maxRecDepth 20000 in
theorem ng_Table_versions_4 (v0 : Nat) (v1 : Int) (v2 : Int) (M : mm_M) (R : Int → mm_M → Prop) (h : (((nn_rf M v0 5) ≤ v2 → R v1 M) ∧ (v2 < (nn_rf M v0 5) → (((0 : Int) ≤ v2 ∧ v2 < (24 : Int)) ∧ (∀ x1_23 : Int, x1_23 = mm_w (v1 + (nf_Versions_size (nn_rr M (v0 + 7) v2) M)) → nk_Table_versions_4 v0 x1_23 (mm_w (v2 + 1)) M R))))) : nk_Table_versions_4 v0 v1 v2 M R := by
  intro n L N C0
  have NN := nn_L_n L N
  show mm_Go (mm_run 2) mc_Table_versions _ (4, [(0, .inr (.inr v0)), (1, .inl v1), (2, .inl v2)], [], M)
  refine mm_s1 rfl ?_
  refine mm_s1 rfl ?_
  refine mm_s1 rfl ⟨C0.1, ?_⟩
  show mm_Go (mm_run 2) mc_Table_versions _ (9, [(0, .inr (.inr v0)), (1, .inl v1), (2, .inl v2)], [.inl (nn_rf M v0 5), .inl v2], M)
  refine mm_s1 rfl ⟨fun c9 => ?_, fun c9 => ?_⟩
  · show mm_Go (mm_run 2) mc_Table_versions _ (30, [(0, .inr (.inr v0)), (1, .inl v1), (2, .inl v2)], [], M)
    replace h := h.1 c9
    refine mm_s1 rfl ?_
    exact mm_s1 rfl ⟨_, rfl, L, N, h⟩
  · show mm_Go (mm_run 2) mc_Table_versions _ (12, [(0, .inr (.inr v0)), (1, .inl v1), (2, .inl v2)], [], M)
    replace c9 := Int.not_le.mp c9
    replace h := h.2 c9
    refine mm_s1 rfl ?_
    refine mm_s1 rfl ?_
    refine nn_getr rfl C0.1 (lf_10_2 L N C0) ?_
    refine mm_s1 rfl ?_
    obtain ⟨b18, h⟩ := h
    have C18 := (nn_l42 L N (nc_10_2 NN C0) b18).2
    refine nn_aald rfl (nn_bd30 (na_10_2 NN C0) (by decide) b18) (nn_l42 L N (nc_10_2 NN C0) b18).1 ?_
    show mm_Go (mm_run 2) mc_Table_versions _ (19, [(0, .inr (.inr v0)), (1, .inl v1), (2, .inl v2)], [.inr (.inr (nn_rr M (v0 + 7) v2)), .inl v1], M)
    refine mm_s1 rfl ⟨C18.2.1, ?_⟩
    refine np_Versions_size (by decide) L N C18.2 ?_
    show mm_Go (mm_run 2) mc_Table_versions _ (22, [(0, .inr (.inr v0)), (1, .inl v1), (2, .inl v2)], [.inl (nf_Versions_size (nn_rr M (v0 + 7) v2) M), .inl v1], M)
    refine mm_s1 rfl ?_
    refine mm_s1 rfl ?_
    show mm_Go (mm_run 2) mc_Table_versions _ (24, [(0, .inr (.inr v0)), (1, .inl (mm_w (v1 + (nf_Versions_size (nn_rr M (v0 + 7) v2) M)))), (2, .inl v2)], [], M)
    generalize e_x1_23 : (mm_w (v1 + (nf_Versions_size (nn_rr M (v0 + 7) v2) M))) = x1_23
    replace h := h _ e_x1_23.symm
    show mm_Go (mm_run 2) mc_Table_versions _ (24, [(0, .inr (.inr v0)), (1, .inl x1_23), (2, .inl v2)], [], M)
    refine mm_s1 rfl ?_
    show mm_Go (mm_run 2) mc_Table_versions _ (27, [(0, .inr (.inr v0)), (1, .inl x1_23), (2, .inl (mm_w (v2 + 1)))], [], M)
    refine mm_s1 rfl ?_
    show mm_Go (mm_run 2) mc_Table_versions _ (4, [(0, .inr (.inr v0)), (1, .inl x1_23), (2, .inl (mm_w (v2 + 1)))], [], M)
    exact nn_go_ext (nn_xc rfl (nn_xc rfl (nn_xc rfl nn_xn))) (h n L N C0)
def nr_Table_gone (v0 : Nat) (M : mm_M) (R : Int → mm_M → Prop) : Prop := ∀ n, nn_L M → M.1 = n → nn_C 10 v0 n → mm_run 3 mi_Table_gone [.inr (.inr v0)] M (nw_I n R)
def nk_Table_gone_4 (v0 : Nat) (v1 : Int) (v2 : Int) (M : mm_M) (R : Int → mm_M → Prop) : Prop := ∀ n, nn_L M → M.1 = n → nn_C 10 v0 n → mm_Go (mm_run 2) mc_Table_gone (nw_I n R) (4, [(0, .inr (.inr v0)), (1, .inl v1), (2, .inl v2)], [], M)
set_option maxRecDepth 20000 in
theorem ng_Table_gone (v0 : Nat) (M : mm_M) (R : Int → mm_M → Prop) (h : nk_Table_gone_4 v0 0 0 M R) : nr_Table_gone v0 M R := by
  intro n L N C0
  have NN := nn_L_n L N
  show mm_Go (mm_run 2) mc_Table_gone _ (0, [(0, .inr (.inr v0))], [], M)
  refine mm_s1 rfl ?_
  refine mm_s1 rfl ?_
  show mm_Go (mm_run 2) mc_Table_gone _ (2, [(0, .inr (.inr v0)), (1, .inl 0)], [], M)
  refine mm_s1 rfl ?_
  refine mm_s1 rfl ?_
  show mm_Go (mm_run 2) mc_Table_gone _ (4, [(0, .inr (.inr v0)), (1, .inl 0), (2, .inl 0)], [], M)
  exact nn_go_ext (nn_xc rfl (nn_xc rfl (nn_xc rfl nn_xn))) (h n L N C0)
set_option maxRecDepth 20000 in
theorem ng_Table_gone_4 (v0 : Nat) (v1 : Int) (v2 : Int) (M : mm_M) (R : Int → mm_M → Prop) (h : (((nn_rf M v0 5) ≤ v2 → R v1 M) ∧ (v2 < (nn_rf M v0 5) → (((0 : Int) ≤ v2 ∧ v2 < (24 : Int)) ∧ (nr_Versions_gone (nn_rr M (v0 + 7) v2) M (fun r19 M19 => nk_Table_gone_4 v0 (mm_w (v1 + r19)) (mm_w (v2 + 1)) M19 R)))))) : nk_Table_gone_4 v0 v1 v2 M R := by
  intro n L N C0
  have NN := nn_L_n L N
  show mm_Go (mm_run 2) mc_Table_gone _ (4, [(0, .inr (.inr v0)), (1, .inl v1), (2, .inl v2)], [], M)
  refine mm_s1 rfl ?_
  refine mm_s1 rfl ?_
  refine mm_s1 rfl ⟨C0.1, ?_⟩
  show mm_Go (mm_run 2) mc_Table_gone _ (9, [(0, .inr (.inr v0)), (1, .inl v1), (2, .inl v2)], [.inl (nn_rf M v0 5), .inl v2], M)
  refine mm_s1 rfl ⟨fun c9 => ?_, fun c9 => ?_⟩
  · show mm_Go (mm_run 2) mc_Table_gone _ (30, [(0, .inr (.inr v0)), (1, .inl v1), (2, .inl v2)], [], M)
    replace h := h.1 c9
    refine mm_s1 rfl ?_
    exact mm_s1 rfl ⟨_, rfl, L, N, h⟩
  · show mm_Go (mm_run 2) mc_Table_gone _ (12, [(0, .inr (.inr v0)), (1, .inl v1), (2, .inl v2)], [], M)
    replace c9 := Int.not_le.mp c9
    replace h := h.2 c9
    refine mm_s1 rfl ?_
    refine mm_s1 rfl ?_
    refine nn_getr rfl C0.1 (lf_10_2 L N C0) ?_
    refine mm_s1 rfl ?_
    obtain ⟨b18, h⟩ := h
    have C18 := (nn_l42 L N (nc_10_2 NN C0) b18).2
    refine nn_aald rfl (nn_bd30 (na_10_2 NN C0) (by decide) b18) (nn_l42 L N (nc_10_2 NN C0) b18).1 ?_
    show mm_Go (mm_run 2) mc_Table_gone _ (19, [(0, .inr (.inr v0)), (1, .inl v1), (2, .inl v2)], [.inr (.inr (nn_rr M (v0 + 7) v2)), .inl v1], M)
    refine mm_s1 rfl ⟨C18.2.1, ?_⟩
    refine nn_call (D := 2) (by decide) (h n L N C18.2) ?_
    intro v M19 q; clear L N h
    obtain ⟨r19, rfl, L, N, h⟩ := q
    show mm_Go (mm_run 2) mc_Table_gone _ (22, [(0, .inr (.inr v0)), (1, .inl v1), (2, .inl v2)], [.inl r19, .inl v1], M19)
    refine mm_s1 rfl ?_
    refine mm_s1 rfl ?_
    show mm_Go (mm_run 2) mc_Table_gone _ (24, [(0, .inr (.inr v0)), (1, .inl (mm_w (v1 + r19))), (2, .inl v2)], [], M19)
    refine mm_s1 rfl ?_
    show mm_Go (mm_run 2) mc_Table_gone _ (27, [(0, .inr (.inr v0)), (1, .inl (mm_w (v1 + r19))), (2, .inl (mm_w (v2 + 1)))], [], M19)
    refine mm_s1 rfl ?_
    show mm_Go (mm_run 2) mc_Table_gone _ (4, [(0, .inr (.inr v0)), (1, .inl (mm_w (v1 + r19))), (2, .inl (mm_w (v2 + 1)))], [], M19)
    exact nn_go_ext (nn_xc rfl (nn_xc rfl (nn_xc rfl nn_xn))) (h n L N C0)
def nr_M_hasWord (v1 : Int) (M : mm_M) (R : Int → mm_M → Prop) : Prop := ∀ n, nn_L M → M.1 = n → mm_run 3 mi_M_hasWord [.inr (.inr 407), .inr (.inl v1)] M (nw_Z n R)
set_option maxRecDepth 20000 in
theorem ng_M_hasWord (v1 : Int) (M : mm_M) (R : Int → mm_M → Prop) (h : (((nf_M_isWord v1 M) = 0 → R (nf_M_isWord v1 M) M) ∧ ((nf_M_isWord v1 M) ≠ 0 → (nr_M_takes M (fun M11 => R (nf_M_isWord v1 M) M11))))) : nr_M_hasWord v1 M R := by
  intro n L N 
  have NN := nn_L_n L N
  show mm_Go (mm_run 2) mc_M_hasWord _ (0, [(0, .inr (.inr 407)), (1, .inr (.inl v1))], [], M)
  refine mm_s1 rfl ?_
  refine mm_s1 rfl ?_
  refine mm_s1 rfl ⟨(nn_c407 NN).1, ?_⟩
  refine np_M_isWord (by decide) L N ?_
  show mm_Go (mm_run 2) mc_M_hasWord _ (5, [(0, .inr (.inr 407)), (1, .inr (.inl v1))], [.inl (nf_M_isWord v1 M)], M)
  refine mm_s1 rfl ?_
  show mm_Go (mm_run 2) mc_M_hasWord _ (6, [(0, .inr (.inr 407)), (1, .inr (.inl v1)), (3, .inl (nf_M_isWord v1 M))], [], M)
  refine mm_s1 rfl ?_
  refine mm_s1 rfl ⟨fun c7 => ?_, fun c7 => ?_⟩
  · show mm_Go (mm_run 2) mc_M_hasWord _ (14, [(0, .inr (.inr 407)), (1, .inr (.inl v1)), (3, .inl (nf_M_isWord v1 M))], [], M)
    replace h := h.1 c7
    refine mm_s1 rfl ?_
    exact mm_s1 rfl ⟨(nz_M_isWord v1 M), _, rfl, (nz_M_isWord v1 M), L, N, h⟩
  · show mm_Go (mm_run 2) mc_M_hasWord _ (10, [(0, .inr (.inr 407)), (1, .inr (.inl v1)), (3, .inl (nf_M_isWord v1 M))], [], M)
    replace h := h.2 c7
    refine mm_s1 rfl ?_
    refine mm_s1 rfl ⟨(nn_c407 NN).1, ?_⟩
    refine nn_call (D := 2) (by decide) (h n L N) ?_
    intro v M11 q; clear L N h
    obtain ⟨rfl, L, N, h⟩ := q
    show mm_Go (mm_run 2) mc_M_hasWord _ (14, [(0, .inr (.inr 407)), (1, .inr (.inl v1)), (3, .inl (nf_M_isWord v1 M))], [], M11)
    refine mm_s1 rfl ?_
    exact mm_s1 rfl ⟨(nz_M_isWord v1 M), _, rfl, (nz_M_isWord v1 M), L, N, h⟩
def nr_M_reads (v1 : Int) (M : mm_M) (R : mm_M → Prop) : Prop := ∀ n, nn_L M → M.1 = n → mm_run 3 mi_M_reads [.inr (.inr 407), .inl v1] M (nw_V n R)
def nk_M_reads_2 (v1 : Int) (v2 : Int) (M : mm_M) (R : mm_M → Prop) : Prop := ∀ n, nn_L M → M.1 = n → mm_Go (mm_run 2) mc_M_reads (nw_V n R) (2, [(0, .inr (.inr 407)), (1, .inl v1), (2, .inl v2)], [], M)
def nk_M_reads_26 (v1 : Int) (v2 : Int) (v3 : Int) (M : mm_M) (R : mm_M → Prop) : Prop := ∀ n, nn_L M → M.1 = n → mm_Go (mm_run 2) mc_M_reads (nw_V n R) (26, [(0, .inr (.inr 407)), (1, .inl v1), (2, .inl v2), (3, .inl v3)], [], M)
def nk_M_reads_55 (v1 : Int) (v2 : Int) (M : mm_M) (R : mm_M → Prop) : Prop := ∀ n, nn_L M → M.1 = n → mm_Go (mm_run 2) mc_M_reads (nw_V n R) (55, [(0, .inr (.inr 407)), (1, .inl v1), (2, .inl v2)], [], M)
def nk_M_reads_108 (v1 : Int) (v2 : Int) (v4 : Int) (v5 : Int) (M : mm_M) (R : mm_M → Prop) : Prop := ∀ n, nn_L M → M.1 = n → mm_Go (mm_run 2) mc_M_reads (nw_V n R) (108, [(0, .inr (.inr 407)), (1, .inl v1), (2, .inl v2), (4, .inl v4), (5, .inl v5)], [], M)
def nk_M_reads_125 (v1 : Int) (v2 : Int) (v4 : Int) (v5 : Int) (M : mm_M) (R : mm_M → Prop) : Prop := ∀ n, nn_L M → M.1 = n → mm_Go (mm_run 2) mc_M_reads (nw_V n R) (125, [(0, .inr (.inr 407)), (1, .inl v1), (2, .inl v2), (4, .inl v4), (5, .inl v5)], [], M)
def nk_M_reads_168 (v1 : Int) (v2 : Int) (M : mm_M) (R : mm_M → Prop) : Prop := ∀ n, nn_L M → M.1 = n → mm_Go (mm_run 2) mc_M_reads (nw_V n R) (168, [(0, .inr (.inr 407)), (1, .inl v1), (2, .inl v2)], [], M)
set_option maxRecDepth 20000 in
theorem ng_M_reads (v1 : Int) (M : mm_M) (R : mm_M → Prop) (h : nk_M_reads_2 v1 0 M R) : nr_M_reads v1 M R := by
  intro n L N 
  have NN := nn_L_n L N
  show mm_Go (mm_run 2) mc_M_reads _ (0, [(0, .inr (.inr 407)), (1, .inl v1)], [], M)
  refine mm_s1 rfl ?_
  refine mm_s1 rfl ?_
  show mm_Go (mm_run 2) mc_M_reads _ (2, [(0, .inr (.inr 407)), (1, .inl v1), (2, .inl 0)], [], M)
  exact nn_go_ext (nn_xc rfl (nn_xc rfl (nn_xc rfl nn_xn))) (h n L N)
set_option maxRecDepth 20000 in
theorem ng_M_reads_2 (v1 : Int) (v2 : Int) (M : mm_M) (R : mm_M → Prop) (h : ((5 ≤ v2 → nk_M_reads_26 v1 0 1 M R) ∧ (v2 < 5 → (((0 : Int) ≤ (mm_w (v1 + v2)) ∧ (mm_w (v1 + v2)) < (32844 : Int)) ∧ (∀ M15 : mm_M, M15 = nn_ui M 408 (mm_w (v1 + v2)) 0 → nk_M_reads_2 v1 (mm_w (v2 + 1)) M15 R))))) : nk_M_reads_2 v1 v2 M R := by
  intro n L N 
  have NN := nn_L_n L N
  show mm_Go (mm_run 2) mc_M_reads _ (2, [(0, .inr (.inr 407)), (1, .inl v1), (2, .inl v2)], [], M)
  refine mm_s1 rfl ?_
  refine mm_s1 rfl ?_
  refine mm_s1 rfl ⟨fun c4 => ?_, fun c4 => ?_⟩
  · show mm_Go (mm_run 2) mc_M_reads _ (22, [(0, .inr (.inr 407)), (1, .inl v1), (2, .inl v2)], [], M)
    replace h := h.1 c4
    refine mm_s1 rfl ?_
    refine mm_s1 rfl ?_
    show mm_Go (mm_run 2) mc_M_reads _ (24, [(0, .inr (.inr 407)), (1, .inl v1), (2, .inl 0)], [], M)
    refine mm_s1 rfl ?_
    refine mm_s1 rfl ?_
    show mm_Go (mm_run 2) mc_M_reads _ (26, [(0, .inr (.inr 407)), (1, .inl v1), (2, .inl 0), (3, .inl 1)], [], M)
    exact nn_go_ext (nn_xc rfl (nn_xc rfl (nn_xc rfl (nn_xc rfl nn_xn)))) (h n L N)
  · show mm_Go (mm_run 2) mc_M_reads _ (7, [(0, .inr (.inr 407)), (1, .inl v1), (2, .inl v2)], [], M)
    replace c4 := Int.not_le.mp c4
    replace h := h.2 c4
    refine mm_s1 rfl ?_
    refine nn_getr rfl (nn_c407 NN).1 (lf_13_0 L N (nn_c407 NN)) ?_
    refine mm_s1 rfl ?_
    refine mm_s1 rfl ?_
    refine mm_s1 rfl ?_
    show mm_Go (mm_run 2) mc_M_reads _ (14, [(0, .inr (.inr 407)), (1, .inl v1), (2, .inl v2)], [.inl (mm_w (v1 + v2)), .inr (.inr 408)], M)
    refine mm_s1 rfl ?_
    obtain ⟨b15, h⟩ := h
    refine mm_s1 rfl ⟨nn_bd (na_13_0 NN (nn_c407 NN)) b15, ?_⟩
    show mm_Go (mm_run 2) mc_M_reads _ (16, [(0, .inr (.inr 407)), (1, .inl v1), (2, .inl v2)], [], (nn_ui M 408 (mm_w (v1 + v2)) 0))
    have L : nn_L (nn_ui M 408 (mm_w (v1 + v2)) 0) := nn_L_ua L (congrArg Prod.fst (na_13_0 NN (nn_c407 NN))) (by decide)
    have N : (nn_ui M 408 (mm_w (v1 + v2)) 0).1 = n := N
    generalize e_M15 : (nn_ui M 408 (mm_w (v1 + v2)) 0) = M15 at L N ⊢
    replace h := h _ e_M15.symm
    show mm_Go (mm_run 2) mc_M_reads _ (16, [(0, .inr (.inr 407)), (1, .inl v1), (2, .inl v2)], [], M15)
    refine mm_s1 rfl ?_
    show mm_Go (mm_run 2) mc_M_reads _ (19, [(0, .inr (.inr 407)), (1, .inl v1), (2, .inl (mm_w (v2 + 1)))], [], M15)
    refine mm_s1 rfl ?_
    show mm_Go (mm_run 2) mc_M_reads _ (2, [(0, .inr (.inr 407)), (1, .inl v1), (2, .inl (mm_w (v2 + 1)))], [], M15)
    exact nn_go_ext (nn_xc rfl (nn_xc rfl (nn_xc rfl nn_xn))) (h n L N)
set_option maxRecDepth 20000 in
theorem ng_M_reads_26 (v1 : Int) (v2 : Int) (v3 : Int) (M : mm_M) (R : mm_M → Prop) (h : ((v3 = 0 → R M) ∧ (v3 ≠ 0 → (((nf_M_isTerm M) ≠ 0 → ((v2 ≠ 4 → nk_M_reads_55 v1 v2 M R) ∧ (v2 = 4 → (nr_M_fails 2 M (fun M52 => nk_M_reads_55 v1 v2 M52 R))))) ∧ ((nf_M_isTerm M) = 0 → (nr_M_fails 1 M (fun M39 => nk_M_reads_55 v1 v2 M39 R))))))) : nk_M_reads_26 v1 v2 v3 M R := by
  intro n L N 
  have NN := nn_L_n L N
  show mm_Go (mm_run 2) mc_M_reads _ (26, [(0, .inr (.inr 407)), (1, .inl v1), (2, .inl v2), (3, .inl v3)], [], M)
  refine mm_s1 rfl ?_
  refine mm_s1 rfl ⟨fun c27 => ?_, fun c27 => ?_⟩
  · show mm_Go (mm_run 2) mc_M_reads _ (186, [(0, .inr (.inr 407)), (1, .inl v1), (2, .inl v2), (3, .inl v3)], [], M)
    replace h := h.1 c27
    exact mm_s1 rfl ⟨rfl, L, N, h⟩
  · show mm_Go (mm_run 2) mc_M_reads _ (30, [(0, .inr (.inr 407)), (1, .inl v1), (2, .inl v2), (3, .inl v3)], [], M)
    replace h := h.2 c27
    refine mm_s1 rfl ?_
    refine mm_s1 rfl ⟨(nn_c407 NN).1, ?_⟩
    refine np_M_isTerm (by decide) L N ?_
    show mm_Go (mm_run 2) mc_M_reads _ (34, [(0, .inr (.inr 407)), (1, .inl v1), (2, .inl v2), (3, .inl v3)], [.inl (nf_M_isTerm M)], M)
    refine mm_s1 rfl ⟨fun c34 => ?_, fun c34 => ?_⟩
    · show mm_Go (mm_run 2) mc_M_reads _ (45, [(0, .inr (.inr 407)), (1, .inl v1), (2, .inl v2), (3, .inl v3)], [], M)
      replace h := h.1 c34
      refine mm_s1 rfl ?_
      refine mm_s1 rfl ?_
      refine mm_s1 rfl ⟨fun c47 => ?_, fun c47 => ?_⟩
      · show mm_Go (mm_run 2) mc_M_reads _ (55, [(0, .inr (.inr 407)), (1, .inl v1), (2, .inl v2), (3, .inl v3)], [], M)
        replace h := h.1 c47
        exact nn_go_ext (nn_xc rfl (nn_xc rfl (nn_xc rfl nn_xn))) (h n L N)
      · show mm_Go (mm_run 2) mc_M_reads _ (50, [(0, .inr (.inr 407)), (1, .inl v1), (2, .inl v2), (3, .inl v3)], [], M)
        replace c47 := Decidable.not_not.mp c47
        replace h := h.2 c47
        refine mm_s1 rfl ?_
        refine mm_s1 rfl ?_
        refine mm_s1 rfl ⟨(nn_c407 NN).1, ?_⟩
        refine nn_call (D := 1) (by decide) (h n L N) ?_
        intro v M52 q; clear L N h
        obtain ⟨rfl, L, N, h⟩ := q
        show mm_Go (mm_run 2) mc_M_reads _ (55, [(0, .inr (.inr 407)), (1, .inl v1), (2, .inl v2), (3, .inl v3)], [], M52)
        exact nn_go_ext (nn_xc rfl (nn_xc rfl (nn_xc rfl nn_xn))) (h n L N)
    · show mm_Go (mm_run 2) mc_M_reads _ (37, [(0, .inr (.inr 407)), (1, .inl v1), (2, .inl v2), (3, .inl v3)], [], M)
      replace c34 := Decidable.not_not.mp c34
      replace h := h.2 c34
      refine mm_s1 rfl ?_
      refine mm_s1 rfl ?_
      refine mm_s1 rfl ⟨(nn_c407 NN).1, ?_⟩
      refine nn_call (D := 1) (by decide) (h n L N) ?_
      intro v M39 q; clear L N h
      obtain ⟨rfl, L, N, h⟩ := q
      show mm_Go (mm_run 2) mc_M_reads _ (42, [(0, .inr (.inr 407)), (1, .inl v1), (2, .inl v2), (3, .inl v3)], [], M39)
      refine mm_s1 rfl ?_
      show mm_Go (mm_run 2) mc_M_reads _ (55, [(0, .inr (.inr 407)), (1, .inl v1), (2, .inl v2), (3, .inl v3)], [], M39)
      exact nn_go_ext (nn_xc rfl (nn_xc rfl (nn_xc rfl nn_xn))) (h n L N)
set_option maxRecDepth 20000 in
theorem ng_M_reads_55 (v1 : Int) (v2 : Int) (M : mm_M) (R : mm_M → Prop) (h : (((nn_rf M 407 7) ≤ 0 → (((nf_M_isColumn M) ≠ 0 → nk_M_reads_108 v1 (mm_w (v2 + 1)) 1 (nf_M_isColumn M) M R) ∧ ((nf_M_isColumn M) = 0 → (nr_M_takes M (fun M88 => (((nf_M_isSign 42 M88) = 0 → nk_M_reads_108 v1 (mm_w (v2 + 1)) (mm_w (nn_rf M 407 9)) (nf_M_isSign 42 M88) M88 R) ∧ ((nf_M_isSign 42 M88) ≠ 0 → (nr_M_takes M88 (fun M105 => nk_M_reads_108 v1 (mm_w (v2 + 1)) (mm_w (nn_rf M 407 9)) (nf_M_isSign 42 M88) M105 R))))))))) ∧ (0 < (nn_rf M 407 7) → R M))) : nk_M_reads_55 v1 v2 M R := by
  intro n L N 
  have NN := nn_L_n L N
  show mm_Go (mm_run 2) mc_M_reads _ (55, [(0, .inr (.inr 407)), (1, .inl v1), (2, .inl v2)], [], M)
  refine mm_s1 rfl ?_
  refine mm_s1 rfl ⟨(nn_c407 NN).1, ?_⟩
  show mm_Go (mm_run 2) mc_M_reads _ (59, [(0, .inr (.inr 407)), (1, .inl v1), (2, .inl v2)], [.inl (nn_rf M 407 7)], M)
  refine mm_s1 rfl ⟨fun c59 => ?_, fun c59 => ?_⟩
  · show mm_Go (mm_run 2) mc_M_reads _ (63, [(0, .inr (.inr 407)), (1, .inl v1), (2, .inl v2)], [], M)
    replace h := h.1 c59
    refine mm_s1 rfl ?_
    show mm_Go (mm_run 2) mc_M_reads _ (66, [(0, .inr (.inr 407)), (1, .inl v1), (2, .inl (mm_w (v2 + 1)))], [], M)
    refine mm_s1 rfl ?_
    refine mm_s1 rfl ?_
    show mm_Go (mm_run 2) mc_M_reads _ (69, [(0, .inr (.inr 407)), (1, .inl v1), (2, .inl (mm_w (v2 + 1))), (4, .inl 1)], [], M)
    refine mm_s1 rfl ?_
    refine mm_s1 rfl ⟨(nn_c407 NN).1, ?_⟩
    refine np_M_isColumn (by decide) L N ?_
    show mm_Go (mm_run 2) mc_M_reads _ (73, [(0, .inr (.inr 407)), (1, .inl v1), (2, .inl (mm_w (v2 + 1))), (4, .inl 1)], [.inl (nf_M_isColumn M)], M)
    refine mm_s1 rfl ?_
    show mm_Go (mm_run 2) mc_M_reads _ (75, [(0, .inr (.inr 407)), (1, .inl v1), (2, .inl (mm_w (v2 + 1))), (4, .inl 1), (5, .inl (nf_M_isColumn M))], [], M)
    refine mm_s1 rfl ?_
    refine mm_s1 rfl ⟨fun c77 => ?_, fun c77 => ?_⟩
    · show mm_Go (mm_run 2) mc_M_reads _ (108, [(0, .inr (.inr 407)), (1, .inl v1), (2, .inl (mm_w (v2 + 1))), (4, .inl 1), (5, .inl (nf_M_isColumn M))], [], M)
      replace h := h.1 c77
      exact nn_go_ext (nn_xc rfl (nn_xc rfl (nn_xc rfl (nn_xc rfl (nn_xc rfl nn_xn))))) (h n L N)
    · show mm_Go (mm_run 2) mc_M_reads _ (80, [(0, .inr (.inr 407)), (1, .inl v1), (2, .inl (mm_w (v2 + 1))), (4, .inl 1), (5, .inl (nf_M_isColumn M))], [], M)
      replace c77 := Decidable.not_not.mp c77
      replace h := h.2 c77
      refine mm_s1 rfl ?_
      refine mm_s1 rfl ⟨(nn_c407 NN).1, ?_⟩
      show mm_Go (mm_run 2) mc_M_reads _ (84, [(0, .inr (.inr 407)), (1, .inl v1), (2, .inl (mm_w (v2 + 1))), (4, .inl 1), (5, .inl (nf_M_isColumn M))], [.inr (.inl (nn_rf M 407 9))], M)
      refine mm_s1 rfl ?_
      refine mm_s1 rfl ?_
      show mm_Go (mm_run 2) mc_M_reads _ (87, [(0, .inr (.inr 407)), (1, .inl v1), (2, .inl (mm_w (v2 + 1))), (4, .inl (mm_w (nn_rf M 407 9))), (5, .inl (nf_M_isColumn M))], [], M)
      refine mm_s1 rfl ?_
      refine mm_s1 rfl ⟨(nn_c407 NN).1, ?_⟩
      refine nn_call (D := 2) (by decide) (h n L N) ?_
      intro v M88 q; clear L N h
      obtain ⟨rfl, L, N, h⟩ := q
      show mm_Go (mm_run 2) mc_M_reads _ (91, [(0, .inr (.inr 407)), (1, .inl v1), (2, .inl (mm_w (v2 + 1))), (4, .inl (mm_w (nn_rf M 407 9))), (5, .inl (nf_M_isColumn M))], [], M88)
      refine mm_s1 rfl ?_
      refine mm_s1 rfl ?_
      refine mm_s1 rfl ⟨(nn_c407 NN).1, ?_⟩
      refine np_M_isSign (by decide) L N ?_
      show mm_Go (mm_run 2) mc_M_reads _ (97, [(0, .inr (.inr 407)), (1, .inl v1), (2, .inl (mm_w (v2 + 1))), (4, .inl (mm_w (nn_rf M 407 9))), (5, .inl (nf_M_isColumn M))], [.inl (nf_M_isSign 42 M88)], M88)
      refine mm_s1 rfl ?_
      show mm_Go (mm_run 2) mc_M_reads _ (99, [(0, .inr (.inr 407)), (1, .inl v1), (2, .inl (mm_w (v2 + 1))), (4, .inl (mm_w (nn_rf M 407 9))), (5, .inl (nf_M_isSign 42 M88))], [], M88)
      refine mm_s1 rfl ?_
      refine mm_s1 rfl ⟨fun c101 => ?_, fun c101 => ?_⟩
      · show mm_Go (mm_run 2) mc_M_reads _ (108, [(0, .inr (.inr 407)), (1, .inl v1), (2, .inl (mm_w (v2 + 1))), (4, .inl (mm_w (nn_rf M 407 9))), (5, .inl (nf_M_isSign 42 M88))], [], M88)
        replace h := h.1 c101
        exact nn_go_ext (nn_xc rfl (nn_xc rfl (nn_xc rfl (nn_xc rfl (nn_xc rfl nn_xn))))) (h n L N)
      · show mm_Go (mm_run 2) mc_M_reads _ (104, [(0, .inr (.inr 407)), (1, .inl v1), (2, .inl (mm_w (v2 + 1))), (4, .inl (mm_w (nn_rf M 407 9))), (5, .inl (nf_M_isSign 42 M88))], [], M88)
        replace h := h.2 c101
        refine mm_s1 rfl ?_
        refine mm_s1 rfl ⟨(nn_c407 NN).1, ?_⟩
        refine nn_call (D := 2) (by decide) (h n L N) ?_
        intro v M105 q; clear L N h
        obtain ⟨rfl, L, N, h⟩ := q
        show mm_Go (mm_run 2) mc_M_reads _ (108, [(0, .inr (.inr 407)), (1, .inl v1), (2, .inl (mm_w (v2 + 1))), (4, .inl (mm_w (nn_rf M 407 9))), (5, .inl (nf_M_isSign 42 M88))], [], M105)
        exact nn_go_ext (nn_xc rfl (nn_xc rfl (nn_xc rfl (nn_xc rfl (nn_xc rfl nn_xn))))) (h n L N)
  · show mm_Go (mm_run 2) mc_M_reads _ (62, [(0, .inr (.inr 407)), (1, .inl v1), (2, .inl v2)], [], M)
    replace c59 := Int.not_le.mp c59
    replace h := h.2 c59
    exact mm_s1 rfl ⟨rfl, L, N, h⟩
set_option maxRecDepth 20000 in
theorem ng_M_reads_108 (v1 : Int) (v2 : Int) (v4 : Int) (v5 : Int) (M : mm_M) (R : mm_M → Prop) (h : (((v5 = 0 ∨ ((nf_M_isColumn M) ≠ 0)) → nk_M_reads_125 v1 v2 v4 v5 M R) ∧ ((v5 ≠ 0 ∧ ((nf_M_isColumn M) = 0)) → (nr_M_fails 1 M (fun M122 => nk_M_reads_125 v1 v2 v4 v5 M122 R))))) : nk_M_reads_108 v1 v2 v4 v5 M R := by
  intro n L N 
  have NN := nn_L_n L N
  show mm_Go (mm_run 2) mc_M_reads _ (108, [(0, .inr (.inr 407)), (1, .inl v1), (2, .inl v2), (4, .inl v4), (5, .inl v5)], [], M)
  refine mm_s1 rfl ?_
  refine mm_s1 rfl ⟨fun c110 => ?_, fun c110 => ?_⟩
  · show mm_Go (mm_run 2) mc_M_reads _ (125, [(0, .inr (.inr 407)), (1, .inl v1), (2, .inl v2), (4, .inl v4), (5, .inl v5)], [], M)
    replace h := h.1 (Or.inl c110)
    exact nn_go_ext (nn_xc rfl (nn_xc rfl (nn_xc rfl (nn_xc rfl (nn_xc rfl nn_xn))))) (h n L N)
  · show mm_Go (mm_run 2) mc_M_reads _ (113, [(0, .inr (.inr 407)), (1, .inl v1), (2, .inl v2), (4, .inl v4), (5, .inl v5)], [], M)
    refine mm_s1 rfl ?_
    refine mm_s1 rfl ⟨(nn_c407 NN).1, ?_⟩
    refine np_M_isColumn (by decide) L N ?_
    show mm_Go (mm_run 2) mc_M_reads _ (117, [(0, .inr (.inr 407)), (1, .inl v1), (2, .inl v2), (4, .inl v4), (5, .inl v5)], [.inl (nf_M_isColumn M)], M)
    refine mm_s1 rfl ⟨fun c117 => ?_, fun c117 => ?_⟩
    · show mm_Go (mm_run 2) mc_M_reads _ (125, [(0, .inr (.inr 407)), (1, .inl v1), (2, .inl v2), (4, .inl v4), (5, .inl v5)], [], M)
      replace h := h.1 (Or.inr c117)
      exact nn_go_ext (nn_xc rfl (nn_xc rfl (nn_xc rfl (nn_xc rfl (nn_xc rfl nn_xn))))) (h n L N)
    · show mm_Go (mm_run 2) mc_M_reads _ (120, [(0, .inr (.inr 407)), (1, .inl v1), (2, .inl v2), (4, .inl v4), (5, .inl v5)], [], M)
      replace c117 := Decidable.not_not.mp c117
      refine mm_s1 rfl ?_
      refine mm_s1 rfl ?_
      replace h := h.2 ⟨c110, c117⟩
      refine mm_s1 rfl ⟨(nn_c407 NN).1, ?_⟩
      refine nn_call (D := 1) (by decide) (h n L N) ?_
      intro v M122 q; clear L N h
      obtain ⟨rfl, L, N, h⟩ := q
      show mm_Go (mm_run 2) mc_M_reads _ (125, [(0, .inr (.inr 407)), (1, .inl v1), (2, .inl v2), (4, .inl v4), (5, .inl v5)], [], M122)
      exact nn_go_ext (nn_xc rfl (nn_xc rfl (nn_xc rfl (nn_xc rfl (nn_xc rfl nn_xn))))) (h n L N)
set_option maxRecDepth 20000 in
theorem ng_M_reads_125 (v1 : Int) (v2 : Int) (v4 : Int) (v5 : Int) (M : mm_M) (R : mm_M → Prop) (h : (((nn_rf M 407 7) ≤ 0 → ((v5 = 0 → (((0 : Int) ≤ (mm_w (v1 + 0)) ∧ (mm_w (v1 + 0)) < (32844 : Int)) ∧ (((0 : Int) ≤ (mm_w (v1 + 0)) ∧ (mm_w (v1 + 0)) < (32844 : Int)) ∧ (∀ M158 : mm_M, M158 = nn_ui M 408 (mm_w (v1 + 0)) (mm_w ((nn_ri M 408 (mm_w (v1 + 0))) + v4)) → ((v5 = 0 → nk_M_reads_168 v1 v2 M158 R) ∧ (v5 ≠ 0 → (nr_M_takes M158 (fun M165 => nk_M_reads_168 v1 v2 M165 R)))))))) ∧ (v5 ≠ 0 → (((0 : Int) ≤ (mm_w (v1 + (mm_w (nn_rf M 407 9)))) ∧ (mm_w (v1 + (mm_w (nn_rf M 407 9)))) < (32844 : Int)) ∧ (((0 : Int) ≤ (mm_w (v1 + (mm_w (nn_rf M 407 9)))) ∧ (mm_w (v1 + (mm_w (nn_rf M 407 9)))) < (32844 : Int)) ∧ (∀ M158 : mm_M, M158 = nn_ui M 408 (mm_w (v1 + (mm_w (nn_rf M 407 9)))) (mm_w ((nn_ri M 408 (mm_w (v1 + (mm_w (nn_rf M 407 9))))) + v4)) → ((v5 = 0 → nk_M_reads_168 v1 v2 M158 R) ∧ (v5 ≠ 0 → (nr_M_takes M158 (fun M165 => nk_M_reads_168 v1 v2 M165 R)))))))))) ∧ (0 < (nn_rf M 407 7) → R M))) : nk_M_reads_125 v1 v2 v4 v5 M R := by
  intro n L N 
  have NN := nn_L_n L N
  show mm_Go (mm_run 2) mc_M_reads _ (125, [(0, .inr (.inr 407)), (1, .inl v1), (2, .inl v2), (4, .inl v4), (5, .inl v5)], [], M)
  refine mm_s1 rfl ?_
  refine mm_s1 rfl ⟨(nn_c407 NN).1, ?_⟩
  show mm_Go (mm_run 2) mc_M_reads _ (129, [(0, .inr (.inr 407)), (1, .inl v1), (2, .inl v2), (4, .inl v4), (5, .inl v5)], [.inl (nn_rf M 407 7)], M)
  refine mm_s1 rfl ⟨fun c129 => ?_, fun c129 => ?_⟩
  · show mm_Go (mm_run 2) mc_M_reads _ (133, [(0, .inr (.inr 407)), (1, .inl v1), (2, .inl v2), (4, .inl v4), (5, .inl v5)], [], M)
    replace h := h.1 c129
    refine mm_s1 rfl ?_
    refine nn_getr rfl (nn_c407 NN).1 (lf_13_0 L N (nn_c407 NN)) ?_
    refine mm_s1 rfl ?_
    refine mm_s1 rfl ?_
    refine mm_s1 rfl ⟨fun c140 => ?_, fun c140 => ?_⟩
    · show mm_Go (mm_run 2) mc_M_reads _ (151, [(0, .inr (.inr 407)), (1, .inl v1), (2, .inl v2), (4, .inl v4), (5, .inl v5)], [.inl v1, .inr (.inr 408)], M)
      replace h := h.1 c140
      refine mm_s1 rfl ?_
      refine mm_s1 rfl ?_
      refine mm_s1 rfl ?_
      obtain ⟨b154, h⟩ := h
      refine mm_s1 rfl ⟨nn_bd (na_13_0 NN (nn_c407 NN)) b154, ?_⟩
      show mm_Go (mm_run 2) mc_M_reads _ (155, [(0, .inr (.inr 407)), (1, .inl v1), (2, .inl v2), (4, .inl v4), (5, .inl v5)], [.inl (nn_ri M 408 (mm_w (v1 + 0))), .inl (mm_w (v1 + 0)), .inr (.inr 408)], M)
      refine mm_s1 rfl ?_
      refine mm_s1 rfl ?_
      obtain ⟨b158, h⟩ := h
      refine mm_s1 rfl ⟨nn_bd (na_13_0 NN (nn_c407 NN)) b158, ?_⟩
      show mm_Go (mm_run 2) mc_M_reads _ (159, [(0, .inr (.inr 407)), (1, .inl v1), (2, .inl v2), (4, .inl v4), (5, .inl v5)], [], (nn_ui M 408 (mm_w (v1 + 0)) (mm_w ((nn_ri M 408 (mm_w (v1 + 0))) + v4))))
      have L : nn_L (nn_ui M 408 (mm_w (v1 + 0)) (mm_w ((nn_ri M 408 (mm_w (v1 + 0))) + v4))) := nn_L_ua L (congrArg Prod.fst (na_13_0 NN (nn_c407 NN))) (by decide)
      have N : (nn_ui M 408 (mm_w (v1 + 0)) (mm_w ((nn_ri M 408 (mm_w (v1 + 0))) + v4))).1 = n := N
      generalize e_M158 : (nn_ui M 408 (mm_w (v1 + 0)) (mm_w ((nn_ri M 408 (mm_w (v1 + 0))) + v4))) = M158 at L N ⊢
      replace h := h _ e_M158.symm
      show mm_Go (mm_run 2) mc_M_reads _ (159, [(0, .inr (.inr 407)), (1, .inl v1), (2, .inl v2), (4, .inl v4), (5, .inl v5)], [], M158)
      refine mm_s1 rfl ?_
      refine mm_s1 rfl ⟨fun c161 => ?_, fun c161 => ?_⟩
      · show mm_Go (mm_run 2) mc_M_reads _ (168, [(0, .inr (.inr 407)), (1, .inl v1), (2, .inl v2), (4, .inl v4), (5, .inl v5)], [], M158)
        replace h := h.1 c161
        exact nn_go_ext (nn_xc rfl (nn_xc rfl (nn_xc rfl nn_xn))) (h n L N)
      · show mm_Go (mm_run 2) mc_M_reads _ (164, [(0, .inr (.inr 407)), (1, .inl v1), (2, .inl v2), (4, .inl v4), (5, .inl v5)], [], M158)
        replace h := h.2 c161
        refine mm_s1 rfl ?_
        refine mm_s1 rfl ⟨(nn_c407 NN).1, ?_⟩
        refine nn_call (D := 2) (by decide) (h n L N) ?_
        intro v M165 q; clear L N h
        obtain ⟨rfl, L, N, h⟩ := q
        show mm_Go (mm_run 2) mc_M_reads _ (168, [(0, .inr (.inr 407)), (1, .inl v1), (2, .inl v2), (4, .inl v4), (5, .inl v5)], [], M165)
        exact nn_go_ext (nn_xc rfl (nn_xc rfl (nn_xc rfl nn_xn))) (h n L N)
    · show mm_Go (mm_run 2) mc_M_reads _ (143, [(0, .inr (.inr 407)), (1, .inl v1), (2, .inl v2), (4, .inl v4), (5, .inl v5)], [.inl v1, .inr (.inr 408)], M)
      replace h := h.2 c140
      refine mm_s1 rfl ?_
      refine mm_s1 rfl ⟨(nn_c407 NN).1, ?_⟩
      show mm_Go (mm_run 2) mc_M_reads _ (147, [(0, .inr (.inr 407)), (1, .inl v1), (2, .inl v2), (4, .inl v4), (5, .inl v5)], [.inr (.inl (nn_rf M 407 9)), .inl v1, .inr (.inr 408)], M)
      refine mm_s1 rfl ?_
      refine mm_s1 rfl ?_
      show mm_Go (mm_run 2) mc_M_reads _ (152, [(0, .inr (.inr 407)), (1, .inl v1), (2, .inl v2), (4, .inl v4), (5, .inl v5)], [.inl (mm_w (nn_rf M 407 9)), .inl v1, .inr (.inr 408)], M)
      refine mm_s1 rfl ?_
      refine mm_s1 rfl ?_
      obtain ⟨b154, h⟩ := h
      refine mm_s1 rfl ⟨nn_bd (na_13_0 NN (nn_c407 NN)) b154, ?_⟩
      show mm_Go (mm_run 2) mc_M_reads _ (155, [(0, .inr (.inr 407)), (1, .inl v1), (2, .inl v2), (4, .inl v4), (5, .inl v5)], [.inl (nn_ri M 408 (mm_w (v1 + (mm_w (nn_rf M 407 9))))), .inl (mm_w (v1 + (mm_w (nn_rf M 407 9)))), .inr (.inr 408)], M)
      refine mm_s1 rfl ?_
      refine mm_s1 rfl ?_
      obtain ⟨b158, h⟩ := h
      refine mm_s1 rfl ⟨nn_bd (na_13_0 NN (nn_c407 NN)) b158, ?_⟩
      show mm_Go (mm_run 2) mc_M_reads _ (159, [(0, .inr (.inr 407)), (1, .inl v1), (2, .inl v2), (4, .inl v4), (5, .inl v5)], [], (nn_ui M 408 (mm_w (v1 + (mm_w (nn_rf M 407 9)))) (mm_w ((nn_ri M 408 (mm_w (v1 + (mm_w (nn_rf M 407 9))))) + v4))))
      have L : nn_L (nn_ui M 408 (mm_w (v1 + (mm_w (nn_rf M 407 9)))) (mm_w ((nn_ri M 408 (mm_w (v1 + (mm_w (nn_rf M 407 9))))) + v4))) := nn_L_ua L (congrArg Prod.fst (na_13_0 NN (nn_c407 NN))) (by decide)
      have N : (nn_ui M 408 (mm_w (v1 + (mm_w (nn_rf M 407 9)))) (mm_w ((nn_ri M 408 (mm_w (v1 + (mm_w (nn_rf M 407 9))))) + v4))).1 = n := N
      generalize e_M158 : (nn_ui M 408 (mm_w (v1 + (mm_w (nn_rf M 407 9)))) (mm_w ((nn_ri M 408 (mm_w (v1 + (mm_w (nn_rf M 407 9))))) + v4))) = M158 at L N ⊢
      replace h := h _ e_M158.symm
      show mm_Go (mm_run 2) mc_M_reads _ (159, [(0, .inr (.inr 407)), (1, .inl v1), (2, .inl v2), (4, .inl v4), (5, .inl v5)], [], M158)
      refine mm_s1 rfl ?_
      refine mm_s1 rfl ⟨fun c161 => ?_, fun c161 => ?_⟩
      · show mm_Go (mm_run 2) mc_M_reads _ (168, [(0, .inr (.inr 407)), (1, .inl v1), (2, .inl v2), (4, .inl v4), (5, .inl v5)], [], M158)
        replace h := h.1 c161
        exact nn_go_ext (nn_xc rfl (nn_xc rfl (nn_xc rfl nn_xn))) (h n L N)
      · show mm_Go (mm_run 2) mc_M_reads _ (164, [(0, .inr (.inr 407)), (1, .inl v1), (2, .inl v2), (4, .inl v4), (5, .inl v5)], [], M158)
        replace h := h.2 c161
        refine mm_s1 rfl ?_
        refine mm_s1 rfl ⟨(nn_c407 NN).1, ?_⟩
        refine nn_call (D := 2) (by decide) (h n L N) ?_
        intro v M165 q; clear L N h
        obtain ⟨rfl, L, N, h⟩ := q
        show mm_Go (mm_run 2) mc_M_reads _ (168, [(0, .inr (.inr 407)), (1, .inl v1), (2, .inl v2), (4, .inl v4), (5, .inl v5)], [], M165)
        exact nn_go_ext (nn_xc rfl (nn_xc rfl (nn_xc rfl nn_xn))) (h n L N)
  · show mm_Go (mm_run 2) mc_M_reads _ (132, [(0, .inr (.inr 407)), (1, .inl v1), (2, .inl v2), (4, .inl v4), (5, .inl v5)], [], M)
    replace c129 := Int.not_le.mp c129
    replace h := h.2 c129
    exact mm_s1 rfl ⟨rfl, L, N, h⟩
set_option maxRecDepth 20000 in
theorem ng_M_reads_168 (v1 : Int) (v2 : Int) (M : mm_M) (R : mm_M → Prop) (h : (((nf_M_isSign 43 M) = 0 → nk_M_reads_26 v1 v2 (nf_M_isSign 43 M) M R) ∧ ((nf_M_isSign 43 M) ≠ 0 → (nr_M_takes M (fun M180 => nk_M_reads_26 v1 v2 (nf_M_isSign 43 M) M180 R))))) : nk_M_reads_168 v1 v2 M R := by
  intro n L N 
  have NN := nn_L_n L N
  show mm_Go (mm_run 2) mc_M_reads _ (168, [(0, .inr (.inr 407)), (1, .inl v1), (2, .inl v2)], [], M)
  refine mm_s1 rfl ?_
  refine mm_s1 rfl ?_
  refine mm_s1 rfl ⟨(nn_c407 NN).1, ?_⟩
  refine np_M_isSign (by decide) L N ?_
  show mm_Go (mm_run 2) mc_M_reads _ (174, [(0, .inr (.inr 407)), (1, .inl v1), (2, .inl v2)], [.inl (nf_M_isSign 43 M)], M)
  refine mm_s1 rfl ?_
  show mm_Go (mm_run 2) mc_M_reads _ (175, [(0, .inr (.inr 407)), (1, .inl v1), (2, .inl v2), (3, .inl (nf_M_isSign 43 M))], [], M)
  refine mm_s1 rfl ?_
  refine mm_s1 rfl ⟨fun c176 => ?_, fun c176 => ?_⟩
  · show mm_Go (mm_run 2) mc_M_reads _ (183, [(0, .inr (.inr 407)), (1, .inl v1), (2, .inl v2), (3, .inl (nf_M_isSign 43 M))], [], M)
    replace h := h.1 c176
    refine mm_s1 rfl ?_
    show mm_Go (mm_run 2) mc_M_reads _ (26, [(0, .inr (.inr 407)), (1, .inl v1), (2, .inl v2), (3, .inl (nf_M_isSign 43 M))], [], M)
    exact nn_go_ext (nn_xc rfl (nn_xc rfl (nn_xc rfl (nn_xc rfl nn_xn)))) (h n L N)
  · show mm_Go (mm_run 2) mc_M_reads _ (179, [(0, .inr (.inr 407)), (1, .inl v1), (2, .inl v2), (3, .inl (nf_M_isSign 43 M))], [], M)
    replace h := h.2 c176
    refine mm_s1 rfl ?_
    refine mm_s1 rfl ⟨(nn_c407 NN).1, ?_⟩
    refine nn_call (D := 2) (by decide) (h n L N) ?_
    intro v M180 q; clear L N h
    obtain ⟨rfl, L, N, h⟩ := q
    show mm_Go (mm_run 2) mc_M_reads _ (183, [(0, .inr (.inr 407)), (1, .inl v1), (2, .inl v2), (3, .inl (nf_M_isSign 43 M))], [], M180)
    refine mm_s1 rfl ?_
    show mm_Go (mm_run 2) mc_M_reads _ (26, [(0, .inr (.inr 407)), (1, .inl v1), (2, .inl v2), (3, .inl (nf_M_isSign 43 M))], [], M180)
    exact nn_go_ext (nn_xc rfl (nn_xc rfl (nn_xc rfl (nn_xc rfl nn_xn)))) (h n L N)
def nr_M_mend (v1 : Int) (v2 : Int) (M : mm_M) (R : Int → mm_M → Prop) : Prop := ∀ n, nn_L M → M.1 = n → mm_run 3 mi_M_mend [.inr (.inr 407), .inl v1, .inl v2] M (nw_Z n R)
set_option maxRecDepth 20000 in
theorem ng_M_mend (v1 : Int) (v2 : Int) (M : mm_M) (R : Int → mm_M → Prop) (h : ((nc_M_isIndex v1 M) ∧ (((nf_M_isIndex v1 M) ≠ 0 → ((v2 = 0 → (((0 : Int) ≤ (mm_w ((nf_M_at 0 v1) + 2)) ∧ (mm_w ((nf_M_at 0 v1) + 2)) < (32844 : Int)) ∧ (∀ M30 : mm_M, M30 = nn_ui M 408 (mm_w ((nf_M_at 0 v1) + 2)) 0 → R 1 M30))) ∧ (v2 ≠ 0 → (((0 : Int) ≤ (mm_w ((nf_M_at 0 v1) + 2)) ∧ (mm_w ((nf_M_at 0 v1) + 2)) < (32844 : Int)) ∧ (∀ M30 : mm_M, M30 = nn_ui M 408 (mm_w ((nf_M_at 0 v1) + 2)) 1 → R 1 M30))))) ∧ ((nf_M_isIndex v1 M) = 0 → R 0 M)))) : nr_M_mend v1 v2 M R := by
  intro n L N 
  have NN := nn_L_n L N
  show mm_Go (mm_run 2) mc_M_mend _ (0, [(0, .inr (.inr 407)), (1, .inl v1), (2, .inl v2)], [], M)
  refine mm_s1 rfl ?_
  refine mm_s1 rfl ?_
  obtain ⟨b2, h⟩ := h
  refine mm_s1 rfl ⟨(nn_c407 NN).1, ?_⟩
  refine np_M_isIndex (by decide) L N b2 ?_
  show mm_Go (mm_run 2) mc_M_mend _ (5, [(0, .inr (.inr 407)), (1, .inl v1), (2, .inl v2)], [.inl (nf_M_isIndex v1 M)], M)
  refine mm_s1 rfl ⟨fun c5 => ?_, fun c5 => ?_⟩
  · show mm_Go (mm_run 2) mc_M_mend _ (10, [(0, .inr (.inr 407)), (1, .inl v1), (2, .inl v2)], [], M)
    replace h := h.1 c5
    refine mm_s1 rfl ?_
    refine nn_getr rfl (nn_c407 NN).1 (lf_13_0 L N (nn_c407 NN)) ?_
    refine mm_s1 rfl ?_
    refine mm_s1 rfl ?_
    refine mm_s1 rfl ⟨trivial, ?_⟩
    refine np_M_at (by decide) L N ?_
    show mm_Go (mm_run 2) mc_M_mend _ (19, [(0, .inr (.inr 407)), (1, .inl v1), (2, .inl v2)], [.inl (nf_M_at 0 v1), .inr (.inr 408)], M)
    refine mm_s1 rfl ?_
    refine mm_s1 rfl ?_
    refine mm_s1 rfl ?_
    refine mm_s1 rfl ⟨fun c22 => ?_, fun c22 => ?_⟩
    · show mm_Go (mm_run 2) mc_M_mend _ (29, [(0, .inr (.inr 407)), (1, .inl v1), (2, .inl v2)], [.inl (mm_w ((nf_M_at 0 v1) + 2)), .inr (.inr 408)], M)
      replace h := h.1 c22
      refine mm_s1 rfl ?_
      obtain ⟨b30, h⟩ := h
      refine mm_s1 rfl ⟨nn_bd (na_13_0 NN (nn_c407 NN)) b30, ?_⟩
      show mm_Go (mm_run 2) mc_M_mend _ (31, [(0, .inr (.inr 407)), (1, .inl v1), (2, .inl v2)], [], (nn_ui M 408 (mm_w ((nf_M_at 0 v1) + 2)) 0))
      have L : nn_L (nn_ui M 408 (mm_w ((nf_M_at 0 v1) + 2)) 0) := nn_L_ua L (congrArg Prod.fst (na_13_0 NN (nn_c407 NN))) (by decide)
      have N : (nn_ui M 408 (mm_w ((nf_M_at 0 v1) + 2)) 0).1 = n := N
      generalize e_M30 : (nn_ui M 408 (mm_w ((nf_M_at 0 v1) + 2)) 0) = M30 at L N ⊢
      replace h := h _ e_M30.symm
      show mm_Go (mm_run 2) mc_M_mend _ (31, [(0, .inr (.inr 407)), (1, .inl v1), (2, .inl v2)], [], M30)
      refine mm_s1 rfl ?_
      exact mm_s1 rfl ⟨(Or.inr rfl), _, rfl, (Or.inr rfl), L, N, h⟩
    · show mm_Go (mm_run 2) mc_M_mend _ (25, [(0, .inr (.inr 407)), (1, .inl v1), (2, .inl v2)], [.inl (mm_w ((nf_M_at 0 v1) + 2)), .inr (.inr 408)], M)
      replace h := h.2 c22
      refine mm_s1 rfl ?_
      refine mm_s1 rfl ?_
      show mm_Go (mm_run 2) mc_M_mend _ (30, [(0, .inr (.inr 407)), (1, .inl v1), (2, .inl v2)], [.inl 1, .inl (mm_w ((nf_M_at 0 v1) + 2)), .inr (.inr 408)], M)
      obtain ⟨b30, h⟩ := h
      refine mm_s1 rfl ⟨nn_bd (na_13_0 NN (nn_c407 NN)) b30, ?_⟩
      show mm_Go (mm_run 2) mc_M_mend _ (31, [(0, .inr (.inr 407)), (1, .inl v1), (2, .inl v2)], [], (nn_ui M 408 (mm_w ((nf_M_at 0 v1) + 2)) 1))
      have L : nn_L (nn_ui M 408 (mm_w ((nf_M_at 0 v1) + 2)) 1) := nn_L_ua L (congrArg Prod.fst (na_13_0 NN (nn_c407 NN))) (by decide)
      have N : (nn_ui M 408 (mm_w ((nf_M_at 0 v1) + 2)) 1).1 = n := N
      generalize e_M30 : (nn_ui M 408 (mm_w ((nf_M_at 0 v1) + 2)) 1) = M30 at L N ⊢
      replace h := h _ e_M30.symm
      show mm_Go (mm_run 2) mc_M_mend _ (31, [(0, .inr (.inr 407)), (1, .inl v1), (2, .inl v2)], [], M30)
      refine mm_s1 rfl ?_
      exact mm_s1 rfl ⟨(Or.inr rfl), _, rfl, (Or.inr rfl), L, N, h⟩
  · show mm_Go (mm_run 2) mc_M_mend _ (8, [(0, .inr (.inr 407)), (1, .inl v1), (2, .inl v2)], [], M)
    replace c5 := Decidable.not_not.mp c5
    replace h := h.2 c5
    refine mm_s1 rfl ?_
    exact mm_s1 rfl ⟨(Or.inl rfl), _, rfl, (Or.inl rfl), L, N, h⟩
def nr_M_wants (v1 : Int) (v2 : Int) (M : mm_M) (R : Int → mm_M → Prop) : Prop := ∀ n, nn_L M → M.1 = n → mm_run 3 mi_M_wants [.inr (.inr 407), .inl v1, .inl v2] M (nw_Z n R)
def nk_M_wants_2 (v1 : Int) (v2 : Int) (v3 : Int) (M : mm_M) (R : Int → mm_M → Prop) : Prop := ∀ n, nn_L M → M.1 = n → mm_Go (mm_run 2) mc_M_wants (nw_Z n R) (2, [(0, .inr (.inr 407)), (1, .inl v1), (2, .inl v2), (3, .inl v3)], [], M)
set_option maxRecDepth 20000 in
theorem ng_M_wants (v1 : Int) (v2 : Int) (M : mm_M) (R : Int → mm_M → Prop) (h : nk_M_wants_2 v1 v2 0 M R) : nr_M_wants v1 v2 M R := by
  intro n L N 
  have NN := nn_L_n L N
  show mm_Go (mm_run 2) mc_M_wants _ (0, [(0, .inr (.inr 407)), (1, .inl v1), (2, .inl v2)], [], M)
  refine mm_s1 rfl ?_
  refine mm_s1 rfl ?_
  show mm_Go (mm_run 2) mc_M_wants _ (2, [(0, .inr (.inr 407)), (1, .inl v1), (2, .inl v2), (3, .inl 0)], [], M)
  exact nn_go_ext (nn_xc rfl (nn_xc rfl (nn_xc rfl (nn_xc rfl nn_xn)))) (h n L N)
set_option maxRecDepth 20000 in
theorem ng_M_wants_2 (v1 : Int) (v2 : Int) (v3 : Int) (M : mm_M) (R : Int → mm_M → Prop) (h : (((0 : Int) ≤ (mm_w (v1 + 8)) ∧ (mm_w (v1 + 8)) < (32844 : Int)) ∧ (((nn_ri M 408 (mm_w (v1 + 8))) ≤ v3 → R 1 M) ∧ (v3 < (nn_ri M 408 (mm_w (v1 + 8))) → (∀ x4_24 : Int, x4_24 = mm_w ((mm_w (v1 + 14)) + (mm_w (11 * v3))) → (nr_M_sumOf x4_24 v2 M (fun r30 M30 => (nr_M_sumOf (mm_w (x4_24 + 6)) v2 M30 (fun r42 M42 => (((0 : Int) ≤ (mm_w (x4_24 + 5)) ∧ (mm_w (x4_24 + 5)) < (32844 : Int)) ∧ ((((nn_ri M42 408 (mm_w (x4_24 + 5))) ≠ 60) → ((0 : Int) ≤ (mm_w (x4_24 + 5)) ∧ (mm_w (x4_24 + 5)) < (32844 : Int))) ∧ ((((nn_ri M42 408 (mm_w (x4_24 + 5))) ≠ 60 ∧ (((nn_ri M42 408 (mm_w (x4_24 + 5))) ≠ 62 ∧ (r30 ≠ r42)) ∨ ((nn_ri M42 408 (mm_w (x4_24 + 5))) = 62 ∧ (r30 ≤ r42)))) ∨ ((nn_ri M42 408 (mm_w (x4_24 + 5))) = 60 ∧ (r42 ≤ r30))) → R 0 M42) ∧ ((((nn_ri M42 408 (mm_w (x4_24 + 5))) ≠ 60 ∧ (((nn_ri M42 408 (mm_w (x4_24 + 5))) ≠ 62 ∧ (r30 = r42)) ∨ ((nn_ri M42 408 (mm_w (x4_24 + 5))) = 62 ∧ (r42 < r30)))) ∨ ((nn_ri M42 408 (mm_w (x4_24 + 5))) = 60 ∧ (r30 < r42))) → nk_M_wants_2 v1 v2 (mm_w (v3 + 1)) M42 R)))))))))))) : nk_M_wants_2 v1 v2 v3 M R := by
  intro n L N 
  have NN := nn_L_n L N
  show mm_Go (mm_run 2) mc_M_wants _ (2, [(0, .inr (.inr 407)), (1, .inl v1), (2, .inl v2), (3, .inl v3)], [], M)
  refine mm_s1 rfl ?_
  refine mm_s1 rfl ?_
  refine nn_getr rfl (nn_c407 NN).1 (lf_13_0 L N (nn_c407 NN)) ?_
  refine mm_s1 rfl ?_
  refine mm_s1 rfl ?_
  show mm_Go (mm_run 2) mc_M_wants _ (10, [(0, .inr (.inr 407)), (1, .inl v1), (2, .inl v2), (3, .inl v3)], [.inl 8, .inl v1, .inr (.inr 408), .inl v3], M)
  refine mm_s1 rfl ?_
  obtain ⟨b11, h⟩ := h
  refine mm_s1 rfl ⟨nn_bd (na_13_0 NN (nn_c407 NN)) b11, ?_⟩
  show mm_Go (mm_run 2) mc_M_wants _ (12, [(0, .inr (.inr 407)), (1, .inl v1), (2, .inl v2), (3, .inl v3)], [.inl (nn_ri M 408 (mm_w (v1 + 8))), .inl v3], M)
  refine mm_s1 rfl ⟨fun c12 => ?_, fun c12 => ?_⟩
  · show mm_Go (mm_run 2) mc_M_wants _ (132, [(0, .inr (.inr 407)), (1, .inl v1), (2, .inl v2), (3, .inl v3)], [], M)
    replace h := h.1 c12
    refine mm_s1 rfl ?_
    exact mm_s1 rfl ⟨(Or.inr rfl), _, rfl, (Or.inr rfl), L, N, h⟩
  · show mm_Go (mm_run 2) mc_M_wants _ (15, [(0, .inr (.inr 407)), (1, .inl v1), (2, .inl v2), (3, .inl v3)], [], M)
    replace c12 := Int.not_le.mp c12
    replace h := h.2 c12
    refine mm_s1 rfl ?_
    refine mm_s1 rfl ?_
    refine mm_s1 rfl ?_
    refine mm_s1 rfl ?_
    refine mm_s1 rfl ?_
    show mm_Go (mm_run 2) mc_M_wants _ (22, [(0, .inr (.inr 407)), (1, .inl v1), (2, .inl v2), (3, .inl v3)], [.inl v3, .inl 11, .inl (mm_w (v1 + 14))], M)
    refine mm_s1 rfl ?_
    refine mm_s1 rfl ?_
    refine mm_s1 rfl ?_
    show mm_Go (mm_run 2) mc_M_wants _ (26, [(0, .inr (.inr 407)), (1, .inl v1), (2, .inl v2), (3, .inl v3), (4, .inl (mm_w ((mm_w (v1 + 14)) + (mm_w (11 * v3)))))], [], M)
    generalize e_x4_24 : (mm_w ((mm_w (v1 + 14)) + (mm_w (11 * v3)))) = x4_24
    replace h := h _ e_x4_24.symm
    show mm_Go (mm_run 2) mc_M_wants _ (26, [(0, .inr (.inr 407)), (1, .inl v1), (2, .inl v2), (3, .inl v3), (4, .inl x4_24)], [], M)
    refine mm_s1 rfl ?_
    refine mm_s1 rfl ?_
    refine mm_s1 rfl ?_
    refine mm_s1 rfl ⟨(nn_c407 NN).1, ?_⟩
    refine nn_call (D := 2) (by decide) (h n L N) ?_
    intro v M30 q; clear L N h
    obtain ⟨r30, rfl, L, N, h⟩ := q
    show mm_Go (mm_run 2) mc_M_wants _ (33, [(0, .inr (.inr 407)), (1, .inl v1), (2, .inl v2), (3, .inl v3), (4, .inl x4_24)], [.inl r30], M30)
    refine mm_s1 rfl ?_
    show mm_Go (mm_run 2) mc_M_wants _ (35, [(0, .inr (.inr 407)), (1, .inl v1), (2, .inl v2), (3, .inl v3), (4, .inl x4_24), (5, .inl r30)], [], M30)
    refine mm_s1 rfl ?_
    refine mm_s1 rfl ?_
    refine mm_s1 rfl ?_
    refine mm_s1 rfl ?_
    refine mm_s1 rfl ?_
    show mm_Go (mm_run 2) mc_M_wants _ (42, [(0, .inr (.inr 407)), (1, .inl v1), (2, .inl v2), (3, .inl v3), (4, .inl x4_24), (5, .inl r30)], [.inl v2, .inl (mm_w (x4_24 + 6)), .inr (.inr 407)], M30)
    refine mm_s1 rfl ⟨(nn_c407 NN).1, ?_⟩
    refine nn_call (D := 2) (by decide) (h n L N) ?_
    intro v M42 q; clear L N h
    obtain ⟨r42, rfl, L, N, h⟩ := q
    show mm_Go (mm_run 2) mc_M_wants _ (45, [(0, .inr (.inr 407)), (1, .inl v1), (2, .inl v2), (3, .inl v3), (4, .inl x4_24), (5, .inl r30)], [.inl r42], M42)
    refine mm_s1 rfl ?_
    show mm_Go (mm_run 2) mc_M_wants _ (47, [(0, .inr (.inr 407)), (1, .inl v1), (2, .inl v2), (3, .inl v3), (4, .inl x4_24), (5, .inl r30), (6, .inl r42)], [], M42)
    refine mm_s1 rfl ?_
    refine nn_getr rfl (nn_c407 NN).1 (lf_13_0 L N (nn_c407 NN)) ?_
    refine mm_s1 rfl ?_
    refine mm_s1 rfl ?_
    refine mm_s1 rfl ?_
    show mm_Go (mm_run 2) mc_M_wants _ (55, [(0, .inr (.inr 407)), (1, .inl v1), (2, .inl v2), (3, .inl v3), (4, .inl x4_24), (5, .inl r30), (6, .inl r42)], [.inl (mm_w (x4_24 + 5)), .inr (.inr 408)], M42)
    obtain ⟨b55, h⟩ := h
    refine mm_s1 rfl ⟨nn_bd (na_13_0 NN (nn_c407 NN)) b55, ?_⟩
    show mm_Go (mm_run 2) mc_M_wants _ (56, [(0, .inr (.inr 407)), (1, .inl v1), (2, .inl v2), (3, .inl v3), (4, .inl x4_24), (5, .inl r30), (6, .inl r42)], [.inl (nn_ri M42 408 (mm_w (x4_24 + 5)))], M42)
    refine mm_s1 rfl ?_
    refine mm_s1 rfl ⟨fun c58 => ?_, fun c58 => ?_⟩
    · show mm_Go (mm_run 2) mc_M_wants _ (76, [(0, .inr (.inr 407)), (1, .inl v1), (2, .inl v2), (3, .inl v3), (4, .inl x4_24), (5, .inl r30), (6, .inl r42)], [], M42)
      refine mm_s1 rfl ?_
      refine nn_getr rfl (nn_c407 NN).1 (lf_13_0 L N (nn_c407 NN)) ?_
      refine mm_s1 rfl ?_
      refine mm_s1 rfl ?_
      refine mm_s1 rfl ?_
      show mm_Go (mm_run 2) mc_M_wants _ (84, [(0, .inr (.inr 407)), (1, .inl v1), (2, .inl v2), (3, .inl v3), (4, .inl x4_24), (5, .inl r30), (6, .inl r42)], [.inl (mm_w (x4_24 + 5)), .inr (.inr 408)], M42)
      have b84 := h.1 c58
      refine mm_s1 rfl ⟨nn_bd (na_13_0 NN (nn_c407 NN)) b84, ?_⟩
      show mm_Go (mm_run 2) mc_M_wants _ (85, [(0, .inr (.inr 407)), (1, .inl v1), (2, .inl v2), (3, .inl v3), (4, .inl x4_24), (5, .inl r30), (6, .inl r42)], [.inl (nn_ri M42 408 (mm_w (x4_24 + 5)))], M42)
      refine mm_s1 rfl ?_
      refine mm_s1 rfl ⟨fun c87 => ?_, fun c87 => ?_⟩
      · show mm_Go (mm_run 2) mc_M_wants _ (105, [(0, .inr (.inr 407)), (1, .inl v1), (2, .inl v2), (3, .inl v3), (4, .inl x4_24), (5, .inl r30), (6, .inl r42)], [], M42)
        refine mm_s1 rfl ?_
        refine mm_s1 rfl ?_
        refine mm_s1 rfl ⟨fun c109 => ?_, fun c109 => ?_⟩
        · show mm_Go (mm_run 2) mc_M_wants _ (116, [(0, .inr (.inr 407)), (1, .inl v1), (2, .inl v2), (3, .inl v3), (4, .inl x4_24), (5, .inl r30), (6, .inl r42)], [], M42)
          refine mm_s1 rfl ?_
          refine mm_s1 rfl ?_
          show mm_Go (mm_run 2) mc_M_wants _ (119, [(0, .inr (.inr 407)), (1, .inl v1), (2, .inl v2), (3, .inl v3), (4, .inl x4_24), (5, .inl r30), (6, .inl r42), (7, .inl 0)], [], M42)
          refine mm_s1 rfl ?_
          refine mm_s1 rfl ⟨fun c => absurd c (show ¬ ((0 : Int) ≠ 0) by decide), fun _ => ?_⟩
          show mm_Go (mm_run 2) mc_M_wants _ (124, [(0, .inr (.inr 407)), (1, .inl v1), (2, .inl v2), (3, .inl v3), (4, .inl x4_24), (5, .inl r30), (6, .inl r42), (7, .inl 0)], [], M42)
          refine mm_s1 rfl ?_
          replace h := h.2.1 (Or.inl ⟨c58, (Or.inl ⟨c87, c109⟩)⟩)
          exact mm_s1 rfl ⟨(Or.inl rfl), _, rfl, (Or.inl rfl), L, N, h⟩
        · show mm_Go (mm_run 2) mc_M_wants _ (112, [(0, .inr (.inr 407)), (1, .inl v1), (2, .inl v2), (3, .inl v3), (4, .inl x4_24), (5, .inl r30), (6, .inl r42)], [], M42)
          replace c109 := Decidable.not_not.mp c109
          refine mm_s1 rfl ?_
          refine mm_s1 rfl ?_
          show mm_Go (mm_run 2) mc_M_wants _ (117, [(0, .inr (.inr 407)), (1, .inl v1), (2, .inl v2), (3, .inl v3), (4, .inl x4_24), (5, .inl r30), (6, .inl r42)], [.inl 1], M42)
          refine mm_s1 rfl ?_
          show mm_Go (mm_run 2) mc_M_wants _ (119, [(0, .inr (.inr 407)), (1, .inl v1), (2, .inl v2), (3, .inl v3), (4, .inl x4_24), (5, .inl r30), (6, .inl r42), (7, .inl 1)], [], M42)
          refine mm_s1 rfl ?_
          refine mm_s1 rfl ⟨fun _ => ?_, fun c => absurd (show (1 : Int) ≠ 0 by decide) c⟩
          show mm_Go (mm_run 2) mc_M_wants _ (126, [(0, .inr (.inr 407)), (1, .inl v1), (2, .inl v2), (3, .inl v3), (4, .inl x4_24), (5, .inl r30), (6, .inl r42), (7, .inl 1)], [], M42)
          refine mm_s1 rfl ?_
          show mm_Go (mm_run 2) mc_M_wants _ (129, [(0, .inr (.inr 407)), (1, .inl v1), (2, .inl v2), (3, .inl (mm_w (v3 + 1))), (4, .inl x4_24), (5, .inl r30), (6, .inl r42), (7, .inl 1)], [], M42)
          refine mm_s1 rfl ?_
          show mm_Go (mm_run 2) mc_M_wants _ (2, [(0, .inr (.inr 407)), (1, .inl v1), (2, .inl v2), (3, .inl (mm_w (v3 + 1))), (4, .inl x4_24), (5, .inl r30), (6, .inl r42), (7, .inl 1)], [], M42)
          replace h := h.2.2 (Or.inl ⟨c58, (Or.inl ⟨c87, c109⟩)⟩)
          exact nn_go_ext (nn_xc rfl (nn_xc rfl (nn_xc rfl (nn_xc rfl nn_xn)))) (h n L N)
      · show mm_Go (mm_run 2) mc_M_wants _ (90, [(0, .inr (.inr 407)), (1, .inl v1), (2, .inl v2), (3, .inl v3), (4, .inl x4_24), (5, .inl r30), (6, .inl r42)], [], M42)
        replace c87 := Decidable.not_not.mp c87
        refine mm_s1 rfl ?_
        refine mm_s1 rfl ?_
        refine mm_s1 rfl ⟨fun c94 => ?_, fun c94 => ?_⟩
        · show mm_Go (mm_run 2) mc_M_wants _ (101, [(0, .inr (.inr 407)), (1, .inl v1), (2, .inl v2), (3, .inl v3), (4, .inl x4_24), (5, .inl r30), (6, .inl r42)], [], M42)
          refine mm_s1 rfl ?_
          refine mm_s1 rfl ?_
          show mm_Go (mm_run 2) mc_M_wants _ (117, [(0, .inr (.inr 407)), (1, .inl v1), (2, .inl v2), (3, .inl v3), (4, .inl x4_24), (5, .inl r30), (6, .inl r42)], [.inl 0], M42)
          refine mm_s1 rfl ?_
          show mm_Go (mm_run 2) mc_M_wants _ (119, [(0, .inr (.inr 407)), (1, .inl v1), (2, .inl v2), (3, .inl v3), (4, .inl x4_24), (5, .inl r30), (6, .inl r42), (7, .inl 0)], [], M42)
          refine mm_s1 rfl ?_
          refine mm_s1 rfl ⟨fun c => absurd c (show ¬ ((0 : Int) ≠ 0) by decide), fun _ => ?_⟩
          show mm_Go (mm_run 2) mc_M_wants _ (124, [(0, .inr (.inr 407)), (1, .inl v1), (2, .inl v2), (3, .inl v3), (4, .inl x4_24), (5, .inl r30), (6, .inl r42), (7, .inl 0)], [], M42)
          refine mm_s1 rfl ?_
          replace h := h.2.1 (Or.inl ⟨c58, (Or.inr ⟨c87, c94⟩)⟩)
          exact mm_s1 rfl ⟨(Or.inl rfl), _, rfl, (Or.inl rfl), L, N, h⟩
        · show mm_Go (mm_run 2) mc_M_wants _ (97, [(0, .inr (.inr 407)), (1, .inl v1), (2, .inl v2), (3, .inl v3), (4, .inl x4_24), (5, .inl r30), (6, .inl r42)], [], M42)
          replace c94 := Int.not_le.mp c94
          refine mm_s1 rfl ?_
          refine mm_s1 rfl ?_
          show mm_Go (mm_run 2) mc_M_wants _ (117, [(0, .inr (.inr 407)), (1, .inl v1), (2, .inl v2), (3, .inl v3), (4, .inl x4_24), (5, .inl r30), (6, .inl r42)], [.inl 1], M42)
          refine mm_s1 rfl ?_
          show mm_Go (mm_run 2) mc_M_wants _ (119, [(0, .inr (.inr 407)), (1, .inl v1), (2, .inl v2), (3, .inl v3), (4, .inl x4_24), (5, .inl r30), (6, .inl r42), (7, .inl 1)], [], M42)
          refine mm_s1 rfl ?_
          refine mm_s1 rfl ⟨fun _ => ?_, fun c => absurd (show (1 : Int) ≠ 0 by decide) c⟩
          show mm_Go (mm_run 2) mc_M_wants _ (126, [(0, .inr (.inr 407)), (1, .inl v1), (2, .inl v2), (3, .inl v3), (4, .inl x4_24), (5, .inl r30), (6, .inl r42), (7, .inl 1)], [], M42)
          refine mm_s1 rfl ?_
          show mm_Go (mm_run 2) mc_M_wants _ (129, [(0, .inr (.inr 407)), (1, .inl v1), (2, .inl v2), (3, .inl (mm_w (v3 + 1))), (4, .inl x4_24), (5, .inl r30), (6, .inl r42), (7, .inl 1)], [], M42)
          refine mm_s1 rfl ?_
          show mm_Go (mm_run 2) mc_M_wants _ (2, [(0, .inr (.inr 407)), (1, .inl v1), (2, .inl v2), (3, .inl (mm_w (v3 + 1))), (4, .inl x4_24), (5, .inl r30), (6, .inl r42), (7, .inl 1)], [], M42)
          replace h := h.2.2 (Or.inl ⟨c58, (Or.inr ⟨c87, c94⟩)⟩)
          exact nn_go_ext (nn_xc rfl (nn_xc rfl (nn_xc rfl (nn_xc rfl nn_xn)))) (h n L N)
    · show mm_Go (mm_run 2) mc_M_wants _ (61, [(0, .inr (.inr 407)), (1, .inl v1), (2, .inl v2), (3, .inl v3), (4, .inl x4_24), (5, .inl r30), (6, .inl r42)], [], M42)
      replace c58 := Decidable.not_not.mp c58
      refine mm_s1 rfl ?_
      refine mm_s1 rfl ?_
      refine mm_s1 rfl ⟨fun c65 => ?_, fun c65 => ?_⟩
      · show mm_Go (mm_run 2) mc_M_wants _ (72, [(0, .inr (.inr 407)), (1, .inl v1), (2, .inl v2), (3, .inl v3), (4, .inl x4_24), (5, .inl r30), (6, .inl r42)], [], M42)
        refine mm_s1 rfl ?_
        refine mm_s1 rfl ?_
        show mm_Go (mm_run 2) mc_M_wants _ (117, [(0, .inr (.inr 407)), (1, .inl v1), (2, .inl v2), (3, .inl v3), (4, .inl x4_24), (5, .inl r30), (6, .inl r42)], [.inl 0], M42)
        refine mm_s1 rfl ?_
        show mm_Go (mm_run 2) mc_M_wants _ (119, [(0, .inr (.inr 407)), (1, .inl v1), (2, .inl v2), (3, .inl v3), (4, .inl x4_24), (5, .inl r30), (6, .inl r42), (7, .inl 0)], [], M42)
        refine mm_s1 rfl ?_
        refine mm_s1 rfl ⟨fun c => absurd c (show ¬ ((0 : Int) ≠ 0) by decide), fun _ => ?_⟩
        show mm_Go (mm_run 2) mc_M_wants _ (124, [(0, .inr (.inr 407)), (1, .inl v1), (2, .inl v2), (3, .inl v3), (4, .inl x4_24), (5, .inl r30), (6, .inl r42), (7, .inl 0)], [], M42)
        refine mm_s1 rfl ?_
        replace h := h.2.1 (Or.inr ⟨c58, c65⟩)
        exact mm_s1 rfl ⟨(Or.inl rfl), _, rfl, (Or.inl rfl), L, N, h⟩
      · show mm_Go (mm_run 2) mc_M_wants _ (68, [(0, .inr (.inr 407)), (1, .inl v1), (2, .inl v2), (3, .inl v3), (4, .inl x4_24), (5, .inl r30), (6, .inl r42)], [], M42)
        replace c65 := Int.not_le.mp c65
        refine mm_s1 rfl ?_
        refine mm_s1 rfl ?_
        show mm_Go (mm_run 2) mc_M_wants _ (117, [(0, .inr (.inr 407)), (1, .inl v1), (2, .inl v2), (3, .inl v3), (4, .inl x4_24), (5, .inl r30), (6, .inl r42)], [.inl 1], M42)
        refine mm_s1 rfl ?_
        show mm_Go (mm_run 2) mc_M_wants _ (119, [(0, .inr (.inr 407)), (1, .inl v1), (2, .inl v2), (3, .inl v3), (4, .inl x4_24), (5, .inl r30), (6, .inl r42), (7, .inl 1)], [], M42)
        refine mm_s1 rfl ?_
        refine mm_s1 rfl ⟨fun _ => ?_, fun c => absurd (show (1 : Int) ≠ 0 by decide) c⟩
        show mm_Go (mm_run 2) mc_M_wants _ (126, [(0, .inr (.inr 407)), (1, .inl v1), (2, .inl v2), (3, .inl v3), (4, .inl x4_24), (5, .inl r30), (6, .inl r42), (7, .inl 1)], [], M42)
        refine mm_s1 rfl ?_
        show mm_Go (mm_run 2) mc_M_wants _ (129, [(0, .inr (.inr 407)), (1, .inl v1), (2, .inl v2), (3, .inl (mm_w (v3 + 1))), (4, .inl x4_24), (5, .inl r30), (6, .inl r42), (7, .inl 1)], [], M42)
        refine mm_s1 rfl ?_
        show mm_Go (mm_run 2) mc_M_wants _ (2, [(0, .inr (.inr 407)), (1, .inl v1), (2, .inl v2), (3, .inl (mm_w (v3 + 1))), (4, .inl x4_24), (5, .inl r30), (6, .inl r42), (7, .inl 1)], [], M42)
        replace h := h.2.2 (Or.inr ⟨c58, c65⟩)
        exact nn_go_ext (nn_xc rfl (nn_xc rfl (nn_xc rfl (nn_xc rfl nn_xn)))) (h n L N)
def nr_M_valueOf (v1 : Int) (v2 : Int) (M : mm_M) (R : Int → mm_M → Prop) : Prop := ∀ n, nn_L M → M.1 = n → mm_run 3 mi_M_valueOf [.inr (.inr 407), .inl v1, .inl v2] M (nw_I n R)
set_option maxRecDepth 20000 in
theorem ng_M_valueOf (v1 : Int) (v2 : Int) (M : mm_M) (R : Int → mm_M → Prop) (h : (nr_M_sumOf (mm_w (v1 + 9)) v2 M (fun r6 M6 => R r6 M6))) : nr_M_valueOf v1 v2 M R := by
  intro n L N 
  have NN := nn_L_n L N
  show mm_Go (mm_run 2) mc_M_valueOf _ (0, [(0, .inr (.inr 407)), (1, .inl v1), (2, .inl v2)], [], M)
  refine mm_s1 rfl ?_
  refine mm_s1 rfl ?_
  refine mm_s1 rfl ?_
  refine mm_s1 rfl ?_
  refine mm_s1 rfl ?_
  show mm_Go (mm_run 2) mc_M_valueOf _ (6, [(0, .inr (.inr 407)), (1, .inl v1), (2, .inl v2)], [.inl v2, .inl (mm_w (v1 + 9)), .inr (.inr 407)], M)
  refine mm_s1 rfl ⟨(nn_c407 NN).1, ?_⟩
  refine nn_call (D := 2) (by decide) (h n L N) ?_
  intro v M6 q; clear L N h
  obtain ⟨r6, rfl, L, N, h⟩ := q
  show mm_Go (mm_run 2) mc_M_valueOf _ (9, [(0, .inr (.inr 407)), (1, .inl v1), (2, .inl v2)], [.inl r6], M6)
  exact mm_s1 rfl ⟨_, rfl, L, N, h⟩
def nr_M_isThere (v1 : Int) (v2 : Int) (M : mm_M) (R : Int → mm_M → Prop) : Prop := ∀ n, nn_L M → M.1 = n → mm_run 3 mi_M_isThere [.inr (.inr 407), .inl v1, .inl v2] M (nw_Z n R)
set_option maxRecDepth 20000 in
theorem ng_M_isThere (v1 : Int) (v2 : Int) (M : mm_M) (R : Int → mm_M → Prop) (h : (nr_M_latest v1 v2 M (fun r3 M3 => ((r3 < 0 → R 0 M3) ∧ (0 ≤ r3 → (nr_M_latest v1 v2 M3 (fun r16 M16 => (((0 : Int) ≤ (mm_w (r16 + 32)) ∧ (mm_w (r16 + 32)) < (32844 : Int)) ∧ (((nn_ri M16 408 (mm_w (r16 + 32))) < 0 → R 0 M16) ∧ (0 ≤ (nn_ri M16 408 (mm_w (r16 + 32))) → R 1 M16)))))))))) : nr_M_isThere v1 v2 M R := by
  intro n L N 
  have NN := nn_L_n L N
  show mm_Go (mm_run 2) mc_M_isThere _ (0, [(0, .inr (.inr 407)), (1, .inl v1), (2, .inl v2)], [], M)
  refine mm_s1 rfl ?_
  refine mm_s1 rfl ?_
  refine mm_s1 rfl ?_
  refine mm_s1 rfl ⟨(nn_c407 NN).1, ?_⟩
  refine nn_call (D := 2) (by decide) (h n L N) ?_
  intro v M3 q; clear L N h
  obtain ⟨r3, rfl, L, N, h⟩ := q
  show mm_Go (mm_run 2) mc_M_isThere _ (6, [(0, .inr (.inr 407)), (1, .inl v1), (2, .inl v2)], [.inl r3], M3)
  refine mm_s1 rfl ⟨fun c6 => ?_, fun c6 => ?_⟩
  · show mm_Go (mm_run 2) mc_M_isThere _ (30, [(0, .inr (.inr 407)), (1, .inl v1), (2, .inl v2)], [], M3)
    replace h := h.1 c6
    refine mm_s1 rfl ?_
    exact mm_s1 rfl ⟨(Or.inl rfl), _, rfl, (Or.inl rfl), L, N, h⟩
  · show mm_Go (mm_run 2) mc_M_isThere _ (9, [(0, .inr (.inr 407)), (1, .inl v1), (2, .inl v2)], [], M3)
    replace c6 := Int.not_lt.mp c6
    replace h := h.2 c6
    refine mm_s1 rfl ?_
    refine nn_getr rfl (nn_c407 NN).1 (lf_13_0 L N (nn_c407 NN)) ?_
    refine mm_s1 rfl ?_
    refine mm_s1 rfl ?_
    refine mm_s1 rfl ?_
    show mm_Go (mm_run 2) mc_M_isThere _ (16, [(0, .inr (.inr 407)), (1, .inl v1), (2, .inl v2)], [.inl v2, .inl v1, .inr (.inr 407), .inr (.inr 408)], M3)
    refine mm_s1 rfl ⟨(nn_c407 NN).1, ?_⟩
    refine nn_call (D := 2) (by decide) (h n L N) ?_
    intro v M16 q; clear L N h
    obtain ⟨r16, rfl, L, N, h⟩ := q
    show mm_Go (mm_run 2) mc_M_isThere _ (19, [(0, .inr (.inr 407)), (1, .inl v1), (2, .inl v2)], [.inl r16, .inr (.inr 408)], M16)
    refine mm_s1 rfl ?_
    refine mm_s1 rfl ?_
    obtain ⟨b22, h⟩ := h
    refine mm_s1 rfl ⟨nn_bd (na_13_0 NN (nn_c407 NN)) b22, ?_⟩
    show mm_Go (mm_run 2) mc_M_isThere _ (23, [(0, .inr (.inr 407)), (1, .inl v1), (2, .inl v2)], [.inl (nn_ri M16 408 (mm_w (r16 + 32)))], M16)
    refine mm_s1 rfl ⟨fun c23 => ?_, fun c23 => ?_⟩
    · show mm_Go (mm_run 2) mc_M_isThere _ (30, [(0, .inr (.inr 407)), (1, .inl v1), (2, .inl v2)], [], M16)
      replace h := h.1 c23
      refine mm_s1 rfl ?_
      exact mm_s1 rfl ⟨(Or.inl rfl), _, rfl, (Or.inl rfl), L, N, h⟩
    · show mm_Go (mm_run 2) mc_M_isThere _ (26, [(0, .inr (.inr 407)), (1, .inl v1), (2, .inl v2)], [], M16)
      replace c23 := Int.not_lt.mp c23
      replace h := h.2 c23
      refine mm_s1 rfl ?_
      refine mm_s1 rfl ?_
      show mm_Go (mm_run 2) mc_M_isThere _ (31, [(0, .inr (.inr 407)), (1, .inl v1), (2, .inl v2)], [.inl 1], M16)
      exact mm_s1 rfl ⟨(Or.inr rfl), _, rfl, (Or.inr rfl), L, N, h⟩
def nr_M_rowOf (v1 : Int) (v2 : Int) (M : mm_M) (R : Int → mm_M → Prop) : Prop := ∀ n, nn_L M → M.1 = n → mm_run 3 mi_M_rowOf [.inr (.inr 407), .inl v1, .inl v2] M (nw_I n R)
set_option maxRecDepth 20000 in
theorem ng_M_rowOf (v1 : Int) (v2 : Int) (M : mm_M) (R : Int → mm_M → Prop) (h : (nr_M_latest v1 v2 M (fun r7 M7 => (((0 : Int) ≤ (mm_w (r7 + 32)) ∧ (mm_w (r7 + 32)) < (32844 : Int)) ∧ R (nn_ri M7 408 (mm_w (r7 + 32))) M7)))) : nr_M_rowOf v1 v2 M R := by
  intro n L N 
  have NN := nn_L_n L N
  show mm_Go (mm_run 2) mc_M_rowOf _ (0, [(0, .inr (.inr 407)), (1, .inl v1), (2, .inl v2)], [], M)
  refine mm_s1 rfl ?_
  refine nn_getr rfl (nn_c407 NN).1 (lf_13_0 L N (nn_c407 NN)) ?_
  refine mm_s1 rfl ?_
  refine mm_s1 rfl ?_
  refine mm_s1 rfl ?_
  show mm_Go (mm_run 2) mc_M_rowOf _ (7, [(0, .inr (.inr 407)), (1, .inl v1), (2, .inl v2)], [.inl v2, .inl v1, .inr (.inr 407), .inr (.inr 408)], M)
  refine mm_s1 rfl ⟨(nn_c407 NN).1, ?_⟩
  refine nn_call (D := 2) (by decide) (h n L N) ?_
  intro v M7 q; clear L N h
  obtain ⟨r7, rfl, L, N, h⟩ := q
  show mm_Go (mm_run 2) mc_M_rowOf _ (10, [(0, .inr (.inr 407)), (1, .inl v1), (2, .inl v2)], [.inl r7, .inr (.inr 408)], M7)
  refine mm_s1 rfl ?_
  refine mm_s1 rfl ?_
  obtain ⟨b13, h⟩ := h
  refine mm_s1 rfl ⟨nn_bd (na_13_0 NN (nn_c407 NN)) b13, ?_⟩
  show mm_Go (mm_run 2) mc_M_rowOf _ (14, [(0, .inr (.inr 407)), (1, .inl v1), (2, .inl v2)], [.inl (nn_ri M7 408 (mm_w (r7 + 32)))], M7)
  exact mm_s1 rfl ⟨_, rfl, L, N, h⟩
def nr_M_stampOf (v1 : Int) (v2 : Int) (M : mm_M) (R : Int → mm_M → Prop) : Prop := ∀ n, nn_L M → M.1 = n → mm_run 3 mi_M_stampOf [.inr (.inr 407), .inl v1, .inl v2] M (nw_I n R)
set_option maxRecDepth 20000 in
theorem ng_M_stampOf (v1 : Int) (v2 : Int) (M : mm_M) (R : Int → mm_M → Prop) (h : (nr_M_latest v1 v2 M (fun r3 M3 => ((0 ≤ r3 → (nr_M_latest v1 v2 M3 (fun r20 M20 => (((0 : Int) ≤ r20 ∧ r20 < (32844 : Int)) ∧ R (nn_ri M20 408 r20) M20)))) ∧ (r3 < 0 → R (-1) M3))))) : nr_M_stampOf v1 v2 M R := by
  intro n L N 
  have NN := nn_L_n L N
  show mm_Go (mm_run 2) mc_M_stampOf _ (0, [(0, .inr (.inr 407)), (1, .inl v1), (2, .inl v2)], [], M)
  refine mm_s1 rfl ?_
  refine mm_s1 rfl ?_
  refine mm_s1 rfl ?_
  refine mm_s1 rfl ⟨(nn_c407 NN).1, ?_⟩
  refine nn_call (D := 2) (by decide) (h n L N) ?_
  intro v M3 q; clear L N h
  obtain ⟨r3, rfl, L, N, h⟩ := q
  show mm_Go (mm_run 2) mc_M_stampOf _ (6, [(0, .inr (.inr 407)), (1, .inl v1), (2, .inl v2)], [.inl r3], M3)
  refine mm_s1 rfl ⟨fun c6 => ?_, fun c6 => ?_⟩
  · show mm_Go (mm_run 2) mc_M_stampOf _ (13, [(0, .inr (.inr 407)), (1, .inl v1), (2, .inl v2)], [], M3)
    replace h := h.1 c6
    refine mm_s1 rfl ?_
    refine nn_getr rfl (nn_c407 NN).1 (lf_13_0 L N (nn_c407 NN)) ?_
    refine mm_s1 rfl ?_
    refine mm_s1 rfl ?_
    refine mm_s1 rfl ?_
    show mm_Go (mm_run 2) mc_M_stampOf _ (20, [(0, .inr (.inr 407)), (1, .inl v1), (2, .inl v2)], [.inl v2, .inl v1, .inr (.inr 407), .inr (.inr 408)], M3)
    refine mm_s1 rfl ⟨(nn_c407 NN).1, ?_⟩
    refine nn_call (D := 2) (by decide) (h n L N) ?_
    intro v M20 q; clear L N h
    obtain ⟨r20, rfl, L, N, h⟩ := q
    show mm_Go (mm_run 2) mc_M_stampOf _ (23, [(0, .inr (.inr 407)), (1, .inl v1), (2, .inl v2)], [.inl r20, .inr (.inr 408)], M20)
    obtain ⟨b23, h⟩ := h
    refine mm_s1 rfl ⟨nn_bd (na_13_0 NN (nn_c407 NN)) b23, ?_⟩
    show mm_Go (mm_run 2) mc_M_stampOf _ (24, [(0, .inr (.inr 407)), (1, .inl v1), (2, .inl v2)], [.inl (nn_ri M20 408 r20)], M20)
    exact mm_s1 rfl ⟨_, rfl, L, N, h⟩
  · show mm_Go (mm_run 2) mc_M_stampOf _ (9, [(0, .inr (.inr 407)), (1, .inl v1), (2, .inl v2)], [], M3)
    replace c6 := Int.not_le.mp c6
    replace h := h.2 c6
    refine mm_s1 rfl ?_
    refine mm_s1 rfl ?_
    show mm_Go (mm_run 2) mc_M_stampOf _ (24, [(0, .inr (.inr 407)), (1, .inl v1), (2, .inl v2)], [.inl (-1)], M3)
    exact mm_s1 rfl ⟨_, rfl, L, N, h⟩
def nr_M_flushesIndex (v1 : Int) (v2 : Int) (M : mm_M) (R : mm_M → Prop) : Prop := ∀ n, nn_L M → M.1 = n → mm_run 3 mi_M_flushesIndex [.inr (.inr 407), .inl v1, .inl v2] M (nw_V n R)
def nk_M_flushesIndex_19 (v1 : Int) (v3 : Int) (v4 : Int) (M : mm_M) (R : mm_M → Prop) : Prop := ∀ n, nn_L M → M.1 = n → mm_Go (mm_run 2) mc_M_flushesIndex (nw_V n R) (19, [(0, .inr (.inr 407)), (1, .inl v1), (3, .inl v3), (4, .inl v4)], [], M)
def nk_M_flushesIndex_112 (v1 : Int) (v3 : Int) (v4 : Int) (M : mm_M) (R : mm_M → Prop) : Prop := ∀ n, nn_L M → M.1 = n → mm_Go (mm_run 2) mc_M_flushesIndex (nw_V n R) (112, [(0, .inr (.inr 407)), (1, .inl v1), (3, .inl v3), (4, .inl v4)], [], M)
def nk_M_flushesIndex_159 (v1 : Int) (v3 : Int) (v4 : Int) (M : mm_M) (R : mm_M → Prop) : Prop := ∀ n, nn_L M → M.1 = n → mm_Go (mm_run 2) mc_M_flushesIndex (nw_V n R) (159, [(0, .inr (.inr 407)), (1, .inl v1), (3, .inl v3), (4, .inl v4)], [], M)
set_option maxRecDepth 20000 in
theorem ng_M_flushesIndex (v1 : Int) (v2 : Int) (M : mm_M) (R : mm_M → Prop) (h : (((0 : Int) ≤ (mm_w ((nf_M_at v1 v2) + 6)) ∧ (mm_w ((nf_M_at v1 v2) + 6)) < (32844 : Int)) ∧ (∀ x4_17 : Int, x4_17 = mm_w ((nn_ri M 408 (mm_w ((nf_M_at v1 v2) + 6))) - 1) → nk_M_flushesIndex_19 v1 (nf_M_at v1 v2) x4_17 M R))) : nr_M_flushesIndex v1 v2 M R := by
  intro n L N 
  have NN := nn_L_n L N
  show mm_Go (mm_run 2) mc_M_flushesIndex _ (0, [(0, .inr (.inr 407)), (1, .inl v1), (2, .inl v2)], [], M)
  refine mm_s1 rfl ?_
  refine mm_s1 rfl ?_
  refine mm_s1 rfl ⟨trivial, ?_⟩
  refine np_M_at (by decide) L N ?_
  show mm_Go (mm_run 2) mc_M_flushesIndex _ (5, [(0, .inr (.inr 407)), (1, .inl v1), (2, .inl v2)], [.inl (nf_M_at v1 v2)], M)
  refine mm_s1 rfl ?_
  show mm_Go (mm_run 2) mc_M_flushesIndex _ (6, [(0, .inr (.inr 407)), (1, .inl v1), (2, .inl v2), (3, .inl (nf_M_at v1 v2))], [], M)
  refine mm_s1 rfl ?_
  refine nn_getr rfl (nn_c407 NN).1 (lf_13_0 L N (nn_c407 NN)) ?_
  refine mm_s1 rfl ?_
  refine mm_s1 rfl ?_
  refine mm_s1 rfl ?_
  show mm_Go (mm_run 2) mc_M_flushesIndex _ (14, [(0, .inr (.inr 407)), (1, .inl v1), (2, .inl v2), (3, .inl (nf_M_at v1 v2))], [.inl (mm_w ((nf_M_at v1 v2) + 6)), .inr (.inr 408)], M)
  obtain ⟨b14, h⟩ := h
  refine mm_s1 rfl ⟨nn_bd (na_13_0 NN (nn_c407 NN)) b14, ?_⟩
  show mm_Go (mm_run 2) mc_M_flushesIndex _ (15, [(0, .inr (.inr 407)), (1, .inl v1), (2, .inl v2), (3, .inl (nf_M_at v1 v2))], [.inl (nn_ri M 408 (mm_w ((nf_M_at v1 v2) + 6)))], M)
  refine mm_s1 rfl ?_
  refine mm_s1 rfl ?_
  refine mm_s1 rfl ?_
  show mm_Go (mm_run 2) mc_M_flushesIndex _ (19, [(0, .inr (.inr 407)), (1, .inl v1), (2, .inl v2), (3, .inl (nf_M_at v1 v2)), (4, .inl (mm_w ((nn_ri M 408 (mm_w ((nf_M_at v1 v2) + 6))) - 1)))], [], M)
  generalize e_x4_17 : (mm_w ((nn_ri M 408 (mm_w ((nf_M_at v1 v2) + 6))) - 1)) = x4_17
  replace h := h _ e_x4_17.symm
  show mm_Go (mm_run 2) mc_M_flushesIndex _ (19, [(0, .inr (.inr 407)), (1, .inl v1), (2, .inl v2), (3, .inl (nf_M_at v1 v2)), (4, .inl x4_17)], [], M)
  exact nn_go_ext (nn_xc rfl (nn_xc rfl (nn_xc rfl (nn_xc rfl nn_xn)))) (h n L N)
set_option maxRecDepth 20000 in
theorem ng_M_flushesIndex_19 (v1 : Int) (v3 : Int) (v4 : Int) (M : mm_M) (R : mm_M → Prop) (h : ((v4 < 0 → (nr_M_entriesOf v3 0 M (fun r89 M89 => ((r89 ≠ 0 → (((0 : Int) ≤ (mm_w (v3 + 5)) ∧ (mm_w (v3 + 5)) < (32844 : Int)) ∧ (∀ x4_110 : Int, x4_110 = mm_w ((nf_M_head v3 (nn_ri M89 408 (mm_w (v3 + 5)))) - 1) → nk_M_flushesIndex_112 v1 v3 x4_110 M89 R))) ∧ (r89 = 0 → R M89))))) ∧ (0 ≤ v4 → (((0 : Int) ≤ (nf_M_entryAt v3 v4) ∧ (nf_M_entryAt v3 v4) < (32844 : Int)) ∧ ((((nn_ri M 408 (nf_M_entryAt v3 v4)) = 0) → ((0 : Int) ≤ (mm_w ((nf_M_entryAt v3 v4) + 2)) ∧ (mm_w ((nf_M_entryAt v3 v4) + 2)) < (32844 : Int))) ∧ (((nn_ri M 408 (nf_M_entryAt v3 v4)) = 0) → ((0 : Int) ≤ (mm_w ((mm_w (v1 + 24)) + (nn_ri M 408 (mm_w ((nf_M_entryAt v3 v4) + 2))))) ∧ (mm_w ((mm_w (v1 + 24)) + (nn_ri M 408 (mm_w ((nf_M_entryAt v3 v4) + 2))))) < (32844 : Int))) ∧ (((nn_ri M 408 (nf_M_entryAt v3 v4)) = 0) → ((0 : Int) ≤ (mm_w ((nf_M_entryAt v3 v4) + 3)) ∧ (mm_w ((nf_M_entryAt v3 v4) + 3)) < (32844 : Int))) ∧ (((nn_ri M 408 (nf_M_entryAt v3 v4)) ≠ 0 ∨ ((nn_ri M 408 (mm_w ((mm_w (v1 + 24)) + (nn_ri M 408 (mm_w ((nf_M_entryAt v3 v4) + 2)))))) ≤ (nn_ri M 408 (mm_w ((nf_M_entryAt v3 v4) + 3))))) → nk_M_flushesIndex_19 v1 v3 (mm_w (v4 + (-1))) M R) ∧ (((nn_ri M 408 (nf_M_entryAt v3 v4)) = 0 ∧ ((nn_ri M 408 (mm_w ((nf_M_entryAt v3 v4) + 3))) < (nn_ri M 408 (mm_w ((mm_w (v1 + 24)) + (nn_ri M 408 (mm_w ((nf_M_entryAt v3 v4) + 2)))))))) → (nr_M_drops v3 v4 M (fun M77 => nk_M_flushesIndex_19 v1 v3 (mm_w (v4 + (-1))) M77 R)))))))) : nk_M_flushesIndex_19 v1 v3 v4 M R := by
  intro n L N 
  have NN := nn_L_n L N
  show mm_Go (mm_run 2) mc_M_flushesIndex _ (19, [(0, .inr (.inr 407)), (1, .inl v1), (3, .inl v3), (4, .inl v4)], [], M)
  refine mm_s1 rfl ?_
  refine mm_s1 rfl ⟨fun c21 => ?_, fun c21 => ?_⟩
  · show mm_Go (mm_run 2) mc_M_flushesIndex _ (86, [(0, .inr (.inr 407)), (1, .inl v1), (3, .inl v3), (4, .inl v4)], [], M)
    replace h := h.1 c21
    refine mm_s1 rfl ?_
    refine mm_s1 rfl ?_
    refine mm_s1 rfl ?_
    refine mm_s1 rfl ⟨(nn_c407 NN).1, ?_⟩
    refine nn_call (D := 2) (by decide) (h n L N) ?_
    intro v M89 q; clear L N h
    obtain ⟨r89, rfl, L, N, h⟩ := q
    show mm_Go (mm_run 2) mc_M_flushesIndex _ (92, [(0, .inr (.inr 407)), (1, .inl v1), (3, .inl v3), (4, .inl v4)], [.inl r89], M89)
    refine mm_s1 rfl ⟨fun c92 => ?_, fun c92 => ?_⟩
    · show mm_Go (mm_run 2) mc_M_flushesIndex _ (96, [(0, .inr (.inr 407)), (1, .inl v1), (3, .inl v3), (4, .inl v4)], [], M89)
      replace h := h.1 c92
      refine mm_s1 rfl ?_
      refine mm_s1 rfl ?_
      refine nn_getr rfl (nn_c407 NN).1 (lf_13_0 L N (nn_c407 NN)) ?_
      refine mm_s1 rfl ?_
      refine mm_s1 rfl ?_
      show mm_Go (mm_run 2) mc_M_flushesIndex _ (103, [(0, .inr (.inr 407)), (1, .inl v1), (3, .inl v3), (4, .inl v4)], [.inl 5, .inl v3, .inr (.inr 408), .inl v3], M89)
      refine mm_s1 rfl ?_
      obtain ⟨b104, h⟩ := h
      refine mm_s1 rfl ⟨nn_bd (na_13_0 NN (nn_c407 NN)) b104, ?_⟩
      show mm_Go (mm_run 2) mc_M_flushesIndex _ (105, [(0, .inr (.inr 407)), (1, .inl v1), (3, .inl v3), (4, .inl v4)], [.inl (nn_ri M89 408 (mm_w (v3 + 5))), .inl v3], M89)
      refine mm_s1 rfl ⟨trivial, ?_⟩
      refine np_M_head (by decide) L N ?_
      show mm_Go (mm_run 2) mc_M_flushesIndex _ (108, [(0, .inr (.inr 407)), (1, .inl v1), (3, .inl v3), (4, .inl v4)], [.inl (nf_M_head v3 (nn_ri M89 408 (mm_w (v3 + 5))))], M89)
      refine mm_s1 rfl ?_
      refine mm_s1 rfl ?_
      refine mm_s1 rfl ?_
      show mm_Go (mm_run 2) mc_M_flushesIndex _ (112, [(0, .inr (.inr 407)), (1, .inl v1), (3, .inl v3), (4, .inl (mm_w ((nf_M_head v3 (nn_ri M89 408 (mm_w (v3 + 5)))) - 1)))], [], M89)
      generalize e_x4_110 : (mm_w ((nf_M_head v3 (nn_ri M89 408 (mm_w (v3 + 5)))) - 1)) = x4_110
      replace h := h _ e_x4_110.symm
      show mm_Go (mm_run 2) mc_M_flushesIndex _ (112, [(0, .inr (.inr 407)), (1, .inl v1), (3, .inl v3), (4, .inl x4_110)], [], M89)
      exact nn_go_ext (nn_xc rfl (nn_xc rfl (nn_xc rfl (nn_xc rfl nn_xn)))) (h n L N)
    · show mm_Go (mm_run 2) mc_M_flushesIndex _ (95, [(0, .inr (.inr 407)), (1, .inl v1), (3, .inl v3), (4, .inl v4)], [], M89)
      replace c92 := Decidable.not_not.mp c92
      replace h := h.2 c92
      exact mm_s1 rfl ⟨rfl, L, N, h⟩
  · show mm_Go (mm_run 2) mc_M_flushesIndex _ (24, [(0, .inr (.inr 407)), (1, .inl v1), (3, .inl v3), (4, .inl v4)], [], M)
    replace c21 := Int.not_lt.mp c21
    replace h := h.2 c21
    refine mm_s1 rfl ?_
    refine mm_s1 rfl ?_
    refine mm_s1 rfl ⟨trivial, ?_⟩
    refine np_M_entryAt (by decide) L N ?_
    show mm_Go (mm_run 2) mc_M_flushesIndex _ (30, [(0, .inr (.inr 407)), (1, .inl v1), (3, .inl v3), (4, .inl v4)], [.inl (nf_M_entryAt v3 v4)], M)
    refine mm_s1 rfl ?_
    show mm_Go (mm_run 2) mc_M_flushesIndex _ (32, [(0, .inr (.inr 407)), (1, .inl v1), (3, .inl v3), (4, .inl v4), (5, .inl (nf_M_entryAt v3 v4))], [], M)
    refine mm_s1 rfl ?_
    refine nn_getr rfl (nn_c407 NN).1 (lf_13_0 L N (nn_c407 NN)) ?_
    refine mm_s1 rfl ?_
    obtain ⟨b38, h⟩ := h
    refine mm_s1 rfl ⟨nn_bd (na_13_0 NN (nn_c407 NN)) b38, ?_⟩
    show mm_Go (mm_run 2) mc_M_flushesIndex _ (39, [(0, .inr (.inr 407)), (1, .inl v1), (3, .inl v3), (4, .inl v4), (5, .inl (nf_M_entryAt v3 v4))], [.inl (nn_ri M 408 (nf_M_entryAt v3 v4))], M)
    refine mm_s1 rfl ⟨fun c39 => ?_, fun c39 => ?_⟩
    · show mm_Go (mm_run 2) mc_M_flushesIndex _ (80, [(0, .inr (.inr 407)), (1, .inl v1), (3, .inl v3), (4, .inl v4), (5, .inl (nf_M_entryAt v3 v4))], [], M)
      refine mm_s1 rfl ?_
      show mm_Go (mm_run 2) mc_M_flushesIndex _ (83, [(0, .inr (.inr 407)), (1, .inl v1), (3, .inl v3), (4, .inl (mm_w (v4 + (-1)))), (5, .inl (nf_M_entryAt v3 v4))], [], M)
      refine mm_s1 rfl ?_
      show mm_Go (mm_run 2) mc_M_flushesIndex _ (19, [(0, .inr (.inr 407)), (1, .inl v1), (3, .inl v3), (4, .inl (mm_w (v4 + (-1)))), (5, .inl (nf_M_entryAt v3 v4))], [], M)
      replace h := h.2.2.2.1 (Or.inl c39)
      exact nn_go_ext (nn_xc rfl (nn_xc rfl (nn_xc rfl (nn_xc rfl nn_xn)))) (h n L N)
    · show mm_Go (mm_run 2) mc_M_flushesIndex _ (42, [(0, .inr (.inr 407)), (1, .inl v1), (3, .inl v3), (4, .inl v4), (5, .inl (nf_M_entryAt v3 v4))], [], M)
      replace c39 := Decidable.not_not.mp c39
      refine mm_s1 rfl ?_
      refine nn_getr rfl (nn_c407 NN).1 (lf_13_0 L N (nn_c407 NN)) ?_
      refine mm_s1 rfl ?_
      refine mm_s1 rfl ?_
      refine mm_s1 rfl ?_
      show mm_Go (mm_run 2) mc_M_flushesIndex _ (50, [(0, .inr (.inr 407)), (1, .inl v1), (3, .inl v3), (4, .inl v4), (5, .inl (nf_M_entryAt v3 v4))], [.inl (mm_w (v1 + 24)), .inr (.inr 408)], M)
      refine mm_s1 rfl ?_
      refine nn_getr rfl (nn_c407 NN).1 (lf_13_0 L N (nn_c407 NN)) ?_
      refine mm_s1 rfl ?_
      refine mm_s1 rfl ?_
      refine mm_s1 rfl ?_
      show mm_Go (mm_run 2) mc_M_flushesIndex _ (58, [(0, .inr (.inr 407)), (1, .inl v1), (3, .inl v3), (4, .inl v4), (5, .inl (nf_M_entryAt v3 v4))], [.inl (mm_w ((nf_M_entryAt v3 v4) + 2)), .inr (.inr 408), .inl (mm_w (v1 + 24)), .inr (.inr 408)], M)
      have b58 := h.1 c39
      refine mm_s1 rfl ⟨nn_bd (na_13_0 NN (nn_c407 NN)) b58, ?_⟩
      show mm_Go (mm_run 2) mc_M_flushesIndex _ (59, [(0, .inr (.inr 407)), (1, .inl v1), (3, .inl v3), (4, .inl v4), (5, .inl (nf_M_entryAt v3 v4))], [.inl (nn_ri M 408 (mm_w ((nf_M_entryAt v3 v4) + 2))), .inl (mm_w (v1 + 24)), .inr (.inr 408)], M)
      refine mm_s1 rfl ?_
      have b60 := h.2.1 c39
      refine mm_s1 rfl ⟨nn_bd (na_13_0 NN (nn_c407 NN)) b60, ?_⟩
      show mm_Go (mm_run 2) mc_M_flushesIndex _ (61, [(0, .inr (.inr 407)), (1, .inl v1), (3, .inl v3), (4, .inl v4), (5, .inl (nf_M_entryAt v3 v4))], [.inl (nn_ri M 408 (mm_w ((mm_w (v1 + 24)) + (nn_ri M 408 (mm_w ((nf_M_entryAt v3 v4) + 2))))))], M)
      refine mm_s1 rfl ?_
      refine nn_getr rfl (nn_c407 NN).1 (lf_13_0 L N (nn_c407 NN)) ?_
      refine mm_s1 rfl ?_
      refine mm_s1 rfl ?_
      refine mm_s1 rfl ?_
      show mm_Go (mm_run 2) mc_M_flushesIndex _ (69, [(0, .inr (.inr 407)), (1, .inl v1), (3, .inl v3), (4, .inl v4), (5, .inl (nf_M_entryAt v3 v4))], [.inl (mm_w ((nf_M_entryAt v3 v4) + 3)), .inr (.inr 408), .inl (nn_ri M 408 (mm_w ((mm_w (v1 + 24)) + (nn_ri M 408 (mm_w ((nf_M_entryAt v3 v4) + 2))))))], M)
      have b69 := h.2.2.1 c39
      refine mm_s1 rfl ⟨nn_bd (na_13_0 NN (nn_c407 NN)) b69, ?_⟩
      show mm_Go (mm_run 2) mc_M_flushesIndex _ (70, [(0, .inr (.inr 407)), (1, .inl v1), (3, .inl v3), (4, .inl v4), (5, .inl (nf_M_entryAt v3 v4))], [.inl (nn_ri M 408 (mm_w ((nf_M_entryAt v3 v4) + 3))), .inl (nn_ri M 408 (mm_w ((mm_w (v1 + 24)) + (nn_ri M 408 (mm_w ((nf_M_entryAt v3 v4) + 2))))))], M)
      refine mm_s1 rfl ⟨fun c70 => ?_, fun c70 => ?_⟩
      · show mm_Go (mm_run 2) mc_M_flushesIndex _ (80, [(0, .inr (.inr 407)), (1, .inl v1), (3, .inl v3), (4, .inl v4), (5, .inl (nf_M_entryAt v3 v4))], [], M)
        refine mm_s1 rfl ?_
        show mm_Go (mm_run 2) mc_M_flushesIndex _ (83, [(0, .inr (.inr 407)), (1, .inl v1), (3, .inl v3), (4, .inl (mm_w (v4 + (-1)))), (5, .inl (nf_M_entryAt v3 v4))], [], M)
        refine mm_s1 rfl ?_
        show mm_Go (mm_run 2) mc_M_flushesIndex _ (19, [(0, .inr (.inr 407)), (1, .inl v1), (3, .inl v3), (4, .inl (mm_w (v4 + (-1)))), (5, .inl (nf_M_entryAt v3 v4))], [], M)
        replace h := h.2.2.2.1 (Or.inr c70)
        exact nn_go_ext (nn_xc rfl (nn_xc rfl (nn_xc rfl (nn_xc rfl nn_xn)))) (h n L N)
      · show mm_Go (mm_run 2) mc_M_flushesIndex _ (73, [(0, .inr (.inr 407)), (1, .inl v1), (3, .inl v3), (4, .inl v4), (5, .inl (nf_M_entryAt v3 v4))], [], M)
        replace c70 := Int.not_le.mp c70
        refine mm_s1 rfl ?_
        refine mm_s1 rfl ?_
        refine mm_s1 rfl ?_
        replace h := h.2.2.2.2 ⟨c39, c70⟩
        refine mm_s1 rfl ⟨(nn_c407 NN).1, ?_⟩
        refine nn_call (D := 2) (by decide) (h n L N) ?_
        intro v M77 q; clear L N h
        obtain ⟨rfl, L, N, h⟩ := q
        show mm_Go (mm_run 2) mc_M_flushesIndex _ (80, [(0, .inr (.inr 407)), (1, .inl v1), (3, .inl v3), (4, .inl v4), (5, .inl (nf_M_entryAt v3 v4))], [], M77)
        refine mm_s1 rfl ?_
        show mm_Go (mm_run 2) mc_M_flushesIndex _ (83, [(0, .inr (.inr 407)), (1, .inl v1), (3, .inl v3), (4, .inl (mm_w (v4 + (-1)))), (5, .inl (nf_M_entryAt v3 v4))], [], M77)
        refine mm_s1 rfl ?_
        show mm_Go (mm_run 2) mc_M_flushesIndex _ (19, [(0, .inr (.inr 407)), (1, .inl v1), (3, .inl v3), (4, .inl (mm_w (v4 + (-1)))), (5, .inl (nf_M_entryAt v3 v4))], [], M77)
        exact nn_go_ext (nn_xc rfl (nn_xc rfl (nn_xc rfl (nn_xc rfl nn_xn)))) (h n L N)
set_option maxRecDepth 20000 in
theorem ng_M_flushesIndex_112 (v1 : Int) (v3 : Int) (v4 : Int) (M : mm_M) (R : mm_M → Prop) (h : ((v4 < (nf_M_head v3 0) → (((0 : Int) ≤ (mm_w (v3 + 5)) ∧ (mm_w (v3 + 5)) < (32844 : Int)) ∧ (((0 : Int) ≤ (mm_w (v3 + 5)) ∧ (mm_w (v3 + 5)) < (32844 : Int)) ∧ (∀ M155 : mm_M, M155 = nn_ui M 408 (mm_w (v3 + 5)) (mm_w ((nn_ri M 408 (mm_w (v3 + 5))) + 1)) → nk_M_flushesIndex_159 v1 v3 0 M155 R)))) ∧ ((nf_M_head v3 0) ≤ v4 → (((0 : Int) ≤ v4 ∧ v4 < (32844 : Int)) ∧ (((0 : Int) ≤ (mm_w (v4 + 3)) ∧ (mm_w (v4 + 3)) < (32844 : Int)) ∧ (∀ M137 : mm_M, M137 = nn_ui M 408 (mm_w (v4 + 3)) (nn_ri M 408 v4) → nk_M_flushesIndex_112 v1 v3 (mm_w (v4 + (-1))) M137 R)))))) : nk_M_flushesIndex_112 v1 v3 v4 M R := by
  intro n L N 
  have NN := nn_L_n L N
  show mm_Go (mm_run 2) mc_M_flushesIndex _ (112, [(0, .inr (.inr 407)), (1, .inl v1), (3, .inl v3), (4, .inl v4)], [], M)
  refine mm_s1 rfl ?_
  refine mm_s1 rfl ?_
  refine mm_s1 rfl ?_
  refine mm_s1 rfl ⟨trivial, ?_⟩
  refine np_M_head (by decide) L N ?_
  show mm_Go (mm_run 2) mc_M_flushesIndex _ (119, [(0, .inr (.inr 407)), (1, .inl v1), (3, .inl v3), (4, .inl v4)], [.inl (nf_M_head v3 0), .inl v4], M)
  refine mm_s1 rfl ⟨fun c119 => ?_, fun c119 => ?_⟩
  · show mm_Go (mm_run 2) mc_M_flushesIndex _ (144, [(0, .inr (.inr 407)), (1, .inl v1), (3, .inl v3), (4, .inl v4)], [], M)
    replace h := h.1 c119
    refine mm_s1 rfl ?_
    refine nn_getr rfl (nn_c407 NN).1 (lf_13_0 L N (nn_c407 NN)) ?_
    refine mm_s1 rfl ?_
    refine mm_s1 rfl ?_
    refine mm_s1 rfl ?_
    show mm_Go (mm_run 2) mc_M_flushesIndex _ (151, [(0, .inr (.inr 407)), (1, .inl v1), (3, .inl v3), (4, .inl v4)], [.inl (mm_w (v3 + 5)), .inr (.inr 408)], M)
    refine mm_s1 rfl ?_
    obtain ⟨b152, h⟩ := h
    refine mm_s1 rfl ⟨nn_bd (na_13_0 NN (nn_c407 NN)) b152, ?_⟩
    show mm_Go (mm_run 2) mc_M_flushesIndex _ (153, [(0, .inr (.inr 407)), (1, .inl v1), (3, .inl v3), (4, .inl v4)], [.inl (nn_ri M 408 (mm_w (v3 + 5))), .inl (mm_w (v3 + 5)), .inr (.inr 408)], M)
    refine mm_s1 rfl ?_
    refine mm_s1 rfl ?_
    obtain ⟨b155, h⟩ := h
    refine mm_s1 rfl ⟨nn_bd (na_13_0 NN (nn_c407 NN)) b155, ?_⟩
    show mm_Go (mm_run 2) mc_M_flushesIndex _ (156, [(0, .inr (.inr 407)), (1, .inl v1), (3, .inl v3), (4, .inl v4)], [], (nn_ui M 408 (mm_w (v3 + 5)) (mm_w ((nn_ri M 408 (mm_w (v3 + 5))) + 1))))
    have L : nn_L (nn_ui M 408 (mm_w (v3 + 5)) (mm_w ((nn_ri M 408 (mm_w (v3 + 5))) + 1))) := nn_L_ua L (congrArg Prod.fst (na_13_0 NN (nn_c407 NN))) (by decide)
    have N : (nn_ui M 408 (mm_w (v3 + 5)) (mm_w ((nn_ri M 408 (mm_w (v3 + 5))) + 1))).1 = n := N
    generalize e_M155 : (nn_ui M 408 (mm_w (v3 + 5)) (mm_w ((nn_ri M 408 (mm_w (v3 + 5))) + 1))) = M155 at L N ⊢
    replace h := h _ e_M155.symm
    show mm_Go (mm_run 2) mc_M_flushesIndex _ (156, [(0, .inr (.inr 407)), (1, .inl v1), (3, .inl v3), (4, .inl v4)], [], M155)
    refine mm_s1 rfl ?_
    refine mm_s1 rfl ?_
    show mm_Go (mm_run 2) mc_M_flushesIndex _ (159, [(0, .inr (.inr 407)), (1, .inl v1), (3, .inl v3), (4, .inl 0)], [], M155)
    exact nn_go_ext (nn_xc rfl (nn_xc rfl (nn_xc rfl (nn_xc rfl nn_xn)))) (h n L N)
  · show mm_Go (mm_run 2) mc_M_flushesIndex _ (122, [(0, .inr (.inr 407)), (1, .inl v1), (3, .inl v3), (4, .inl v4)], [], M)
    replace c119 := Int.not_lt.mp c119
    replace h := h.2 c119
    refine mm_s1 rfl ?_
    refine nn_getr rfl (nn_c407 NN).1 (lf_13_0 L N (nn_c407 NN)) ?_
    refine mm_s1 rfl ?_
    refine mm_s1 rfl ?_
    refine mm_s1 rfl ?_
    show mm_Go (mm_run 2) mc_M_flushesIndex _ (130, [(0, .inr (.inr 407)), (1, .inl v1), (3, .inl v3), (4, .inl v4)], [.inl (mm_w (v4 + 3)), .inr (.inr 408)], M)
    refine mm_s1 rfl ?_
    refine nn_getr rfl (nn_c407 NN).1 (lf_13_0 L N (nn_c407 NN)) ?_
    refine mm_s1 rfl ?_
    obtain ⟨b136, h⟩ := h
    refine mm_s1 rfl ⟨nn_bd (na_13_0 NN (nn_c407 NN)) b136, ?_⟩
    show mm_Go (mm_run 2) mc_M_flushesIndex _ (137, [(0, .inr (.inr 407)), (1, .inl v1), (3, .inl v3), (4, .inl v4)], [.inl (nn_ri M 408 v4), .inl (mm_w (v4 + 3)), .inr (.inr 408)], M)
    obtain ⟨b137, h⟩ := h
    refine mm_s1 rfl ⟨nn_bd (na_13_0 NN (nn_c407 NN)) b137, ?_⟩
    show mm_Go (mm_run 2) mc_M_flushesIndex _ (138, [(0, .inr (.inr 407)), (1, .inl v1), (3, .inl v3), (4, .inl v4)], [], (nn_ui M 408 (mm_w (v4 + 3)) (nn_ri M 408 v4)))
    have L : nn_L (nn_ui M 408 (mm_w (v4 + 3)) (nn_ri M 408 v4)) := nn_L_ua L (congrArg Prod.fst (na_13_0 NN (nn_c407 NN))) (by decide)
    have N : (nn_ui M 408 (mm_w (v4 + 3)) (nn_ri M 408 v4)).1 = n := N
    generalize e_M137 : (nn_ui M 408 (mm_w (v4 + 3)) (nn_ri M 408 v4)) = M137 at L N ⊢
    replace h := h _ e_M137.symm
    show mm_Go (mm_run 2) mc_M_flushesIndex _ (138, [(0, .inr (.inr 407)), (1, .inl v1), (3, .inl v3), (4, .inl v4)], [], M137)
    refine mm_s1 rfl ?_
    show mm_Go (mm_run 2) mc_M_flushesIndex _ (141, [(0, .inr (.inr 407)), (1, .inl v1), (3, .inl v3), (4, .inl (mm_w (v4 + (-1))))], [], M137)
    refine mm_s1 rfl ?_
    show mm_Go (mm_run 2) mc_M_flushesIndex _ (112, [(0, .inr (.inr 407)), (1, .inl v1), (3, .inl v3), (4, .inl (mm_w (v4 + (-1))))], [], M137)
    exact nn_go_ext (nn_xc rfl (nn_xc rfl (nn_xc rfl (nn_xc rfl nn_xn)))) (h n L N)
set_option maxRecDepth 20000 in
theorem ng_M_flushesIndex_159 (v1 : Int) (v3 : Int) (v4 : Int) (M : mm_M) (R : mm_M → Prop) (h : (((0 : Int) ≤ (mm_w (v3 + 6)) ∧ (mm_w (v3 + 6)) < (32844 : Int)) ∧ (((nn_ri M 408 (mm_w (v3 + 6))) ≤ v4 → (((0 : Int) ≤ (mm_w (v1 + 0)) ∧ (mm_w (v1 + 0)) < (32844 : Int)) ∧ (nr_M_lays v1 v3 0 0 (nn_ri M 408 (mm_w (v1 + 0))) M (fun M207 => R M207)))) ∧ (v4 < (nn_ri M 408 (mm_w (v3 + 6))) → (((0 : Int) ≤ (nf_M_entryAt v3 v4) ∧ (nf_M_entryAt v3 v4) < (32844 : Int)) ∧ (((0 : Int) ≤ (nf_M_entryAt v3 v4) ∧ (nf_M_entryAt v3 v4) < (32844 : Int)) ∧ (∀ M187 : mm_M, M187 = nn_ui M 408 (nf_M_entryAt v3 v4) (mm_w ((nn_ri M 408 (nf_M_entryAt v3 v4)) + 1)) → nk_M_flushesIndex_159 v1 v3 (mm_w (v4 + 1)) M187 R))))))) : nk_M_flushesIndex_159 v1 v3 v4 M R := by
  intro n L N 
  have NN := nn_L_n L N
  show mm_Go (mm_run 2) mc_M_flushesIndex _ (159, [(0, .inr (.inr 407)), (1, .inl v1), (3, .inl v3), (4, .inl v4)], [], M)
  refine mm_s1 rfl ?_
  refine mm_s1 rfl ?_
  refine nn_getr rfl (nn_c407 NN).1 (lf_13_0 L N (nn_c407 NN)) ?_
  refine mm_s1 rfl ?_
  refine mm_s1 rfl ?_
  show mm_Go (mm_run 2) mc_M_flushesIndex _ (168, [(0, .inr (.inr 407)), (1, .inl v1), (3, .inl v3), (4, .inl v4)], [.inl 6, .inl v3, .inr (.inr 408), .inl v4], M)
  refine mm_s1 rfl ?_
  obtain ⟨b169, h⟩ := h
  refine mm_s1 rfl ⟨nn_bd (na_13_0 NN (nn_c407 NN)) b169, ?_⟩
  show mm_Go (mm_run 2) mc_M_flushesIndex _ (170, [(0, .inr (.inr 407)), (1, .inl v1), (3, .inl v3), (4, .inl v4)], [.inl (nn_ri M 408 (mm_w (v3 + 6))), .inl v4], M)
  refine mm_s1 rfl ⟨fun c170 => ?_, fun c170 => ?_⟩
  · show mm_Go (mm_run 2) mc_M_flushesIndex _ (194, [(0, .inr (.inr 407)), (1, .inl v1), (3, .inl v3), (4, .inl v4)], [], M)
    replace h := h.1 c170
    refine mm_s1 rfl ?_
    refine mm_s1 rfl ?_
    refine mm_s1 rfl ?_
    refine mm_s1 rfl ?_
    refine mm_s1 rfl ?_
    show mm_Go (mm_run 2) mc_M_flushesIndex _ (199, [(0, .inr (.inr 407)), (1, .inl v1), (3, .inl v3), (4, .inl v4)], [.inl 0, .inl 0, .inl v3, .inl v1, .inr (.inr 407)], M)
    refine mm_s1 rfl ?_
    refine nn_getr rfl (nn_c407 NN).1 (lf_13_0 L N (nn_c407 NN)) ?_
    refine mm_s1 rfl ?_
    refine mm_s1 rfl ?_
    refine mm_s1 rfl ?_
    show mm_Go (mm_run 2) mc_M_flushesIndex _ (206, [(0, .inr (.inr 407)), (1, .inl v1), (3, .inl v3), (4, .inl v4)], [.inl (mm_w (v1 + 0)), .inr (.inr 408), .inl 0, .inl 0, .inl v3, .inl v1, .inr (.inr 407)], M)
    obtain ⟨b206, h⟩ := h
    refine mm_s1 rfl ⟨nn_bd (na_13_0 NN (nn_c407 NN)) b206, ?_⟩
    show mm_Go (mm_run 2) mc_M_flushesIndex _ (207, [(0, .inr (.inr 407)), (1, .inl v1), (3, .inl v3), (4, .inl v4)], [.inl (nn_ri M 408 (mm_w (v1 + 0))), .inl 0, .inl 0, .inl v3, .inl v1, .inr (.inr 407)], M)
    refine mm_s1 rfl ⟨(nn_c407 NN).1, ?_⟩
    refine nn_call (D := 2) (by decide) (h n L N) ?_
    intro v M207 q; clear L N h
    obtain ⟨rfl, L, N, h⟩ := q
    show mm_Go (mm_run 2) mc_M_flushesIndex _ (210, [(0, .inr (.inr 407)), (1, .inl v1), (3, .inl v3), (4, .inl v4)], [], M207)
    exact mm_s1 rfl ⟨rfl, L, N, h⟩
  · show mm_Go (mm_run 2) mc_M_flushesIndex _ (173, [(0, .inr (.inr 407)), (1, .inl v1), (3, .inl v3), (4, .inl v4)], [], M)
    replace c170 := Int.not_le.mp c170
    replace h := h.2 c170
    refine mm_s1 rfl ?_
    refine nn_getr rfl (nn_c407 NN).1 (lf_13_0 L N (nn_c407 NN)) ?_
    refine mm_s1 rfl ?_
    refine mm_s1 rfl ?_
    refine mm_s1 rfl ⟨trivial, ?_⟩
    refine np_M_entryAt (by decide) L N ?_
    show mm_Go (mm_run 2) mc_M_flushesIndex _ (183, [(0, .inr (.inr 407)), (1, .inl v1), (3, .inl v3), (4, .inl v4)], [.inl (nf_M_entryAt v3 v4), .inr (.inr 408)], M)
    refine mm_s1 rfl ?_
    obtain ⟨b184, h⟩ := h
    refine mm_s1 rfl ⟨nn_bd (na_13_0 NN (nn_c407 NN)) b184, ?_⟩
    show mm_Go (mm_run 2) mc_M_flushesIndex _ (185, [(0, .inr (.inr 407)), (1, .inl v1), (3, .inl v3), (4, .inl v4)], [.inl (nn_ri M 408 (nf_M_entryAt v3 v4)), .inl (nf_M_entryAt v3 v4), .inr (.inr 408)], M)
    refine mm_s1 rfl ?_
    refine mm_s1 rfl ?_
    obtain ⟨b187, h⟩ := h
    refine mm_s1 rfl ⟨nn_bd (na_13_0 NN (nn_c407 NN)) b187, ?_⟩
    show mm_Go (mm_run 2) mc_M_flushesIndex _ (188, [(0, .inr (.inr 407)), (1, .inl v1), (3, .inl v3), (4, .inl v4)], [], (nn_ui M 408 (nf_M_entryAt v3 v4) (mm_w ((nn_ri M 408 (nf_M_entryAt v3 v4)) + 1))))
    have L : nn_L (nn_ui M 408 (nf_M_entryAt v3 v4) (mm_w ((nn_ri M 408 (nf_M_entryAt v3 v4)) + 1))) := nn_L_ua L (congrArg Prod.fst (na_13_0 NN (nn_c407 NN))) (by decide)
    have N : (nn_ui M 408 (nf_M_entryAt v3 v4) (mm_w ((nn_ri M 408 (nf_M_entryAt v3 v4)) + 1))).1 = n := N
    generalize e_M187 : (nn_ui M 408 (nf_M_entryAt v3 v4) (mm_w ((nn_ri M 408 (nf_M_entryAt v3 v4)) + 1))) = M187 at L N ⊢
    replace h := h _ e_M187.symm
    show mm_Go (mm_run 2) mc_M_flushesIndex _ (188, [(0, .inr (.inr 407)), (1, .inl v1), (3, .inl v3), (4, .inl v4)], [], M187)
    refine mm_s1 rfl ?_
    show mm_Go (mm_run 2) mc_M_flushesIndex _ (191, [(0, .inr (.inr 407)), (1, .inl v1), (3, .inl v3), (4, .inl (mm_w (v4 + 1)))], [], M187)
    refine mm_s1 rfl ?_
    show mm_Go (mm_run 2) mc_M_flushesIndex _ (159, [(0, .inr (.inr 407)), (1, .inl v1), (3, .inl v3), (4, .inl (mm_w (v4 + 1)))], [], M187)
    exact nn_go_ext (nn_xc rfl (nn_xc rfl (nn_xc rfl (nn_xc rfl nn_xn)))) (h n L N)
def nr_M_alike (v1 : Int) (v2 : Int) (M : mm_M) (R : Int → mm_M → Prop) : Prop := ∀ n, nn_L M → M.1 = n → mm_run 3 mi_M_alike [.inr (.inr 407), .inl v1, .inl v2] M (nw_I n R)
def nk_M_alike_27 (v1 : Int) (v2 : Int) (v3 : Int) (v4 : Int) (M : mm_M) (R : Int → mm_M → Prop) : Prop := ∀ n, nn_L M → M.1 = n → mm_Go (mm_run 2) mc_M_alike (nw_I n R) (27, [(0, .inr (.inr 407)), (1, .inl v1), (2, .inl v2), (3, .inl v3), (4, .inl v4)], [], M)
def nk_M_alike_45 (v1 : Int) (v2 : Int) (v3 : Int) (v4 : Int) (v5 : Int) (M : mm_M) (R : Int → mm_M → Prop) : Prop := ∀ n, nn_L M → M.1 = n → mm_Go (mm_run 2) mc_M_alike (nw_I n R) (45, [(0, .inr (.inr 407)), (1, .inl v1), (2, .inl v2), (3, .inl v3), (4, .inl v4), (5, .inl v5)], [], M)
set_option maxRecDepth 20000 in
theorem ng_M_alike (v1 : Int) (v2 : Int) (M : mm_M) (R : Int → mm_M → Prop) (h : ((0 ≤ v2 → (((0 : Int) ≤ (mm_w (v2 + 5)) ∧ (mm_w (v2 + 5)) < (32844 : Int)) ∧ nk_M_alike_27 v1 v2 (nn_ri M 408 (mm_w (v2 + 5))) 0 M R)) ∧ (v2 < 0 → (((0 : Int) ≤ (mm_w (v1 + 5)) ∧ (mm_w (v1 + 5)) < (32844 : Int)) ∧ nk_M_alike_27 v1 v2 (nn_ri M 408 (mm_w (v1 + 5))) 0 M R)))) : nr_M_alike v1 v2 M R := by
  intro n L N 
  have NN := nn_L_n L N
  show mm_Go (mm_run 2) mc_M_alike _ (0, [(0, .inr (.inr 407)), (1, .inl v1), (2, .inl v2)], [], M)
  refine mm_s1 rfl ?_
  refine mm_s1 rfl ⟨fun c1 => ?_, fun c1 => ?_⟩
  · show mm_Go (mm_run 2) mc_M_alike _ (15, [(0, .inr (.inr 407)), (1, .inl v1), (2, .inl v2)], [], M)
    replace h := h.1 c1
    refine mm_s1 rfl ?_
    refine nn_getr rfl (nn_c407 NN).1 (lf_13_0 L N (nn_c407 NN)) ?_
    refine mm_s1 rfl ?_
    refine mm_s1 rfl ?_
    refine mm_s1 rfl ?_
    show mm_Go (mm_run 2) mc_M_alike _ (22, [(0, .inr (.inr 407)), (1, .inl v1), (2, .inl v2)], [.inl (mm_w (v2 + 5)), .inr (.inr 408)], M)
    obtain ⟨b22, h⟩ := h
    refine mm_s1 rfl ⟨nn_bd (na_13_0 NN (nn_c407 NN)) b22, ?_⟩
    show mm_Go (mm_run 2) mc_M_alike _ (23, [(0, .inr (.inr 407)), (1, .inl v1), (2, .inl v2)], [.inl (nn_ri M 408 (mm_w (v2 + 5)))], M)
    refine mm_s1 rfl ?_
    show mm_Go (mm_run 2) mc_M_alike _ (24, [(0, .inr (.inr 407)), (1, .inl v1), (2, .inl v2), (3, .inl (nn_ri M 408 (mm_w (v2 + 5))))], [], M)
    refine mm_s1 rfl ?_
    refine mm_s1 rfl ?_
    show mm_Go (mm_run 2) mc_M_alike _ (27, [(0, .inr (.inr 407)), (1, .inl v1), (2, .inl v2), (3, .inl (nn_ri M 408 (mm_w (v2 + 5)))), (4, .inl 0)], [], M)
    exact nn_go_ext (nn_xc rfl (nn_xc rfl (nn_xc rfl (nn_xc rfl (nn_xc rfl nn_xn))))) (h n L N)
  · show mm_Go (mm_run 2) mc_M_alike _ (4, [(0, .inr (.inr 407)), (1, .inl v1), (2, .inl v2)], [], M)
    replace c1 := Int.not_le.mp c1
    replace h := h.2 c1
    refine mm_s1 rfl ?_
    refine nn_getr rfl (nn_c407 NN).1 (lf_13_0 L N (nn_c407 NN)) ?_
    refine mm_s1 rfl ?_
    refine mm_s1 rfl ?_
    refine mm_s1 rfl ?_
    show mm_Go (mm_run 2) mc_M_alike _ (11, [(0, .inr (.inr 407)), (1, .inl v1), (2, .inl v2)], [.inl (mm_w (v1 + 5)), .inr (.inr 408)], M)
    obtain ⟨b11, h⟩ := h
    refine mm_s1 rfl ⟨nn_bd (na_13_0 NN (nn_c407 NN)) b11, ?_⟩
    show mm_Go (mm_run 2) mc_M_alike _ (12, [(0, .inr (.inr 407)), (1, .inl v1), (2, .inl v2)], [.inl (nn_ri M 408 (mm_w (v1 + 5)))], M)
    refine mm_s1 rfl ?_
    show mm_Go (mm_run 2) mc_M_alike _ (23, [(0, .inr (.inr 407)), (1, .inl v1), (2, .inl v2)], [.inl (nn_ri M 408 (mm_w (v1 + 5)))], M)
    refine mm_s1 rfl ?_
    show mm_Go (mm_run 2) mc_M_alike _ (24, [(0, .inr (.inr 407)), (1, .inl v1), (2, .inl v2), (3, .inl (nn_ri M 408 (mm_w (v1 + 5))))], [], M)
    refine mm_s1 rfl ?_
    refine mm_s1 rfl ?_
    show mm_Go (mm_run 2) mc_M_alike _ (27, [(0, .inr (.inr 407)), (1, .inl v1), (2, .inl v2), (3, .inl (nn_ri M 408 (mm_w (v1 + 5)))), (4, .inl 0)], [], M)
    exact nn_go_ext (nn_xc rfl (nn_xc rfl (nn_xc rfl (nn_xc rfl (nn_xc rfl nn_xn))))) (h n L N)
set_option maxRecDepth 20000 in
theorem ng_M_alike_27 (v1 : Int) (v2 : Int) (v3 : Int) (v4 : Int) (M : mm_M) (R : Int → mm_M → Prop) (h : (((0 : Int) ≤ (mm_w (v1 + 4)) ∧ (mm_w (v1 + 4)) < (32844 : Int)) ∧ ((v3 < (mm_w (v4 + (nn_ri M 408 (mm_w (v1 + 4))))) → R (-1) M) ∧ ((mm_w (v4 + (nn_ri M 408 (mm_w (v1 + 4))))) ≤ v3 → nk_M_alike_45 v1 v2 v3 v4 0 M R)))) : nk_M_alike_27 v1 v2 v3 v4 M R := by
  intro n L N 
  have NN := nn_L_n L N
  show mm_Go (mm_run 2) mc_M_alike _ (27, [(0, .inr (.inr 407)), (1, .inl v1), (2, .inl v2), (3, .inl v3), (4, .inl v4)], [], M)
  refine mm_s1 rfl ?_
  refine mm_s1 rfl ?_
  refine nn_getr rfl (nn_c407 NN).1 (lf_13_0 L N (nn_c407 NN)) ?_
  refine mm_s1 rfl ?_
  refine mm_s1 rfl ?_
  show mm_Go (mm_run 2) mc_M_alike _ (35, [(0, .inr (.inr 407)), (1, .inl v1), (2, .inl v2), (3, .inl v3), (4, .inl v4)], [.inl 4, .inl v1, .inr (.inr 408), .inl v4], M)
  refine mm_s1 rfl ?_
  obtain ⟨b36, h⟩ := h
  refine mm_s1 rfl ⟨nn_bd (na_13_0 NN (nn_c407 NN)) b36, ?_⟩
  show mm_Go (mm_run 2) mc_M_alike _ (37, [(0, .inr (.inr 407)), (1, .inl v1), (2, .inl v2), (3, .inl v3), (4, .inl v4)], [.inl (nn_ri M 408 (mm_w (v1 + 4))), .inl v4], M)
  refine mm_s1 rfl ?_
  refine mm_s1 rfl ?_
  refine mm_s1 rfl ⟨fun c39 => ?_, fun c39 => ?_⟩
  · show mm_Go (mm_run 2) mc_M_alike _ (108, [(0, .inr (.inr 407)), (1, .inl v1), (2, .inl v2), (3, .inl v3), (4, .inl v4)], [], M)
    replace h := h.1 c39
    refine mm_s1 rfl ?_
    exact mm_s1 rfl ⟨_, rfl, L, N, h⟩
  · show mm_Go (mm_run 2) mc_M_alike _ (42, [(0, .inr (.inr 407)), (1, .inl v1), (2, .inl v2), (3, .inl v3), (4, .inl v4)], [], M)
    replace c39 := Int.not_lt.mp c39
    replace h := h.2 c39
    refine mm_s1 rfl ?_
    refine mm_s1 rfl ?_
    show mm_Go (mm_run 2) mc_M_alike _ (45, [(0, .inr (.inr 407)), (1, .inl v1), (2, .inl v2), (3, .inl v3), (4, .inl v4), (5, .inl 0)], [], M)
    exact nn_go_ext (nn_xc rfl (nn_xc rfl (nn_xc rfl (nn_xc rfl (nn_xc rfl (nn_xc rfl nn_xn)))))) (h n L N)
set_option maxRecDepth 20000 in
theorem ng_M_alike_45 (v1 : Int) (v2 : Int) (v3 : Int) (v4 : Int) (v5 : Int) (M : mm_M) (R : Int → mm_M → Prop) (h : (((0 : Int) ≤ (mm_w (v1 + 4)) ∧ (mm_w (v1 + 4)) < (32844 : Int)) ∧ (((nn_ri M 408 (mm_w (v1 + 4))) ≤ v5 → (((0 : Int) ≤ (mm_w (v1 + 4)) ∧ (mm_w (v1 + 4)) < (32844 : Int)) ∧ ((v5 ≠ (nn_ri M 408 (mm_w (v1 + 4))) → nk_M_alike_27 v1 v2 v3 (mm_w (v4 + 1)) M R) ∧ (v5 = (nn_ri M 408 (mm_w (v1 + 4))) → R v4 M)))) ∧ (v5 < (nn_ri M 408 (mm_w (v1 + 4))) → ((nc_M_levelOf v1 v2 (mm_w (v4 + v5)) M) ∧ ((nc_M_levelOf v1 v2 v4 M) ∧ (((nf_M_levelOf v1 v2 (mm_w (v4 + v5)) M) ≠ (nf_M_levelOf v1 v2 v4 M) → (((0 : Int) ≤ (mm_w (v1 + 4)) ∧ (mm_w (v1 + 4)) < (32844 : Int)) ∧ ((v5 ≠ (nn_ri M 408 (mm_w (v1 + 4))) → nk_M_alike_27 v1 v2 v3 (mm_w (v4 + 1)) M R) ∧ (v5 = (nn_ri M 408 (mm_w (v1 + 4))) → R v4 M)))) ∧ ((nf_M_levelOf v1 v2 (mm_w (v4 + v5)) M) = (nf_M_levelOf v1 v2 v4 M) → nk_M_alike_45 v1 v2 v3 v4 (mm_w (v5 + 1)) M R)))))))) : nk_M_alike_45 v1 v2 v3 v4 v5 M R := by
  intro n L N 
  have NN := nn_L_n L N
  show mm_Go (mm_run 2) mc_M_alike _ (45, [(0, .inr (.inr 407)), (1, .inl v1), (2, .inl v2), (3, .inl v3), (4, .inl v4), (5, .inl v5)], [], M)
  refine mm_s1 rfl ?_
  refine mm_s1 rfl ?_
  refine nn_getr rfl (nn_c407 NN).1 (lf_13_0 L N (nn_c407 NN)) ?_
  refine mm_s1 rfl ?_
  refine mm_s1 rfl ?_
  show mm_Go (mm_run 2) mc_M_alike _ (53, [(0, .inr (.inr 407)), (1, .inl v1), (2, .inl v2), (3, .inl v3), (4, .inl v4), (5, .inl v5)], [.inl 4, .inl v1, .inr (.inr 408), .inl v5], M)
  refine mm_s1 rfl ?_
  obtain ⟨b54, h⟩ := h
  refine mm_s1 rfl ⟨nn_bd (na_13_0 NN (nn_c407 NN)) b54, ?_⟩
  show mm_Go (mm_run 2) mc_M_alike _ (55, [(0, .inr (.inr 407)), (1, .inl v1), (2, .inl v2), (3, .inl v3), (4, .inl v4), (5, .inl v5)], [.inl (nn_ri M 408 (mm_w (v1 + 4))), .inl v5], M)
  refine mm_s1 rfl ⟨fun c55 => ?_, fun c55 => ?_⟩
  · show mm_Go (mm_run 2) mc_M_alike _ (86, [(0, .inr (.inr 407)), (1, .inl v1), (2, .inl v2), (3, .inl v3), (4, .inl v4), (5, .inl v5)], [], M)
    replace h := h.1 c55
    refine mm_s1 rfl ?_
    refine mm_s1 rfl ?_
    refine nn_getr rfl (nn_c407 NN).1 (lf_13_0 L N (nn_c407 NN)) ?_
    refine mm_s1 rfl ?_
    refine mm_s1 rfl ?_
    show mm_Go (mm_run 2) mc_M_alike _ (94, [(0, .inr (.inr 407)), (1, .inl v1), (2, .inl v2), (3, .inl v3), (4, .inl v4), (5, .inl v5)], [.inl 4, .inl v1, .inr (.inr 408), .inl v5], M)
    refine mm_s1 rfl ?_
    obtain ⟨b95, h⟩ := h
    refine mm_s1 rfl ⟨nn_bd (na_13_0 NN (nn_c407 NN)) b95, ?_⟩
    show mm_Go (mm_run 2) mc_M_alike _ (96, [(0, .inr (.inr 407)), (1, .inl v1), (2, .inl v2), (3, .inl v3), (4, .inl v4), (5, .inl v5)], [.inl (nn_ri M 408 (mm_w (v1 + 4))), .inl v5], M)
    refine mm_s1 rfl ⟨fun c96 => ?_, fun c96 => ?_⟩
    · show mm_Go (mm_run 2) mc_M_alike _ (102, [(0, .inr (.inr 407)), (1, .inl v1), (2, .inl v2), (3, .inl v3), (4, .inl v4), (5, .inl v5)], [], M)
      replace h := h.1 c96
      refine mm_s1 rfl ?_
      show mm_Go (mm_run 2) mc_M_alike _ (105, [(0, .inr (.inr 407)), (1, .inl v1), (2, .inl v2), (3, .inl v3), (4, .inl (mm_w (v4 + 1))), (5, .inl v5)], [], M)
      refine mm_s1 rfl ?_
      show mm_Go (mm_run 2) mc_M_alike _ (27, [(0, .inr (.inr 407)), (1, .inl v1), (2, .inl v2), (3, .inl v3), (4, .inl (mm_w (v4 + 1))), (5, .inl v5)], [], M)
      exact nn_go_ext (nn_xc rfl (nn_xc rfl (nn_xc rfl (nn_xc rfl (nn_xc rfl nn_xn))))) (h n L N)
    · show mm_Go (mm_run 2) mc_M_alike _ (99, [(0, .inr (.inr 407)), (1, .inl v1), (2, .inl v2), (3, .inl v3), (4, .inl v4), (5, .inl v5)], [], M)
      replace c96 := Decidable.not_not.mp c96
      replace h := h.2 c96
      refine mm_s1 rfl ?_
      exact mm_s1 rfl ⟨_, rfl, L, N, h⟩
  · show mm_Go (mm_run 2) mc_M_alike _ (58, [(0, .inr (.inr 407)), (1, .inl v1), (2, .inl v2), (3, .inl v3), (4, .inl v4), (5, .inl v5)], [], M)
    replace c55 := Int.not_le.mp c55
    replace h := h.2 c55
    refine mm_s1 rfl ?_
    refine mm_s1 rfl ?_
    refine mm_s1 rfl ?_
    refine mm_s1 rfl ?_
    refine mm_s1 rfl ?_
    show mm_Go (mm_run 2) mc_M_alike _ (65, [(0, .inr (.inr 407)), (1, .inl v1), (2, .inl v2), (3, .inl v3), (4, .inl v4), (5, .inl v5)], [.inl v5, .inl v4, .inl v2, .inl v1, .inr (.inr 407)], M)
    refine mm_s1 rfl ?_
    obtain ⟨b66, h⟩ := h
    refine mm_s1 rfl ⟨(nn_c407 NN).1, ?_⟩
    refine np_M_levelOf (by decide) L N b66 ?_
    show mm_Go (mm_run 2) mc_M_alike _ (69, [(0, .inr (.inr 407)), (1, .inl v1), (2, .inl v2), (3, .inl v3), (4, .inl v4), (5, .inl v5)], [.inl (nf_M_levelOf v1 v2 (mm_w (v4 + v5)) M)], M)
    refine mm_s1 rfl ?_
    refine mm_s1 rfl ?_
    refine mm_s1 rfl ?_
    refine mm_s1 rfl ?_
    obtain ⟨b74, h⟩ := h
    refine mm_s1 rfl ⟨(nn_c407 NN).1, ?_⟩
    refine np_M_levelOf (by decide) L N b74 ?_
    show mm_Go (mm_run 2) mc_M_alike _ (77, [(0, .inr (.inr 407)), (1, .inl v1), (2, .inl v2), (3, .inl v3), (4, .inl v4), (5, .inl v5)], [.inl (nf_M_levelOf v1 v2 v4 M), .inl (nf_M_levelOf v1 v2 (mm_w (v4 + v5)) M)], M)
    refine mm_s1 rfl ⟨fun c77 => ?_, fun c77 => ?_⟩
    · show mm_Go (mm_run 2) mc_M_alike _ (86, [(0, .inr (.inr 407)), (1, .inl v1), (2, .inl v2), (3, .inl v3), (4, .inl v4), (5, .inl v5)], [], M)
      replace h := h.1 c77
      refine mm_s1 rfl ?_
      refine mm_s1 rfl ?_
      refine nn_getr rfl (nn_c407 NN).1 (lf_13_0 L N (nn_c407 NN)) ?_
      refine mm_s1 rfl ?_
      refine mm_s1 rfl ?_
      show mm_Go (mm_run 2) mc_M_alike _ (94, [(0, .inr (.inr 407)), (1, .inl v1), (2, .inl v2), (3, .inl v3), (4, .inl v4), (5, .inl v5)], [.inl 4, .inl v1, .inr (.inr 408), .inl v5], M)
      refine mm_s1 rfl ?_
      obtain ⟨b95, h⟩ := h
      refine mm_s1 rfl ⟨nn_bd (na_13_0 NN (nn_c407 NN)) b95, ?_⟩
      show mm_Go (mm_run 2) mc_M_alike _ (96, [(0, .inr (.inr 407)), (1, .inl v1), (2, .inl v2), (3, .inl v3), (4, .inl v4), (5, .inl v5)], [.inl (nn_ri M 408 (mm_w (v1 + 4))), .inl v5], M)
      refine mm_s1 rfl ⟨fun c96 => ?_, fun c96 => ?_⟩
      · show mm_Go (mm_run 2) mc_M_alike _ (102, [(0, .inr (.inr 407)), (1, .inl v1), (2, .inl v2), (3, .inl v3), (4, .inl v4), (5, .inl v5)], [], M)
        replace h := h.1 c96
        refine mm_s1 rfl ?_
        show mm_Go (mm_run 2) mc_M_alike _ (105, [(0, .inr (.inr 407)), (1, .inl v1), (2, .inl v2), (3, .inl v3), (4, .inl (mm_w (v4 + 1))), (5, .inl v5)], [], M)
        refine mm_s1 rfl ?_
        show mm_Go (mm_run 2) mc_M_alike _ (27, [(0, .inr (.inr 407)), (1, .inl v1), (2, .inl v2), (3, .inl v3), (4, .inl (mm_w (v4 + 1))), (5, .inl v5)], [], M)
        exact nn_go_ext (nn_xc rfl (nn_xc rfl (nn_xc rfl (nn_xc rfl (nn_xc rfl nn_xn))))) (h n L N)
      · show mm_Go (mm_run 2) mc_M_alike _ (99, [(0, .inr (.inr 407)), (1, .inl v1), (2, .inl v2), (3, .inl v3), (4, .inl v4), (5, .inl v5)], [], M)
        replace c96 := Decidable.not_not.mp c96
        replace h := h.2 c96
        refine mm_s1 rfl ?_
        exact mm_s1 rfl ⟨_, rfl, L, N, h⟩
    · show mm_Go (mm_run 2) mc_M_alike _ (80, [(0, .inr (.inr 407)), (1, .inl v1), (2, .inl v2), (3, .inl v3), (4, .inl v4), (5, .inl v5)], [], M)
      replace c77 := Decidable.not_not.mp c77
      replace h := h.2 c77
      refine mm_s1 rfl ?_
      show mm_Go (mm_run 2) mc_M_alike _ (83, [(0, .inr (.inr 407)), (1, .inl v1), (2, .inl v2), (3, .inl v3), (4, .inl v4), (5, .inl (mm_w (v5 + 1)))], [], M)
      refine mm_s1 rfl ?_
      show mm_Go (mm_run 2) mc_M_alike _ (45, [(0, .inr (.inr 407)), (1, .inl v1), (2, .inl v2), (3, .inl v3), (4, .inl v4), (5, .inl (mm_w (v5 + 1)))], [], M)
      exact nn_go_ext (nn_xc rfl (nn_xc rfl (nn_xc rfl (nn_xc rfl (nn_xc rfl (nn_xc rfl nn_xn)))))) (h n L N)
def nr_M_sure (v1 : Int) (M : mm_M) (R : Int → mm_M → Prop) : Prop := ∀ n, nn_L M → M.1 = n → mm_run 3 mi_M_sure [.inr (.inr 407), .inl v1] M (nw_I n R)
def nk_M_sure_4 (v1 : Int) (v2 : Int) (v3 : Int) (M : mm_M) (R : Int → mm_M → Prop) : Prop := ∀ n, nn_L M → M.1 = n → mm_Go (mm_run 2) mc_M_sure (nw_I n R) (4, [(0, .inr (.inr 407)), (1, .inl v1), (2, .inl v2), (3, .inl v3)], [], M)
set_option maxRecDepth 20000 in
theorem ng_M_sure (v1 : Int) (M : mm_M) (R : Int → mm_M → Prop) (h : nk_M_sure_4 v1 (-1) 0 M R) : nr_M_sure v1 M R := by
  intro n L N 
  have NN := nn_L_n L N
  show mm_Go (mm_run 2) mc_M_sure _ (0, [(0, .inr (.inr 407)), (1, .inl v1)], [], M)
  refine mm_s1 rfl ?_
  refine mm_s1 rfl ?_
  show mm_Go (mm_run 2) mc_M_sure _ (2, [(0, .inr (.inr 407)), (1, .inl v1), (2, .inl (-1))], [], M)
  refine mm_s1 rfl ?_
  refine mm_s1 rfl ?_
  show mm_Go (mm_run 2) mc_M_sure _ (4, [(0, .inr (.inr 407)), (1, .inl v1), (2, .inl (-1)), (3, .inl 0)], [], M)
  exact nn_go_ext (nn_xc rfl (nn_xc rfl (nn_xc rfl (nn_xc rfl nn_xn)))) (h n L N)
set_option maxRecDepth 20000 in
theorem ng_M_sure_4 (v1 : Int) (v2 : Int) (v3 : Int) (M : mm_M) (R : Int → mm_M → Prop) (h : ((4 ≤ v3 → R v2 M) ∧ (v3 < 4 → (((0 : Int) ≤ (mm_w ((nf_M_at v1 v3) + 0)) ∧ (mm_w ((nf_M_at v1 v3) + 0)) < (32844 : Int)) ∧ (((nn_ri M 408 (mm_w ((nf_M_at v1 v3) + 0))) ≠ 0 → (nr_M_oldest v1 v3 M (fun r31 M31 => (((r31 = (-1) ∨ (v2 ≠ (-1) ∧ (v2 ≤ r31))) → nk_M_sure_4 v1 v2 (mm_w (v3 + 1)) M31 R) ∧ ((r31 ≠ (-1) ∧ (v2 = (-1) ∨ (r31 < v2))) → nk_M_sure_4 v1 r31 (mm_w (v3 + 1)) M31 R))))) ∧ ((nn_ri M 408 (mm_w ((nf_M_at v1 v3) + 0))) = 0 → nk_M_sure_4 v1 v2 (mm_w (v3 + 1)) M R)))))) : nk_M_sure_4 v1 v2 v3 M R := by
  intro n L N 
  have NN := nn_L_n L N
  show mm_Go (mm_run 2) mc_M_sure _ (4, [(0, .inr (.inr 407)), (1, .inl v1), (2, .inl v2), (3, .inl v3)], [], M)
  refine mm_s1 rfl ?_
  refine mm_s1 rfl ?_
  refine mm_s1 rfl ⟨fun c6 => ?_, fun c6 => ?_⟩
  · show mm_Go (mm_run 2) mc_M_sure _ (66, [(0, .inr (.inr 407)), (1, .inl v1), (2, .inl v2), (3, .inl v3)], [], M)
    replace h := h.1 c6
    refine mm_s1 rfl ?_
    exact mm_s1 rfl ⟨_, rfl, L, N, h⟩
  · show mm_Go (mm_run 2) mc_M_sure _ (9, [(0, .inr (.inr 407)), (1, .inl v1), (2, .inl v2), (3, .inl v3)], [], M)
    replace c6 := Int.not_le.mp c6
    replace h := h.2 c6
    refine mm_s1 rfl ?_
    refine nn_getr rfl (nn_c407 NN).1 (lf_13_0 L N (nn_c407 NN)) ?_
    refine mm_s1 rfl ?_
    refine mm_s1 rfl ?_
    refine mm_s1 rfl ⟨trivial, ?_⟩
    refine np_M_at (by decide) L N ?_
    show mm_Go (mm_run 2) mc_M_sure _ (18, [(0, .inr (.inr 407)), (1, .inl v1), (2, .inl v2), (3, .inl v3)], [.inl (nf_M_at v1 v3), .inr (.inr 408)], M)
    refine mm_s1 rfl ?_
    refine mm_s1 rfl ?_
    obtain ⟨b20, h⟩ := h
    refine mm_s1 rfl ⟨nn_bd (na_13_0 NN (nn_c407 NN)) b20, ?_⟩
    show mm_Go (mm_run 2) mc_M_sure _ (21, [(0, .inr (.inr 407)), (1, .inl v1), (2, .inl v2), (3, .inl v3)], [.inl (nn_ri M 408 (mm_w ((nf_M_at v1 v3) + 0)))], M)
    refine mm_s1 rfl ⟨fun c21 => ?_, fun c21 => ?_⟩
    · show mm_Go (mm_run 2) mc_M_sure _ (28, [(0, .inr (.inr 407)), (1, .inl v1), (2, .inl v2), (3, .inl v3)], [], M)
      replace h := h.1 c21
      refine mm_s1 rfl ?_
      refine mm_s1 rfl ?_
      refine mm_s1 rfl ?_
      refine mm_s1 rfl ⟨(nn_c407 NN).1, ?_⟩
      refine nn_call (D := 2) (by decide) (h n L N) ?_
      intro v M31 q; clear L N h
      obtain ⟨r31, rfl, L, N, h⟩ := q
      show mm_Go (mm_run 2) mc_M_sure _ (34, [(0, .inr (.inr 407)), (1, .inl v1), (2, .inl v2), (3, .inl v3)], [.inl r31], M31)
      refine mm_s1 rfl ?_
      show mm_Go (mm_run 2) mc_M_sure _ (36, [(0, .inr (.inr 407)), (1, .inl v1), (2, .inl v2), (3, .inl v3), (4, .inl r31)], [], M31)
      refine mm_s1 rfl ?_
      refine mm_s1 rfl ?_
      refine mm_s1 rfl ⟨fun c39 => ?_, fun c39 => ?_⟩
      · show mm_Go (mm_run 2) mc_M_sure _ (58, [(0, .inr (.inr 407)), (1, .inl v1), (2, .inl v2), (3, .inl v3), (4, .inl r31)], [], M31)
        refine mm_s1 rfl ?_
        refine mm_s1 rfl ?_
        show mm_Go (mm_run 2) mc_M_sure _ (60, [(0, .inr (.inr 407)), (1, .inl v1), (2, .inl v2), (3, .inl v3), (4, .inl r31)], [], M31)
        refine mm_s1 rfl ?_
        show mm_Go (mm_run 2) mc_M_sure _ (63, [(0, .inr (.inr 407)), (1, .inl v1), (2, .inl v2), (3, .inl (mm_w (v3 + 1))), (4, .inl r31)], [], M31)
        refine mm_s1 rfl ?_
        show mm_Go (mm_run 2) mc_M_sure _ (4, [(0, .inr (.inr 407)), (1, .inl v1), (2, .inl v2), (3, .inl (mm_w (v3 + 1))), (4, .inl r31)], [], M31)
        replace h := h.1 (Or.inl c39)
        exact nn_go_ext (nn_xc rfl (nn_xc rfl (nn_xc rfl (nn_xc rfl nn_xn)))) (h n L N)
      · show mm_Go (mm_run 2) mc_M_sure _ (42, [(0, .inr (.inr 407)), (1, .inl v1), (2, .inl v2), (3, .inl v3), (4, .inl r31)], [], M31)
        refine mm_s1 rfl ?_
        refine mm_s1 rfl ?_
        refine mm_s1 rfl ⟨fun c44 => ?_, fun c44 => ?_⟩
        · show mm_Go (mm_run 2) mc_M_sure _ (53, [(0, .inr (.inr 407)), (1, .inl v1), (2, .inl v2), (3, .inl v3), (4, .inl r31)], [], M31)
          refine mm_s1 rfl ?_
          refine mm_s1 rfl ?_
          show mm_Go (mm_run 2) mc_M_sure _ (59, [(0, .inr (.inr 407)), (1, .inl v1), (2, .inl v2), (3, .inl v3), (4, .inl r31)], [.inl r31], M31)
          refine mm_s1 rfl ?_
          show mm_Go (mm_run 2) mc_M_sure _ (60, [(0, .inr (.inr 407)), (1, .inl v1), (2, .inl r31), (3, .inl v3), (4, .inl r31)], [], M31)
          refine mm_s1 rfl ?_
          show mm_Go (mm_run 2) mc_M_sure _ (63, [(0, .inr (.inr 407)), (1, .inl v1), (2, .inl r31), (3, .inl (mm_w (v3 + 1))), (4, .inl r31)], [], M31)
          refine mm_s1 rfl ?_
          show mm_Go (mm_run 2) mc_M_sure _ (4, [(0, .inr (.inr 407)), (1, .inl v1), (2, .inl r31), (3, .inl (mm_w (v3 + 1))), (4, .inl r31)], [], M31)
          replace h := h.2 ⟨c39, (Or.inl c44)⟩
          exact nn_go_ext (nn_xc rfl (nn_xc rfl (nn_xc rfl (nn_xc rfl nn_xn)))) (h n L N)
        · show mm_Go (mm_run 2) mc_M_sure _ (47, [(0, .inr (.inr 407)), (1, .inl v1), (2, .inl v2), (3, .inl v3), (4, .inl r31)], [], M31)
          refine mm_s1 rfl ?_
          refine mm_s1 rfl ?_
          refine mm_s1 rfl ⟨fun c50 => ?_, fun c50 => ?_⟩
          · show mm_Go (mm_run 2) mc_M_sure _ (58, [(0, .inr (.inr 407)), (1, .inl v1), (2, .inl v2), (3, .inl v3), (4, .inl r31)], [], M31)
            refine mm_s1 rfl ?_
            refine mm_s1 rfl ?_
            show mm_Go (mm_run 2) mc_M_sure _ (60, [(0, .inr (.inr 407)), (1, .inl v1), (2, .inl v2), (3, .inl v3), (4, .inl r31)], [], M31)
            refine mm_s1 rfl ?_
            show mm_Go (mm_run 2) mc_M_sure _ (63, [(0, .inr (.inr 407)), (1, .inl v1), (2, .inl v2), (3, .inl (mm_w (v3 + 1))), (4, .inl r31)], [], M31)
            refine mm_s1 rfl ?_
            show mm_Go (mm_run 2) mc_M_sure _ (4, [(0, .inr (.inr 407)), (1, .inl v1), (2, .inl v2), (3, .inl (mm_w (v3 + 1))), (4, .inl r31)], [], M31)
            replace h := h.1 (Or.inr ⟨c44, c50⟩)
            exact nn_go_ext (nn_xc rfl (nn_xc rfl (nn_xc rfl (nn_xc rfl nn_xn)))) (h n L N)
          · show mm_Go (mm_run 2) mc_M_sure _ (53, [(0, .inr (.inr 407)), (1, .inl v1), (2, .inl v2), (3, .inl v3), (4, .inl r31)], [], M31)
            replace c50 := Int.not_le.mp c50
            refine mm_s1 rfl ?_
            refine mm_s1 rfl ?_
            show mm_Go (mm_run 2) mc_M_sure _ (59, [(0, .inr (.inr 407)), (1, .inl v1), (2, .inl v2), (3, .inl v3), (4, .inl r31)], [.inl r31], M31)
            refine mm_s1 rfl ?_
            show mm_Go (mm_run 2) mc_M_sure _ (60, [(0, .inr (.inr 407)), (1, .inl v1), (2, .inl r31), (3, .inl v3), (4, .inl r31)], [], M31)
            refine mm_s1 rfl ?_
            show mm_Go (mm_run 2) mc_M_sure _ (63, [(0, .inr (.inr 407)), (1, .inl v1), (2, .inl r31), (3, .inl (mm_w (v3 + 1))), (4, .inl r31)], [], M31)
            refine mm_s1 rfl ?_
            show mm_Go (mm_run 2) mc_M_sure _ (4, [(0, .inr (.inr 407)), (1, .inl v1), (2, .inl r31), (3, .inl (mm_w (v3 + 1))), (4, .inl r31)], [], M31)
            replace h := h.2 ⟨c39, (Or.inr c50)⟩
            exact nn_go_ext (nn_xc rfl (nn_xc rfl (nn_xc rfl (nn_xc rfl nn_xn)))) (h n L N)
    · show mm_Go (mm_run 2) mc_M_sure _ (24, [(0, .inr (.inr 407)), (1, .inl v1), (2, .inl v2), (3, .inl v3)], [], M)
      replace c21 := Decidable.not_not.mp c21
      replace h := h.2 c21
      refine mm_s1 rfl ?_
      refine mm_s1 rfl ?_
      show mm_Go (mm_run 2) mc_M_sure _ (34, [(0, .inr (.inr 407)), (1, .inl v1), (2, .inl v2), (3, .inl v3)], [.inl (-1)], M)
      refine mm_s1 rfl ?_
      show mm_Go (mm_run 2) mc_M_sure _ (36, [(0, .inr (.inr 407)), (1, .inl v1), (2, .inl v2), (3, .inl v3), (4, .inl (-1))], [], M)
      refine mm_s1 rfl ?_
      refine mm_s1 rfl ?_
      refine mm_s1 rfl ⟨fun _ => ?_, fun c => absurd (show (-1 : Int) = -1 by decide) c⟩
      show mm_Go (mm_run 2) mc_M_sure _ (58, [(0, .inr (.inr 407)), (1, .inl v1), (2, .inl v2), (3, .inl v3), (4, .inl (-1))], [], M)
      refine mm_s1 rfl ?_
      refine mm_s1 rfl ?_
      show mm_Go (mm_run 2) mc_M_sure _ (60, [(0, .inr (.inr 407)), (1, .inl v1), (2, .inl v2), (3, .inl v3), (4, .inl (-1))], [], M)
      refine mm_s1 rfl ?_
      show mm_Go (mm_run 2) mc_M_sure _ (63, [(0, .inr (.inr 407)), (1, .inl v1), (2, .inl v2), (3, .inl (mm_w (v3 + 1))), (4, .inl (-1))], [], M)
      refine mm_s1 rfl ?_
      show mm_Go (mm_run 2) mc_M_sure _ (4, [(0, .inr (.inr 407)), (1, .inl v1), (2, .inl v2), (3, .inl (mm_w (v3 + 1))), (4, .inl (-1))], [], M)
      exact nn_go_ext (nn_xc rfl (nn_xc rfl (nn_xc rfl (nn_xc rfl nn_xn)))) (h n L N)
def nr_M_topLevel (v1 : Int) (v2 : Int) (v3 : Int) (v4 : Int) (M : mm_M) (R : Int → mm_M → Prop) : Prop := ∀ n, nn_L M → M.1 = n → mm_run 3 mi_M_topLevel [.inr (.inr 407), .inl v1, .inl v2, .inl v3, .inl v4] M (nw_I n R)
def nk_M_topLevel_6 (v1 : Int) (v2 : Int) (v3 : Int) (v4 : Int) (v5 : Int) (v6 : Int) (M : mm_M) (R : Int → mm_M → Prop) : Prop := ∀ n, nn_L M → M.1 = n → mm_Go (mm_run 2) mc_M_topLevel (nw_I n R) (6, [(0, .inr (.inr 407)), (1, .inl v1), (2, .inl v2), (3, .inl v3), (4, .inl v4), (5, .inl v5), (6, .inl v6)], [], M)
set_option maxRecDepth 20000 in
theorem ng_M_topLevel (v1 : Int) (v2 : Int) (v3 : Int) (v4 : Int) (M : mm_M) (R : Int → mm_M → Prop) (h : nk_M_topLevel_6 v1 v2 v3 v4 (-1) v3 M R) : nr_M_topLevel v1 v2 v3 v4 M R := by
  intro n L N 
  have NN := nn_L_n L N
  show mm_Go (mm_run 2) mc_M_topLevel _ (0, [(0, .inr (.inr 407)), (1, .inl v1), (2, .inl v2), (3, .inl v3), (4, .inl v4)], [], M)
  refine mm_s1 rfl ?_
  refine mm_s1 rfl ?_
  show mm_Go (mm_run 2) mc_M_topLevel _ (3, [(0, .inr (.inr 407)), (1, .inl v1), (2, .inl v2), (3, .inl v3), (4, .inl v4), (5, .inl (-1))], [], M)
  refine mm_s1 rfl ?_
  refine mm_s1 rfl ?_
  show mm_Go (mm_run 2) mc_M_topLevel _ (6, [(0, .inr (.inr 407)), (1, .inl v1), (2, .inl v2), (3, .inl v3), (4, .inl v4), (5, .inl (-1)), (6, .inl v3)], [], M)
  exact nn_go_ext (nn_xc rfl (nn_xc rfl (nn_xc rfl (nn_xc rfl (nn_xc rfl (nn_xc rfl (nn_xc rfl nn_xn))))))) (h n L N)
set_option maxRecDepth 20000 in
theorem ng_M_topLevel_6 (v1 : Int) (v2 : Int) (v3 : Int) (v4 : Int) (v5 : Int) (v6 : Int) (M : mm_M) (R : Int → mm_M → Prop) (h : (((mm_w (v3 + v4)) ≤ v6 → R v5 M) ∧ (v6 < (mm_w (v3 + v4)) → ((nc_M_levelOf v1 v2 v6 M) ∧ (((nf_M_levelOf v1 v2 v6 M) ≤ v5 → nk_M_topLevel_6 v1 v2 v3 v4 v5 (mm_w (v6 + 1)) M R) ∧ (v5 < (nf_M_levelOf v1 v2 v6 M) → ((nc_M_levelOf v1 v2 v6 M) ∧ nk_M_topLevel_6 v1 v2 v3 v4 (nf_M_levelOf v1 v2 v6 M) (mm_w (v6 + 1)) M R))))))) : nk_M_topLevel_6 v1 v2 v3 v4 v5 v6 M R := by
  intro n L N 
  have NN := nn_L_n L N
  show mm_Go (mm_run 2) mc_M_topLevel _ (6, [(0, .inr (.inr 407)), (1, .inl v1), (2, .inl v2), (3, .inl v3), (4, .inl v4), (5, .inl v5), (6, .inl v6)], [], M)
  refine mm_s1 rfl ?_
  refine mm_s1 rfl ?_
  refine mm_s1 rfl ?_
  refine mm_s1 rfl ?_
  refine mm_s1 rfl ⟨fun c12 => ?_, fun c12 => ?_⟩
  · show mm_Go (mm_run 2) mc_M_topLevel _ (49, [(0, .inr (.inr 407)), (1, .inl v1), (2, .inl v2), (3, .inl v3), (4, .inl v4), (5, .inl v5), (6, .inl v6)], [], M)
    replace h := h.1 c12
    refine mm_s1 rfl ?_
    exact mm_s1 rfl ⟨_, rfl, L, N, h⟩
  · show mm_Go (mm_run 2) mc_M_topLevel _ (15, [(0, .inr (.inr 407)), (1, .inl v1), (2, .inl v2), (3, .inl v3), (4, .inl v4), (5, .inl v5), (6, .inl v6)], [], M)
    replace c12 := Int.not_le.mp c12
    replace h := h.2 c12
    refine mm_s1 rfl ?_
    refine mm_s1 rfl ?_
    refine mm_s1 rfl ?_
    refine mm_s1 rfl ?_
    obtain ⟨b20, h⟩ := h
    refine mm_s1 rfl ⟨(nn_c407 NN).1, ?_⟩
    refine np_M_levelOf (by decide) L N b20 ?_
    show mm_Go (mm_run 2) mc_M_topLevel _ (23, [(0, .inr (.inr 407)), (1, .inl v1), (2, .inl v2), (3, .inl v3), (4, .inl v4), (5, .inl v5), (6, .inl v6)], [.inl (nf_M_levelOf v1 v2 v6 M)], M)
    refine mm_s1 rfl ?_
    refine mm_s1 rfl ⟨fun c25 => ?_, fun c25 => ?_⟩
    · show mm_Go (mm_run 2) mc_M_topLevel _ (39, [(0, .inr (.inr 407)), (1, .inl v1), (2, .inl v2), (3, .inl v3), (4, .inl v4), (5, .inl v5), (6, .inl v6)], [], M)
      replace h := h.1 c25
      refine mm_s1 rfl ?_
      refine mm_s1 rfl ?_
      show mm_Go (mm_run 2) mc_M_topLevel _ (43, [(0, .inr (.inr 407)), (1, .inl v1), (2, .inl v2), (3, .inl v3), (4, .inl v4), (5, .inl v5), (6, .inl v6)], [], M)
      refine mm_s1 rfl ?_
      show mm_Go (mm_run 2) mc_M_topLevel _ (46, [(0, .inr (.inr 407)), (1, .inl v1), (2, .inl v2), (3, .inl v3), (4, .inl v4), (5, .inl v5), (6, .inl (mm_w (v6 + 1)))], [], M)
      refine mm_s1 rfl ?_
      show mm_Go (mm_run 2) mc_M_topLevel _ (6, [(0, .inr (.inr 407)), (1, .inl v1), (2, .inl v2), (3, .inl v3), (4, .inl v4), (5, .inl v5), (6, .inl (mm_w (v6 + 1)))], [], M)
      exact nn_go_ext (nn_xc rfl (nn_xc rfl (nn_xc rfl (nn_xc rfl (nn_xc rfl (nn_xc rfl (nn_xc rfl nn_xn))))))) (h n L N)
    · show mm_Go (mm_run 2) mc_M_topLevel _ (28, [(0, .inr (.inr 407)), (1, .inl v1), (2, .inl v2), (3, .inl v3), (4, .inl v4), (5, .inl v5), (6, .inl v6)], [], M)
      replace c25 := Int.not_le.mp c25
      replace h := h.2 c25
      refine mm_s1 rfl ?_
      refine mm_s1 rfl ?_
      refine mm_s1 rfl ?_
      refine mm_s1 rfl ?_
      obtain ⟨b33, h⟩ := h
      refine mm_s1 rfl ⟨(nn_c407 NN).1, ?_⟩
      refine np_M_levelOf (by decide) L N b33 ?_
      show mm_Go (mm_run 2) mc_M_topLevel _ (36, [(0, .inr (.inr 407)), (1, .inl v1), (2, .inl v2), (3, .inl v3), (4, .inl v4), (5, .inl v5), (6, .inl v6)], [.inl (nf_M_levelOf v1 v2 v6 M)], M)
      refine mm_s1 rfl ?_
      show mm_Go (mm_run 2) mc_M_topLevel _ (41, [(0, .inr (.inr 407)), (1, .inl v1), (2, .inl v2), (3, .inl v3), (4, .inl v4), (5, .inl v5), (6, .inl v6)], [.inl (nf_M_levelOf v1 v2 v6 M)], M)
      refine mm_s1 rfl ?_
      show mm_Go (mm_run 2) mc_M_topLevel _ (43, [(0, .inr (.inr 407)), (1, .inl v1), (2, .inl v2), (3, .inl v3), (4, .inl v4), (5, .inl (nf_M_levelOf v1 v2 v6 M)), (6, .inl v6)], [], M)
      refine mm_s1 rfl ?_
      show mm_Go (mm_run 2) mc_M_topLevel _ (46, [(0, .inr (.inr 407)), (1, .inl v1), (2, .inl v2), (3, .inl v3), (4, .inl v4), (5, .inl (nf_M_levelOf v1 v2 v6 M)), (6, .inl (mm_w (v6 + 1)))], [], M)
      refine mm_s1 rfl ?_
      show mm_Go (mm_run 2) mc_M_topLevel _ (6, [(0, .inr (.inr 407)), (1, .inl v1), (2, .inl v2), (3, .inl v3), (4, .inl v4), (5, .inl (nf_M_levelOf v1 v2 v6 M)), (6, .inl (mm_w (v6 + 1)))], [], M)
      exact nn_go_ext (nn_xc rfl (nn_xc rfl (nn_xc rfl (nn_xc rfl (nn_xc rfl (nn_xc rfl (nn_xc rfl nn_xn))))))) (h n L N)
