/-! methods walked by program (wip/whole/dec.py) -/
def nr_Store_bits (v0 : Nat) (M : mm_M) (R : Int → mm_M → Prop) : Prop := ∀ n, nn_L M → M.1 = n → nn_C 9 v0 n → mm_run 1 mi_Store_bits [.inr (.inr v0)] M (nw_I n R)
def nk_Store_bits_4 (v0 : Nat) (v1 : Int) (v2 : Int) (M : mm_M) (R : Int → mm_M → Prop) : Prop := ∀ n, nn_L M → M.1 = n → nn_C 9 v0 n → mm_Go (mm_run 0) mc_Store_bits (nw_I n R) (4, [(0, .inr (.inr v0)), (1, .inl v1), (2, .inl v2)], [], M)
set_option maxRecDepth 20000 in
theorem ng_Store_bits (v0 : Nat) (M : mm_M) (R : Int → mm_M → Prop) (h : nk_Store_bits_4 v0 0 0 M R) : nr_Store_bits v0 M R := by
  intro n L N C0
  have NN := nn_L_n L N
  show mm_Go (mm_run 0) mc_Store_bits _ (0, [(0, .inr (.inr v0))], [], M)
  refine mm_s1 rfl ?_
  refine mm_s1 rfl ?_
  show mm_Go (mm_run 0) mc_Store_bits _ (2, [(0, .inr (.inr v0)), (1, .inl 0)], [], M)
  refine mm_s1 rfl ?_
  refine mm_s1 rfl ?_
  show mm_Go (mm_run 0) mc_Store_bits _ (4, [(0, .inr (.inr v0)), (1, .inl 0), (2, .inl 0)], [], M)
  exact nn_go_ext (nn_xc rfl (nn_xc rfl (nn_xc rfl nn_xn))) (h n L N C0)
set_option maxRecDepth 20000 in
theorem ng_Store_bits_4 (v0 : Nat) (v1 : Int) (v2 : Int) (M : mm_M) (R : Int → mm_M → Prop) (h : ((4 ≤ v2 → R v1 M) ∧ (v2 < 4 → (((0 : Int) ≤ v2 ∧ v2 < (4 : Int)) ∧ (((nn_rf M (v0 + 90 + 15 * (v2).toNat) 5) ≠ 0 → nk_Store_bits_4 v0 (mm_or v1 (mm_shl 1 v2)) (mm_w (v2 + 1)) M R) ∧ ((nn_rf M (v0 + 90 + 15 * (v2).toNat) 5) = 0 → nk_Store_bits_4 v0 (mm_or v1 0) (mm_w (v2 + 1)) M R)))))) : nk_Store_bits_4 v0 v1 v2 M R := by
  intro n L N C0
  have NN := nn_L_n L N
  show mm_Go (mm_run 0) mc_Store_bits _ (4, [(0, .inr (.inr v0)), (1, .inl v1), (2, .inl v2)], [], M)
  refine mm_s1 rfl ?_
  refine mm_s1 rfl ?_
  refine mm_s1 rfl ⟨fun c6 => ?_, fun c6 => ?_⟩
  · show mm_Go (mm_run 0) mc_Store_bits _ (37, [(0, .inr (.inr v0)), (1, .inl v1), (2, .inl v2)], [], M)
    replace h := h.1 c6
    refine mm_s1 rfl ?_
    exact mm_s1 rfl ⟨_, rfl, L, N, h⟩
  · show mm_Go (mm_run 0) mc_Store_bits _ (9, [(0, .inr (.inr v0)), (1, .inl v1), (2, .inl v2)], [], M)
    replace c6 := Int.not_le.mp c6
    replace h := h.2 c6
    refine mm_s1 rfl ?_
    refine mm_s1 rfl ?_
    refine nn_getr rfl C0.1 (lf_9_2 L N C0) ?_
    refine mm_s1 rfl ?_
    obtain ⟨b15, h⟩ := h
    have C15 : nn_C 5 (v0 + 90 + 15 * (v2).toNat) n := (nn_arr NN (nc_9_2 NN C0).2).1 (nc_9_2 NN C0).1 _ (nn_tn b15 (by decide))
    refine nn_aald rfl (nn_bd30 (na_9_2 NN C0) (by decide) b15) (nn_l35 L N (nc_9_2 NN C0) b15) ?_
    show mm_Go (mm_run 0) mc_Store_bits _ (16, [(0, .inr (.inr v0)), (1, .inl v1), (2, .inl v2)], [.inr (.inr (v0 + 90 + 15 * (v2).toNat)), .inl v1], M)
    refine mm_s1 rfl ⟨C15.1, ?_⟩
    show mm_Go (mm_run 0) mc_Store_bits _ (19, [(0, .inr (.inr v0)), (1, .inl v1), (2, .inl v2)], [.inl (nn_rf M (v0 + 90 + 15 * (v2).toNat) 5), .inl v1], M)
    refine mm_s1 rfl ⟨fun c19 => ?_, fun c19 => ?_⟩
    · show mm_Go (mm_run 0) mc_Store_bits _ (26, [(0, .inr (.inr v0)), (1, .inl v1), (2, .inl v2)], [.inl v1], M)
      replace h := h.1 c19
      refine mm_s1 rfl ?_
      refine mm_s1 rfl ?_
      refine mm_s1 rfl ?_
      refine mm_s1 rfl ?_
      refine mm_s1 rfl ?_
      show mm_Go (mm_run 0) mc_Store_bits _ (31, [(0, .inr (.inr v0)), (1, .inl (mm_or v1 (mm_shl 1 v2))), (2, .inl v2)], [], M)
      refine mm_s1 rfl ?_
      show mm_Go (mm_run 0) mc_Store_bits _ (34, [(0, .inr (.inr v0)), (1, .inl (mm_or v1 (mm_shl 1 v2))), (2, .inl (mm_w (v2 + 1)))], [], M)
      refine mm_s1 rfl ?_
      show mm_Go (mm_run 0) mc_Store_bits _ (4, [(0, .inr (.inr v0)), (1, .inl (mm_or v1 (mm_shl 1 v2))), (2, .inl (mm_w (v2 + 1)))], [], M)
      exact nn_go_ext (nn_xc rfl (nn_xc rfl (nn_xc rfl nn_xn))) (h n L N C0)
    · show mm_Go (mm_run 0) mc_Store_bits _ (22, [(0, .inr (.inr v0)), (1, .inl v1), (2, .inl v2)], [.inl v1], M)
      replace c19 := Decidable.not_not.mp c19
      replace h := h.2 c19
      refine mm_s1 rfl ?_
      refine mm_s1 rfl ?_
      show mm_Go (mm_run 0) mc_Store_bits _ (29, [(0, .inr (.inr v0)), (1, .inl v1), (2, .inl v2)], [.inl 0, .inl v1], M)
      refine mm_s1 rfl ?_
      refine mm_s1 rfl ?_
      show mm_Go (mm_run 0) mc_Store_bits _ (31, [(0, .inr (.inr v0)), (1, .inl (mm_or v1 0)), (2, .inl v2)], [], M)
      refine mm_s1 rfl ?_
      show mm_Go (mm_run 0) mc_Store_bits _ (34, [(0, .inr (.inr v0)), (1, .inl (mm_or v1 0)), (2, .inl (mm_w (v2 + 1)))], [], M)
      refine mm_s1 rfl ?_
      show mm_Go (mm_run 0) mc_Store_bits _ (4, [(0, .inr (.inr v0)), (1, .inl (mm_or v1 0)), (2, .inl (mm_w (v2 + 1)))], [], M)
      exact nn_go_ext (nn_xc rfl (nn_xc rfl (nn_xc rfl nn_xn))) (h n L N C0)
def nr_Table_newId (v0 : Nat) (M : mm_M) (R : Int → mm_M → Prop) : Prop := ∀ n, nn_L M → M.1 = n → nn_C 10 v0 n → mm_run 1 mi_Table_newId [.inr (.inr v0)] M (nw_I n R)
set_option maxRecDepth 20000 in
theorem ng_Table_newId (v0 : Nat) (M : mm_M) (R : Int → mm_M → Prop) (h : (∀ M7 : mm_M, M7 = nn_uf M v0 8 (mm_w ((nn_rf M v0 8) + 1)) → R (nn_rf M7 v0 8) M7)) : nr_Table_newId v0 M R := by
  intro n L N C0
  have NN := nn_L_n L N
  show mm_Go (mm_run 0) mc_Table_newId _ (0, [(0, .inr (.inr v0))], [], M)
  refine mm_s1 rfl ?_
  refine mm_s1 rfl ?_
  refine mm_s1 rfl ⟨C0.1, ?_⟩
  show mm_Go (mm_run 0) mc_Table_newId _ (5, [(0, .inr (.inr v0))], [.inl (nn_rf M v0 8), .inr (.inr v0)], M)
  refine mm_s1 rfl ?_
  refine mm_s1 rfl ?_
  refine mm_s1 rfl ⟨C0.1, ?_⟩
  show mm_Go (mm_run 0) mc_Table_newId _ (10, [(0, .inr (.inr v0))], [], (nn_uf M v0 8 (mm_w ((nn_rf M v0 8) + 1))))
  have L : nn_L (nn_uf M v0 8 (mm_w ((nn_rf M v0 8) + 1))) := nn_L_up L C0.1 rfl
  have N : (nn_uf M v0 8 (mm_w ((nn_rf M v0 8) + 1))).1 = n := N
  generalize e_M7 : (nn_uf M v0 8 (mm_w ((nn_rf M v0 8) + 1))) = M7 at L N ⊢
  replace h := h _ e_M7.symm
  show mm_Go (mm_run 0) mc_Table_newId _ (10, [(0, .inr (.inr v0))], [], M7)
  refine mm_s1 rfl ?_
  refine mm_s1 rfl ⟨C0.1, ?_⟩
  show mm_Go (mm_run 0) mc_Table_newId _ (14, [(0, .inr (.inr v0))], [.inl (nn_rf M7 v0 8)], M7)
  exact mm_s1 rfl ⟨_, rfl, L, N, h⟩
def nr_Table_takeOut (v0 : Nat) (v1 : Int) (v2 : Int) (M : mm_M) (R : mm_M → Prop) : Prop := ∀ n, nn_L M → M.1 = n → nn_C 10 v0 n → mm_run 1 mi_Table_takeOut [.inr (.inr v0), .inl v1, .inl v2] M (nw_V n R)
def nk_Table_takeOut_2 (v0 : Nat) (v2 : Int) (v3 : Int) (M : mm_M) (R : mm_M → Prop) : Prop := ∀ n, nn_L M → M.1 = n → nn_C 10 v0 n → mm_Go (mm_run 0) mc_Table_takeOut (nw_V n R) (2, [(0, .inr (.inr v0)), (2, .inl v2), (3, .inl v3)], [], M)
set_option maxRecDepth 20000 in
theorem ng_Table_takeOut (v0 : Nat) (v1 : Int) (v2 : Int) (M : mm_M) (R : mm_M → Prop) (h : nk_Table_takeOut_2 v0 v2 v1 M R) : nr_Table_takeOut v0 v1 v2 M R := by
  intro n L N C0
  have NN := nn_L_n L N
  show mm_Go (mm_run 0) mc_Table_takeOut _ (0, [(0, .inr (.inr v0)), (1, .inl v1), (2, .inl v2)], [], M)
  refine mm_s1 rfl ?_
  refine mm_s1 rfl ?_
  show mm_Go (mm_run 0) mc_Table_takeOut _ (2, [(0, .inr (.inr v0)), (1, .inl v1), (2, .inl v2), (3, .inl v1)], [], M)
  exact nn_go_ext (nn_xc rfl (nn_xc rfl (nn_xc rfl nn_xn))) (h n L N C0)
set_option maxRecDepth 20000 in
theorem ng_Table_takeOut_2 (v0 : Nat) (v2 : Int) (v3 : Int) (M : mm_M) (R : mm_M → Prop) (h : (((mm_w ((nn_rf M v0 5) - v2)) ≤ v3 → (∀ M85 : mm_M, M85 = nn_uf M v0 5 (mm_w ((nn_rf M v0 5) - v2)) → R M85)) ∧ (v3 < (mm_w ((nn_rf M v0 5) - v2)) → (((0 : Int) ≤ v3 ∧ v3 < (24 : Int)) ∧ (((0 : Int) ≤ (mm_w (v3 + v2)) ∧ (mm_w (v3 + v2)) < (24 : Int)) ∧ (((0 : Int) ≤ v3 ∧ v3 < (24 : Int)) ∧ (∀ M33 : mm_M, M33 = nn_ui M (v0 + 7) v3 (((nn_rr M (v0 + 7) (mm_w (v3 + v2))) : Nat) : Int) → (((0 : Int) ≤ (mm_w (v3 + v2)) ∧ (mm_w (v3 + v2)) < (24 : Int)) ∧ (∀ M43 : mm_M, M43 = nn_ui M33 (v0 + 7) (mm_w (v3 + v2)) (((nn_rr M (v0 + 7) v3) : Nat) : Int) → (((0 : Int) ≤ (mm_w (v3 + v2)) ∧ (mm_w (v3 + v2)) < (24 : Int)) ∧ (((0 : Int) ≤ v3 ∧ v3 < (24 : Int)) ∧ (∀ M57 : mm_M, M57 = nn_ui M43 (v0 + 8) v3 (nn_ri M43 (v0 + 8) (mm_w (v3 + v2))) → (((0 : Int) ≤ (mm_w (v3 + v2)) ∧ (mm_w (v3 + v2)) < (24 : Int)) ∧ (((0 : Int) ≤ v3 ∧ v3 < (24 : Int)) ∧ (∀ M71 : mm_M, M71 = nn_ui M57 (v0 + 9) v3 (nn_ri M57 (v0 + 9) (mm_w (v3 + v2))) → nk_Table_takeOut_2 v0 v2 (mm_w (v3 + 1)) M71 R))))))))))))))) : nk_Table_takeOut_2 v0 v2 v3 M R := by
  intro n L N C0
  have NN := nn_L_n L N
  show mm_Go (mm_run 0) mc_Table_takeOut _ (2, [(0, .inr (.inr v0)), (2, .inl v2), (3, .inl v3)], [], M)
  refine mm_s1 rfl ?_
  refine mm_s1 rfl ?_
  refine mm_s1 rfl ⟨C0.1, ?_⟩
  show mm_Go (mm_run 0) mc_Table_takeOut _ (7, [(0, .inr (.inr v0)), (2, .inl v2), (3, .inl v3)], [.inl (nn_rf M v0 5), .inl v3], M)
  refine mm_s1 rfl ?_
  refine mm_s1 rfl ?_
  refine mm_s1 rfl ⟨fun c9 => ?_, fun c9 => ?_⟩
  · show mm_Go (mm_run 0) mc_Table_takeOut _ (78, [(0, .inr (.inr v0)), (2, .inl v2), (3, .inl v3)], [], M)
    replace h := h.1 c9
    refine mm_s1 rfl ?_
    refine mm_s1 rfl ?_
    refine mm_s1 rfl ⟨C0.1, ?_⟩
    show mm_Go (mm_run 0) mc_Table_takeOut _ (83, [(0, .inr (.inr v0)), (2, .inl v2), (3, .inl v3)], [.inl (nn_rf M v0 5), .inr (.inr v0)], M)
    refine mm_s1 rfl ?_
    refine mm_s1 rfl ?_
    refine mm_s1 rfl ⟨C0.1, ?_⟩
    show mm_Go (mm_run 0) mc_Table_takeOut _ (88, [(0, .inr (.inr v0)), (2, .inl v2), (3, .inl v3)], [], (nn_uf M v0 5 (mm_w ((nn_rf M v0 5) - v2))))
    have L : nn_L (nn_uf M v0 5 (mm_w ((nn_rf M v0 5) - v2))) := nn_L_up L C0.1 rfl
    have N : (nn_uf M v0 5 (mm_w ((nn_rf M v0 5) - v2))).1 = n := N
    generalize e_M85 : (nn_uf M v0 5 (mm_w ((nn_rf M v0 5) - v2))) = M85 at L N ⊢
    replace h := h _ e_M85.symm
    show mm_Go (mm_run 0) mc_Table_takeOut _ (88, [(0, .inr (.inr v0)), (2, .inl v2), (3, .inl v3)], [], M85)
    exact mm_s1 rfl ⟨rfl, L, N, h⟩
  · show mm_Go (mm_run 0) mc_Table_takeOut _ (12, [(0, .inr (.inr v0)), (2, .inl v2), (3, .inl v3)], [], M)
    replace c9 := Int.not_le.mp c9
    replace h := h.2 c9
    refine mm_s1 rfl ?_
    refine nn_getr rfl C0.1 (lf_10_2 L N C0) ?_
    refine mm_s1 rfl ?_
    obtain ⟨b17, h⟩ := h
    have C17 := (nn_l42 L N (nc_10_2 NN C0) b17).2
    refine nn_aald rfl (nn_bd30 (na_10_2 NN C0) (by decide) b17) (nn_l42 L N (nc_10_2 NN C0) b17).1 ?_
    show mm_Go (mm_run 0) mc_Table_takeOut _ (18, [(0, .inr (.inr v0)), (2, .inl v2), (3, .inl v3)], [.inr (.inr (nn_rr M (v0 + 7) v3))], M)
    refine mm_s1 rfl ?_
    show mm_Go (mm_run 0) mc_Table_takeOut _ (20, [(0, .inr (.inr v0)), (2, .inl v2), (3, .inl v3), (4, .inr (.inr (nn_rr M (v0 + 7) v3)))], [], M)
    refine mm_s1 rfl ?_
    refine nn_getr rfl C0.1 (lf_10_2 L N C0) ?_
    refine mm_s1 rfl ?_
    refine mm_s1 rfl ?_
    refine nn_getr rfl C0.1 (lf_10_2 L N C0) ?_
    show mm_Go (mm_run 0) mc_Table_takeOut _ (29, [(0, .inr (.inr v0)), (2, .inl v2), (3, .inl v3), (4, .inr (.inr (nn_rr M (v0 + 7) v3)))], [.inr (.inr (v0 + 7)), .inl v3, .inr (.inr (v0 + 7))], M)
    refine mm_s1 rfl ?_
    refine mm_s1 rfl ?_
    refine mm_s1 rfl ?_
    obtain ⟨b32, h⟩ := h
    have C32 := (nn_l42 L N (nc_10_2 NN C0) b32).2
    refine nn_aald rfl (nn_bd30 (na_10_2 NN C0) (by decide) b32) (nn_l42 L N (nc_10_2 NN C0) b32).1 ?_
    show mm_Go (mm_run 0) mc_Table_takeOut _ (33, [(0, .inr (.inr v0)), (2, .inl v2), (3, .inl v3), (4, .inr (.inr (nn_rr M (v0 + 7) v3)))], [.inr (.inr (nn_rr M (v0 + 7) (mm_w (v3 + v2)))), .inl v3, .inr (.inr (v0 + 7))], M)
    obtain ⟨b33, h⟩ := h
    refine mm_s1 rfl ⟨nn_as42 (na_10_2 NN C0) C32.2 b33, ?_⟩
    show mm_Go (mm_run 0) mc_Table_takeOut _ (34, [(0, .inr (.inr v0)), (2, .inl v2), (3, .inl v3), (4, .inr (.inr (nn_rr M (v0 + 7) v3)))], [], (nn_ui M (v0 + 7) v3 (((nn_rr M (v0 + 7) (mm_w (v3 + v2))) : Nat) : Int)))
    have L : nn_L (nn_ui M (v0 + 7) v3 (((nn_rr M (v0 + 7) (mm_w (v3 + v2))) : Nat) : Int)) := nn_L_u42 L (congrArg Prod.fst (na_10_2 NN C0)) C32.1
    have N : (nn_ui M (v0 + 7) v3 (((nn_rr M (v0 + 7) (mm_w (v3 + v2))) : Nat) : Int)).1 = n := N
    generalize e_M33 : (nn_ui M (v0 + 7) v3 (((nn_rr M (v0 + 7) (mm_w (v3 + v2))) : Nat) : Int)) = M33 at L N ⊢
    replace h := h _ e_M33.symm
    show mm_Go (mm_run 0) mc_Table_takeOut _ (34, [(0, .inr (.inr v0)), (2, .inl v2), (3, .inl v3), (4, .inr (.inr (nn_rr M (v0 + 7) v3)))], [], M33)
    refine mm_s1 rfl ?_
    refine nn_getr rfl C0.1 (lf_10_2 L N C0) ?_
    refine mm_s1 rfl ?_
    refine mm_s1 rfl ?_
    refine mm_s1 rfl ?_
    show mm_Go (mm_run 0) mc_Table_takeOut _ (41, [(0, .inr (.inr v0)), (2, .inl v2), (3, .inl v3), (4, .inr (.inr (nn_rr M (v0 + 7) v3)))], [.inl (mm_w (v3 + v2)), .inr (.inr (v0 + 7))], M33)
    refine mm_s1 rfl ?_
    obtain ⟨b43, h⟩ := h
    refine mm_s1 rfl ⟨nn_as42 (na_10_2 NN C0) C17.2 b43, ?_⟩
    show mm_Go (mm_run 0) mc_Table_takeOut _ (44, [(0, .inr (.inr v0)), (2, .inl v2), (3, .inl v3), (4, .inr (.inr (nn_rr M (v0 + 7) v3)))], [], (nn_ui M33 (v0 + 7) (mm_w (v3 + v2)) (((nn_rr M (v0 + 7) v3) : Nat) : Int)))
    have L : nn_L (nn_ui M33 (v0 + 7) (mm_w (v3 + v2)) (((nn_rr M (v0 + 7) v3) : Nat) : Int)) := nn_L_u42 L (congrArg Prod.fst (na_10_2 NN C0)) C17.1
    have N : (nn_ui M33 (v0 + 7) (mm_w (v3 + v2)) (((nn_rr M (v0 + 7) v3) : Nat) : Int)).1 = n := N
    generalize e_M43 : (nn_ui M33 (v0 + 7) (mm_w (v3 + v2)) (((nn_rr M (v0 + 7) v3) : Nat) : Int)) = M43 at L N ⊢
    replace h := h _ e_M43.symm
    show mm_Go (mm_run 0) mc_Table_takeOut _ (44, [(0, .inr (.inr v0)), (2, .inl v2), (3, .inl v3), (4, .inr (.inr (nn_rr M (v0 + 7) v3)))], [], M43)
    refine mm_s1 rfl ?_
    refine nn_getr rfl C0.1 (lf_10_3 L N C0) ?_
    refine mm_s1 rfl ?_
    refine mm_s1 rfl ?_
    refine nn_getr rfl C0.1 (lf_10_3 L N C0) ?_
    show mm_Go (mm_run 0) mc_Table_takeOut _ (53, [(0, .inr (.inr v0)), (2, .inl v2), (3, .inl v3), (4, .inr (.inr (nn_rr M (v0 + 7) v3)))], [.inr (.inr (v0 + 8)), .inl v3, .inr (.inr (v0 + 8))], M43)
    refine mm_s1 rfl ?_
    refine mm_s1 rfl ?_
    refine mm_s1 rfl ?_
    obtain ⟨b56, h⟩ := h
    refine mm_s1 rfl ⟨nn_bd (na_10_3 NN C0) b56, ?_⟩
    show mm_Go (mm_run 0) mc_Table_takeOut _ (57, [(0, .inr (.inr v0)), (2, .inl v2), (3, .inl v3), (4, .inr (.inr (nn_rr M (v0 + 7) v3)))], [.inl (nn_ri M43 (v0 + 8) (mm_w (v3 + v2))), .inl v3, .inr (.inr (v0 + 8))], M43)
    obtain ⟨b57, h⟩ := h
    refine mm_s1 rfl ⟨nn_bd (na_10_3 NN C0) b57, ?_⟩
    show mm_Go (mm_run 0) mc_Table_takeOut _ (58, [(0, .inr (.inr v0)), (2, .inl v2), (3, .inl v3), (4, .inr (.inr (nn_rr M (v0 + 7) v3)))], [], (nn_ui M43 (v0 + 8) v3 (nn_ri M43 (v0 + 8) (mm_w (v3 + v2)))))
    have L : nn_L (nn_ui M43 (v0 + 8) v3 (nn_ri M43 (v0 + 8) (mm_w (v3 + v2)))) := nn_L_ua L (congrArg Prod.fst (na_10_3 NN C0)) (by decide)
    have N : (nn_ui M43 (v0 + 8) v3 (nn_ri M43 (v0 + 8) (mm_w (v3 + v2)))).1 = n := N
    generalize e_M57 : (nn_ui M43 (v0 + 8) v3 (nn_ri M43 (v0 + 8) (mm_w (v3 + v2)))) = M57 at L N ⊢
    replace h := h _ e_M57.symm
    show mm_Go (mm_run 0) mc_Table_takeOut _ (58, [(0, .inr (.inr v0)), (2, .inl v2), (3, .inl v3), (4, .inr (.inr (nn_rr M (v0 + 7) v3)))], [], M57)
    refine mm_s1 rfl ?_
    refine nn_getr rfl C0.1 (lf_10_4 L N C0) ?_
    refine mm_s1 rfl ?_
    refine mm_s1 rfl ?_
    refine nn_getr rfl C0.1 (lf_10_4 L N C0) ?_
    show mm_Go (mm_run 0) mc_Table_takeOut _ (67, [(0, .inr (.inr v0)), (2, .inl v2), (3, .inl v3), (4, .inr (.inr (nn_rr M (v0 + 7) v3)))], [.inr (.inr (v0 + 9)), .inl v3, .inr (.inr (v0 + 9))], M57)
    refine mm_s1 rfl ?_
    refine mm_s1 rfl ?_
    refine mm_s1 rfl ?_
    obtain ⟨b70, h⟩ := h
    refine mm_s1 rfl ⟨nn_bd (na_10_4 NN C0) b70, ?_⟩
    show mm_Go (mm_run 0) mc_Table_takeOut _ (71, [(0, .inr (.inr v0)), (2, .inl v2), (3, .inl v3), (4, .inr (.inr (nn_rr M (v0 + 7) v3)))], [.inl (nn_ri M57 (v0 + 9) (mm_w (v3 + v2))), .inl v3, .inr (.inr (v0 + 9))], M57)
    obtain ⟨b71, h⟩ := h
    refine mm_s1 rfl ⟨nn_bd (na_10_4 NN C0) b71, ?_⟩
    show mm_Go (mm_run 0) mc_Table_takeOut _ (72, [(0, .inr (.inr v0)), (2, .inl v2), (3, .inl v3), (4, .inr (.inr (nn_rr M (v0 + 7) v3)))], [], (nn_ui M57 (v0 + 9) v3 (nn_ri M57 (v0 + 9) (mm_w (v3 + v2)))))
    have L : nn_L (nn_ui M57 (v0 + 9) v3 (nn_ri M57 (v0 + 9) (mm_w (v3 + v2)))) := nn_L_ua L (congrArg Prod.fst (na_10_4 NN C0)) (by decide)
    have N : (nn_ui M57 (v0 + 9) v3 (nn_ri M57 (v0 + 9) (mm_w (v3 + v2)))).1 = n := N
    generalize e_M71 : (nn_ui M57 (v0 + 9) v3 (nn_ri M57 (v0 + 9) (mm_w (v3 + v2)))) = M71 at L N ⊢
    replace h := h _ e_M71.symm
    show mm_Go (mm_run 0) mc_Table_takeOut _ (72, [(0, .inr (.inr v0)), (2, .inl v2), (3, .inl v3), (4, .inr (.inr (nn_rr M (v0 + 7) v3)))], [], M71)
    refine mm_s1 rfl ?_
    show mm_Go (mm_run 0) mc_Table_takeOut _ (75, [(0, .inr (.inr v0)), (2, .inl v2), (3, .inl (mm_w (v3 + 1))), (4, .inr (.inr (nn_rr M (v0 + 7) v3)))], [], M71)
    refine mm_s1 rfl ?_
    show mm_Go (mm_run 0) mc_Table_takeOut _ (2, [(0, .inr (.inr v0)), (2, .inl v2), (3, .inl (mm_w (v3 + 1))), (4, .inr (.inr (nn_rr M (v0 + 7) v3)))], [], M71)
    exact nn_go_ext (nn_xc rfl (nn_xc rfl (nn_xc rfl nn_xn))) (h n L N C0)
def nr_Tape_add (v0 : Nat) (v1 : Int) (M : mm_M) (R : mm_M → Prop) : Prop := ∀ n, nn_L M → M.1 = n → nn_C 11 v0 n → mm_run 1 mi_Tape_add [.inr (.inr v0), .inl v1] M (nw_V n R)
def nk_Tape_add_3 (v0 : Nat) (v1 : Int) (v2 : Int) (M : mm_M) (R : mm_M → Prop) : Prop := ∀ n, nn_L M → M.1 = n → nn_C 11 v0 n → mm_Go (mm_run 0) mc_Tape_add (nw_V n R) (3, [(0, .inr (.inr v0)), (1, .inl v1), (2, .inl v2)], [], M)
set_option maxRecDepth 20000 in
theorem ng_Tape_add (v0 : Nat) (v1 : Int) (M : mm_M) (R : mm_M → Prop) (h : nk_Tape_add_3 v0 v1 24 M R) : nr_Tape_add v0 v1 M R := by
  intro n L N C0
  have NN := nn_L_n L N
  show mm_Go (mm_run 0) mc_Tape_add _ (0, [(0, .inr (.inr v0)), (1, .inl v1)], [], M)
  refine mm_s1 rfl ?_
  refine mm_s1 rfl ?_
  show mm_Go (mm_run 0) mc_Tape_add _ (3, [(0, .inr (.inr v0)), (1, .inl v1), (2, .inl 24)], [], M)
  exact nn_go_ext (nn_xc rfl (nn_xc rfl (nn_xc rfl nn_xn))) (h n L N C0)
set_option maxRecDepth 20000 in
theorem ng_Tape_add_3 (v0 : Nat) (v1 : Int) (v2 : Int) (M : mm_M) (R : mm_M → Prop) (h : (((0 ≤ v2) ∧ ((nn_rf M v0 1) < 200) → ((0 : Int) ≤ (nn_rf M v0 1) ∧ (nn_rf M v0 1) < (200 : Int))) ∧ ((v2 < 0 ∨ (200 ≤ (nn_rf M v0 1))) → R M) ∧ ((0 ≤ v2 ∧ ((nn_rf M v0 1) < 200)) → (∀ M32 : mm_M, M32 = nn_ui M (v0 + 1) (nn_rf M v0 1) (mm_and (mm_ushr v1 v2) 255) → (∀ M40 : mm_M, M40 = nn_uf M32 v0 1 (mm_w ((nn_rf M32 v0 1) + 1)) → nk_Tape_add_3 v0 v1 (mm_w (v2 + (-8))) M40 R))))) : nk_Tape_add_3 v0 v1 v2 M R := by
  intro n L N C0
  have NN := nn_L_n L N
  show mm_Go (mm_run 0) mc_Tape_add _ (3, [(0, .inr (.inr v0)), (1, .inl v1), (2, .inl v2)], [], M)
  refine mm_s1 rfl ?_
  refine mm_s1 rfl ⟨fun c4 => ?_, fun c4 => ?_⟩
  · show mm_Go (mm_run 0) mc_Tape_add _ (49, [(0, .inr (.inr v0)), (1, .inl v1), (2, .inl v2)], [], M)
    replace h := h.2.1 (Or.inl c4)
    exact mm_s1 rfl ⟨rfl, L, N, h⟩
  · show mm_Go (mm_run 0) mc_Tape_add _ (7, [(0, .inr (.inr v0)), (1, .inl v1), (2, .inl v2)], [], M)
    replace c4 := Int.not_lt.mp c4
    refine mm_s1 rfl ?_
    refine mm_s1 rfl ⟨C0.1, ?_⟩
    show mm_Go (mm_run 0) mc_Tape_add _ (11, [(0, .inr (.inr v0)), (1, .inl v1), (2, .inl v2)], [.inl (nn_rf M v0 1)], M)
    refine mm_s1 rfl ?_
    refine mm_s1 rfl ⟨fun c14 => ?_, fun c14 => ?_⟩
    · show mm_Go (mm_run 0) mc_Tape_add _ (49, [(0, .inr (.inr v0)), (1, .inl v1), (2, .inl v2)], [], M)
      replace h := h.2.1 (Or.inr c14)
      exact mm_s1 rfl ⟨rfl, L, N, h⟩
    · show mm_Go (mm_run 0) mc_Tape_add _ (17, [(0, .inr (.inr v0)), (1, .inl v1), (2, .inl v2)], [], M)
      replace c14 := Int.not_le.mp c14
      refine mm_s1 rfl ?_
      refine nn_getr rfl C0.1 (lf_11_0 L N C0) ?_
      refine mm_s1 rfl ?_
      refine mm_s1 rfl ⟨C0.1, ?_⟩
      show mm_Go (mm_run 0) mc_Tape_add _ (25, [(0, .inr (.inr v0)), (1, .inl v1), (2, .inl v2)], [.inl (nn_rf M v0 1), .inr (.inr (v0 + 1))], M)
      refine mm_s1 rfl ?_
      refine mm_s1 rfl ?_
      refine mm_s1 rfl ?_
      refine mm_s1 rfl ?_
      refine mm_s1 rfl ?_
      show mm_Go (mm_run 0) mc_Tape_add _ (32, [(0, .inr (.inr v0)), (1, .inl v1), (2, .inl v2)], [.inl (mm_and (mm_ushr v1 v2) 255), .inl (nn_rf M v0 1), .inr (.inr (v0 + 1))], M)
      have b32 := h.1 ⟨c4, c14⟩
      replace h := h.2.2 ⟨c4, c14⟩
      refine mm_s1 rfl ⟨nn_bd (na_11_0 NN C0) b32, ?_⟩
      show mm_Go (mm_run 0) mc_Tape_add _ (33, [(0, .inr (.inr v0)), (1, .inl v1), (2, .inl v2)], [], (nn_ui M (v0 + 1) (nn_rf M v0 1) (mm_and (mm_ushr v1 v2) 255)))
      have L : nn_L (nn_ui M (v0 + 1) (nn_rf M v0 1) (mm_and (mm_ushr v1 v2) 255)) := nn_L_ua L (congrArg Prod.fst (na_11_0 NN C0)) (by decide)
      have N : (nn_ui M (v0 + 1) (nn_rf M v0 1) (mm_and (mm_ushr v1 v2) 255)).1 = n := N
      generalize e_M32 : (nn_ui M (v0 + 1) (nn_rf M v0 1) (mm_and (mm_ushr v1 v2) 255)) = M32 at L N ⊢
      replace h := h _ e_M32.symm
      show mm_Go (mm_run 0) mc_Tape_add _ (33, [(0, .inr (.inr v0)), (1, .inl v1), (2, .inl v2)], [], M32)
      refine mm_s1 rfl ?_
      refine mm_s1 rfl ?_
      refine mm_s1 rfl ⟨C0.1, ?_⟩
      show mm_Go (mm_run 0) mc_Tape_add _ (38, [(0, .inr (.inr v0)), (1, .inl v1), (2, .inl v2)], [.inl (nn_rf M32 v0 1), .inr (.inr v0)], M32)
      refine mm_s1 rfl ?_
      refine mm_s1 rfl ?_
      refine mm_s1 rfl ⟨C0.1, ?_⟩
      show mm_Go (mm_run 0) mc_Tape_add _ (43, [(0, .inr (.inr v0)), (1, .inl v1), (2, .inl v2)], [], (nn_uf M32 v0 1 (mm_w ((nn_rf M32 v0 1) + 1))))
      have L : nn_L (nn_uf M32 v0 1 (mm_w ((nn_rf M32 v0 1) + 1))) := nn_L_up L C0.1 rfl
      have N : (nn_uf M32 v0 1 (mm_w ((nn_rf M32 v0 1) + 1))).1 = n := N
      generalize e_M40 : (nn_uf M32 v0 1 (mm_w ((nn_rf M32 v0 1) + 1))) = M40 at L N ⊢
      replace h := h _ e_M40.symm
      show mm_Go (mm_run 0) mc_Tape_add _ (43, [(0, .inr (.inr v0)), (1, .inl v1), (2, .inl v2)], [], M40)
      refine mm_s1 rfl ?_
      show mm_Go (mm_run 0) mc_Tape_add _ (46, [(0, .inr (.inr v0)), (1, .inl v1), (2, .inl (mm_w (v2 + (-8))))], [], M40)
      refine mm_s1 rfl ?_
      show mm_Go (mm_run 0) mc_Tape_add _ (3, [(0, .inr (.inr v0)), (1, .inl v1), (2, .inl (mm_w (v2 + (-8))))], [], M40)
      exact nn_go_ext (nn_xc rfl (nn_xc rfl (nn_xc rfl nn_xn))) (h n L N C0)
def nr_Tape_copy (v0 : Nat) (v1 : Nat) (M : mm_M) (R : mm_M → Prop) : Prop := ∀ n, nn_L M → M.1 = n → nn_C 11 v0 n → nn_C 11 v1 n → mm_run 1 mi_Tape_copy [.inr (.inr v0), .inr (.inr v1)] M (nw_V n R)
set_option maxRecDepth 20000 in
theorem ng_Tape_copy (v0 : Nat) (v1 : Nat) (M : mm_M) (R : mm_M → Prop) (h : (∀ M5 : mm_M, M5 = nn_uf M v0 1 (nn_rf M v1 1) → (((0 : Int) ≤ 0 ∧ (0 : Int) ≤ 0 ∧ (0 : Int) ≤ (nn_rf M5 v0 1) ∧ (0 : Int) + (nn_rf M5 v0 1) ≤ 200 ∧ (0 : Int) + (nn_rf M5 v0 1) ≤ 200) ∧ (∀ M22 : mm_M, M22 = mm_cp M5 (v1 + 1) 0 (v0 + 1) 0 (nn_rf M5 v0 1) → R M22)))) : nr_Tape_copy v0 v1 M R := by
  intro n L N C0 C1
  have NN := nn_L_n L N
  show mm_Go (mm_run 0) mc_Tape_copy _ (0, [(0, .inr (.inr v0)), (1, .inr (.inr v1))], [], M)
  refine mm_s1 rfl ?_
  refine mm_s1 rfl ?_
  refine mm_s1 rfl ⟨C1.1, ?_⟩
  show mm_Go (mm_run 0) mc_Tape_copy _ (5, [(0, .inr (.inr v0)), (1, .inr (.inr v1))], [.inl (nn_rf M v1 1), .inr (.inr v0)], M)
  refine mm_s1 rfl ⟨C0.1, ?_⟩
  show mm_Go (mm_run 0) mc_Tape_copy _ (8, [(0, .inr (.inr v0)), (1, .inr (.inr v1))], [], (nn_uf M v0 1 (nn_rf M v1 1)))
  have L : nn_L (nn_uf M v0 1 (nn_rf M v1 1)) := nn_L_up L C0.1 rfl
  have N : (nn_uf M v0 1 (nn_rf M v1 1)).1 = n := N
  generalize e_M5 : (nn_uf M v0 1 (nn_rf M v1 1)) = M5 at L N ⊢
  replace h := h _ e_M5.symm
  show mm_Go (mm_run 0) mc_Tape_copy _ (8, [(0, .inr (.inr v0)), (1, .inr (.inr v1))], [], M5)
  refine mm_s1 rfl ?_
  refine nn_getr rfl C1.1 (lf_11_0 L N C1) ?_
  refine mm_s1 rfl ?_
  refine mm_s1 rfl ?_
  refine nn_getr rfl C0.1 (lf_11_0 L N C0) ?_
  show mm_Go (mm_run 0) mc_Tape_copy _ (17, [(0, .inr (.inr v0)), (1, .inr (.inr v1))], [.inr (.inr (v0 + 1)), .inl 0, .inr (.inr (v1 + 1))], M5)
  refine mm_s1 rfl ?_
  refine mm_s1 rfl ?_
  refine mm_s1 rfl ⟨C0.1, ?_⟩
  show mm_Go (mm_run 0) mc_Tape_copy _ (22, [(0, .inr (.inr v0)), (1, .inr (.inr v1))], [.inl (nn_rf M5 v0 1), .inl 0, .inr (.inr (v0 + 1)), .inl 0, .inr (.inr (v1 + 1))], M5)
  obtain ⟨b22, h⟩ := h
  refine mm_s1 rfl ⟨nn_ac (nc_11_0 NN C1).1 (nc_11_0 NN C0).1 (by decide) (congrArg (fun q : Nat × Nat => ((q.2 : Nat) : Int)) (na_11_0 NN C1)) (congrArg (fun q : Nat × Nat => ((q.2 : Nat) : Int)) (na_11_0 NN C0)) b22, ?_⟩
  show mm_Go (mm_run 0) mc_Tape_copy _ (25, [(0, .inr (.inr v0)), (1, .inr (.inr v1))], [], (mm_cp M5 (v1 + 1) 0 (v0 + 1) 0 (nn_rf M5 v0 1)))
  have L : nn_L (mm_cp M5 (v1 + 1) 0 (v0 + 1) 0 (nn_rf M5 v0 1)) := nn_L_cp L (nc_11_0 NN C0).1 (by decide)
  have N : (mm_cp M5 (v1 + 1) 0 (v0 + 1) 0 (nn_rf M5 v0 1)).1 = n := N
  generalize e_M22 : (mm_cp M5 (v1 + 1) 0 (v0 + 1) 0 (nn_rf M5 v0 1)) = M22 at L N ⊢
  replace h := h _ e_M22.symm
  show mm_Go (mm_run 0) mc_Tape_copy _ (25, [(0, .inr (.inr v0)), (1, .inr (.inr v1))], [], M22)
  exact mm_s1 rfl ⟨rfl, L, N, h⟩
def nf_Versions_has (v0 : Nat) (v1 : Int) (M : mm_M) : Int := (if (mm_and (mm_ushr (nn_rf M v0 2) v1) 1) = 0 then 0 else 1)
theorem nz_Versions_has (v0 : Nat) (v1 : Int) (M : mm_M) : nf_Versions_has v0 v1 M = 0 ∨ nf_Versions_has v0 v1 M = 1 := by
  unfold nf_Versions_has
  repeat' split
  all_goals first | exact Or.inl rfl | exact Or.inr rfl
set_option maxRecDepth 20000 in
theorem np_Versions_has {v0 : Nat} {v1 : Int} {M : mm_M} {n d : Nat} {P : mm_P} (hd : 1 ≤ d) (L : nn_L M) (N : M.1 = n) (C0 : nn_C 12 v0 n) (h : P (some (.inl (nf_Versions_has v0 v1 M))) M) : mm_run d mi_Versions_has [.inr (.inr v0), .inl v1] M P := by
  have NN := nn_L_n L N
  unfold nf_Versions_has at h
  refine nn_run_le hd ?_
  show mm_Go (mm_run 0) mc_Versions_has _ (0, [(0, .inr (.inr v0)), (1, .inl v1)], [], M)
  refine mm_s1 rfl ?_
  refine mm_s1 rfl ⟨C0.1, ?_⟩
  show mm_Go (mm_run 0) mc_Versions_has _ (4, [(0, .inr (.inr v0)), (1, .inl v1)], [.inl (nn_rf M v0 2)], M)
  refine mm_s1 rfl ?_
  refine mm_s1 rfl ?_
  refine mm_s1 rfl ?_
  refine mm_s1 rfl ?_
  refine mm_s1 rfl ⟨fun c8 => ?_, fun c8 => ?_⟩
  · show mm_Go (mm_run 0) mc_Versions_has _ (15, [(0, .inr (.inr v0)), (1, .inl v1)], [], M)
    rw [if_pos (show (mm_and (mm_ushr (nn_rf M v0 2) v1) 1) = 0 from c8)] at h
    refine mm_s1 rfl ?_
    exact mm_s1 rfl ⟨(Or.inl rfl), h⟩
  · show mm_Go (mm_run 0) mc_Versions_has _ (11, [(0, .inr (.inr v0)), (1, .inl v1)], [], M)
    rw [if_neg (show ¬ ((mm_and (mm_ushr (nn_rf M v0 2) v1) 1) = 0) from c8)] at h
    refine mm_s1 rfl ?_
    refine mm_s1 rfl ?_
    show mm_Go (mm_run 0) mc_Versions_has _ (16, [(0, .inr (.inr v0)), (1, .inl v1)], [.inl 1], M)
    exact mm_s1 rfl ⟨(Or.inr rfl), h⟩
def nr_Versions_keep (v0 : Nat) (v1 : Int) (v2 : Int) (v3 : Int) (M : mm_M) (R : mm_M → Prop) : Prop := ∀ n, nn_L M → M.1 = n → nn_C 12 v0 n → mm_run 1 mi_Versions_keep [.inr (.inr v0), .inl v1, .inl v2, .inl v3] M (nw_V n R)
set_option maxRecDepth 20000 in
theorem ng_Versions_keep (v0 : Nat) (v1 : Int) (v2 : Int) (v3 : Int) (M : mm_M) (R : mm_M → Prop) (h : (((0 : Int) ≤ v1 ∧ v1 < (32 : Int)) ∧ (∀ M6 : mm_M, M6 = nn_ui M (v0 + 1) v1 v2 → (((0 : Int) ≤ v1 ∧ v1 < (32 : Int)) ∧ (∀ M13 : mm_M, M13 = nn_ui M6 (v0 + 2) v1 v3 → (∀ M23 : mm_M, M23 = nn_uf M13 v0 2 (mm_or (nn_rf M13 v0 2) (mm_shl 1 v1)) → R M23)))))) : nr_Versions_keep v0 v1 v2 v3 M R := by
  intro n L N C0
  have NN := nn_L_n L N
  show mm_Go (mm_run 0) mc_Versions_keep _ (0, [(0, .inr (.inr v0)), (1, .inl v1), (2, .inl v2), (3, .inl v3)], [], M)
  refine mm_s1 rfl ?_
  refine nn_getr rfl C0.1 (lf_12_0 L N C0) ?_
  refine mm_s1 rfl ?_
  refine mm_s1 rfl ?_
  obtain ⟨b6, h⟩ := h
  refine mm_s1 rfl ⟨nn_bd (na_12_0 NN C0) b6, ?_⟩
  show mm_Go (mm_run 0) mc_Versions_keep _ (7, [(0, .inr (.inr v0)), (1, .inl v1), (2, .inl v2), (3, .inl v3)], [], (nn_ui M (v0 + 1) v1 v2))
  have L : nn_L (nn_ui M (v0 + 1) v1 v2) := nn_L_ua L (congrArg Prod.fst (na_12_0 NN C0)) (by decide)
  have N : (nn_ui M (v0 + 1) v1 v2).1 = n := N
  generalize e_M6 : (nn_ui M (v0 + 1) v1 v2) = M6 at L N ⊢
  replace h := h _ e_M6.symm
  show mm_Go (mm_run 0) mc_Versions_keep _ (7, [(0, .inr (.inr v0)), (1, .inl v1), (2, .inl v2), (3, .inl v3)], [], M6)
  refine mm_s1 rfl ?_
  refine nn_getr rfl C0.1 (lf_12_1 L N C0) ?_
  refine mm_s1 rfl ?_
  refine mm_s1 rfl ?_
  obtain ⟨b13, h⟩ := h
  refine mm_s1 rfl ⟨nn_bd (na_12_1 NN C0) b13, ?_⟩
  show mm_Go (mm_run 0) mc_Versions_keep _ (14, [(0, .inr (.inr v0)), (1, .inl v1), (2, .inl v2), (3, .inl v3)], [], (nn_ui M6 (v0 + 2) v1 v3))
  have L : nn_L (nn_ui M6 (v0 + 2) v1 v3) := nn_L_ua L (congrArg Prod.fst (na_12_1 NN C0)) (by decide)
  have N : (nn_ui M6 (v0 + 2) v1 v3).1 = n := N
  generalize e_M13 : (nn_ui M6 (v0 + 2) v1 v3) = M13 at L N ⊢
  replace h := h _ e_M13.symm
  show mm_Go (mm_run 0) mc_Versions_keep _ (14, [(0, .inr (.inr v0)), (1, .inl v1), (2, .inl v2), (3, .inl v3)], [], M13)
  refine mm_s1 rfl ?_
  refine mm_s1 rfl ?_
  refine mm_s1 rfl ⟨C0.1, ?_⟩
  show mm_Go (mm_run 0) mc_Versions_keep _ (19, [(0, .inr (.inr v0)), (1, .inl v1), (2, .inl v2), (3, .inl v3)], [.inl (nn_rf M13 v0 2), .inr (.inr v0)], M13)
  refine mm_s1 rfl ?_
  refine mm_s1 rfl ?_
  refine mm_s1 rfl ?_
  refine mm_s1 rfl ?_
  refine mm_s1 rfl ⟨C0.1, ?_⟩
  show mm_Go (mm_run 0) mc_Versions_keep _ (26, [(0, .inr (.inr v0)), (1, .inl v1), (2, .inl v2), (3, .inl v3)], [], (nn_uf M13 v0 2 (mm_or (nn_rf M13 v0 2) (mm_shl 1 v1))))
  have L : nn_L (nn_uf M13 v0 2 (mm_or (nn_rf M13 v0 2) (mm_shl 1 v1))) := nn_L_up L C0.1 rfl
  have N : (nn_uf M13 v0 2 (mm_or (nn_rf M13 v0 2) (mm_shl 1 v1))).1 = n := N
  generalize e_M23 : (nn_uf M13 v0 2 (mm_or (nn_rf M13 v0 2) (mm_shl 1 v1))) = M23 at L N ⊢
  replace h := h _ e_M23.symm
  show mm_Go (mm_run 0) mc_Versions_keep _ (26, [(0, .inr (.inr v0)), (1, .inl v1), (2, .inl v2), (3, .inl v3)], [], M23)
  exact mm_s1 rfl ⟨rfl, L, N, h⟩
def nr_Versions_copy (v0 : Nat) (v1 : Nat) (M : mm_M) (R : mm_M → Prop) : Prop := ∀ n, nn_L M → M.1 = n → nn_C 12 v0 n → nn_C 12 v1 n → mm_run 1 mi_Versions_copy [.inr (.inr v0), .inr (.inr v1)] M (nw_V n R)
set_option maxRecDepth 20000 in
theorem ng_Versions_copy (v0 : Nat) (v1 : Nat) (M : mm_M) (R : mm_M → Prop) (h : (((0 : Int) ≤ 0 ∧ (0 : Int) ≤ 0 ∧ (0 : Int) ≤ 32 ∧ (0 : Int) + 32 ≤ 32 ∧ (0 : Int) + 32 ≤ 32) ∧ (∀ M12 : mm_M, M12 = mm_cp M (v1 + 1) 0 (v0 + 1) 0 32 → (((0 : Int) ≤ 0 ∧ (0 : Int) ≤ 0 ∧ (0 : Int) ≤ 32 ∧ (0 : Int) + 32 ≤ 32 ∧ (0 : Int) + 32 ≤ 32) ∧ (∀ M27 : mm_M, M27 = mm_cp M12 (v1 + 2) 0 (v0 + 2) 0 32 → (∀ M35 : mm_M, M35 = nn_uf M27 v0 2 (nn_rf M27 v1 2) → (∀ M43 : mm_M, M43 = nn_uf M35 v0 3 (nn_rf M35 v1 3) → (∀ M51 : mm_M, M51 = nn_uf M43 v0 4 (nn_rf M43 v1 4) → R M51)))))))) : nr_Versions_copy v0 v1 M R := by
  intro n L N C0 C1
  have NN := nn_L_n L N
  show mm_Go (mm_run 0) mc_Versions_copy _ (0, [(0, .inr (.inr v0)), (1, .inr (.inr v1))], [], M)
  refine mm_s1 rfl ?_
  refine nn_getr rfl C1.1 (lf_12_0 L N C1) ?_
  refine mm_s1 rfl ?_
  refine mm_s1 rfl ?_
  refine nn_getr rfl C0.1 (lf_12_0 L N C0) ?_
  show mm_Go (mm_run 0) mc_Versions_copy _ (9, [(0, .inr (.inr v0)), (1, .inr (.inr v1))], [.inr (.inr (v0 + 1)), .inl 0, .inr (.inr (v1 + 1))], M)
  refine mm_s1 rfl ?_
  refine mm_s1 rfl ?_
  obtain ⟨b12, h⟩ := h
  refine mm_s1 rfl ⟨nn_ac (nc_12_0 NN C1).1 (nc_12_0 NN C0).1 (by decide) (congrArg (fun q : Nat × Nat => ((q.2 : Nat) : Int)) (na_12_0 NN C1)) (congrArg (fun q : Nat × Nat => ((q.2 : Nat) : Int)) (na_12_0 NN C0)) b12, ?_⟩
  show mm_Go (mm_run 0) mc_Versions_copy _ (15, [(0, .inr (.inr v0)), (1, .inr (.inr v1))], [], (mm_cp M (v1 + 1) 0 (v0 + 1) 0 32))
  have L : nn_L (mm_cp M (v1 + 1) 0 (v0 + 1) 0 32) := nn_L_cp L (nc_12_0 NN C0).1 (by decide)
  have N : (mm_cp M (v1 + 1) 0 (v0 + 1) 0 32).1 = n := N
  generalize e_M12 : (mm_cp M (v1 + 1) 0 (v0 + 1) 0 32) = M12 at L N ⊢
  replace h := h _ e_M12.symm
  show mm_Go (mm_run 0) mc_Versions_copy _ (15, [(0, .inr (.inr v0)), (1, .inr (.inr v1))], [], M12)
  refine mm_s1 rfl ?_
  refine nn_getr rfl C1.1 (lf_12_1 L N C1) ?_
  refine mm_s1 rfl ?_
  refine mm_s1 rfl ?_
  refine nn_getr rfl C0.1 (lf_12_1 L N C0) ?_
  show mm_Go (mm_run 0) mc_Versions_copy _ (24, [(0, .inr (.inr v0)), (1, .inr (.inr v1))], [.inr (.inr (v0 + 2)), .inl 0, .inr (.inr (v1 + 2))], M12)
  refine mm_s1 rfl ?_
  refine mm_s1 rfl ?_
  obtain ⟨b27, h⟩ := h
  refine mm_s1 rfl ⟨nn_ac (nc_12_1 NN C1).1 (nc_12_1 NN C0).1 (by decide) (congrArg (fun q : Nat × Nat => ((q.2 : Nat) : Int)) (na_12_1 NN C1)) (congrArg (fun q : Nat × Nat => ((q.2 : Nat) : Int)) (na_12_1 NN C0)) b27, ?_⟩
  show mm_Go (mm_run 0) mc_Versions_copy _ (30, [(0, .inr (.inr v0)), (1, .inr (.inr v1))], [], (mm_cp M12 (v1 + 2) 0 (v0 + 2) 0 32))
  have L : nn_L (mm_cp M12 (v1 + 2) 0 (v0 + 2) 0 32) := nn_L_cp L (nc_12_1 NN C0).1 (by decide)
  have N : (mm_cp M12 (v1 + 2) 0 (v0 + 2) 0 32).1 = n := N
  generalize e_M27 : (mm_cp M12 (v1 + 2) 0 (v0 + 2) 0 32) = M27 at L N ⊢
  replace h := h _ e_M27.symm
  show mm_Go (mm_run 0) mc_Versions_copy _ (30, [(0, .inr (.inr v0)), (1, .inr (.inr v1))], [], M27)
  refine mm_s1 rfl ?_
  refine mm_s1 rfl ?_
  refine mm_s1 rfl ⟨C1.1, ?_⟩
  show mm_Go (mm_run 0) mc_Versions_copy _ (35, [(0, .inr (.inr v0)), (1, .inr (.inr v1))], [.inl (nn_rf M27 v1 2), .inr (.inr v0)], M27)
  refine mm_s1 rfl ⟨C0.1, ?_⟩
  show mm_Go (mm_run 0) mc_Versions_copy _ (38, [(0, .inr (.inr v0)), (1, .inr (.inr v1))], [], (nn_uf M27 v0 2 (nn_rf M27 v1 2)))
  have L : nn_L (nn_uf M27 v0 2 (nn_rf M27 v1 2)) := nn_L_up L C0.1 rfl
  have N : (nn_uf M27 v0 2 (nn_rf M27 v1 2)).1 = n := N
  generalize e_M35 : (nn_uf M27 v0 2 (nn_rf M27 v1 2)) = M35 at L N ⊢
  replace h := h _ e_M35.symm
  show mm_Go (mm_run 0) mc_Versions_copy _ (38, [(0, .inr (.inr v0)), (1, .inr (.inr v1))], [], M35)
  refine mm_s1 rfl ?_
  refine mm_s1 rfl ?_
  refine mm_s1 rfl ⟨C1.1, ?_⟩
  show mm_Go (mm_run 0) mc_Versions_copy _ (43, [(0, .inr (.inr v0)), (1, .inr (.inr v1))], [.inl (nn_rf M35 v1 3), .inr (.inr v0)], M35)
  refine mm_s1 rfl ⟨C0.1, ?_⟩
  show mm_Go (mm_run 0) mc_Versions_copy _ (46, [(0, .inr (.inr v0)), (1, .inr (.inr v1))], [], (nn_uf M35 v0 3 (nn_rf M35 v1 3)))
  have L : nn_L (nn_uf M35 v0 3 (nn_rf M35 v1 3)) := nn_L_up L C0.1 rfl
  have N : (nn_uf M35 v0 3 (nn_rf M35 v1 3)).1 = n := N
  generalize e_M43 : (nn_uf M35 v0 3 (nn_rf M35 v1 3)) = M43 at L N ⊢
  replace h := h _ e_M43.symm
  show mm_Go (mm_run 0) mc_Versions_copy _ (46, [(0, .inr (.inr v0)), (1, .inr (.inr v1))], [], M43)
  refine mm_s1 rfl ?_
  refine mm_s1 rfl ?_
  refine mm_s1 rfl ⟨C1.1, ?_⟩
  show mm_Go (mm_run 0) mc_Versions_copy _ (51, [(0, .inr (.inr v0)), (1, .inr (.inr v1))], [.inl (nn_rf M43 v1 4), .inr (.inr v0)], M43)
  refine mm_s1 rfl ⟨C0.1, ?_⟩
  show mm_Go (mm_run 0) mc_Versions_copy _ (54, [(0, .inr (.inr v0)), (1, .inr (.inr v1))], [], (nn_uf M43 v0 4 (nn_rf M43 v1 4)))
  have L : nn_L (nn_uf M43 v0 4 (nn_rf M43 v1 4)) := nn_L_up L C0.1 rfl
  have N : (nn_uf M43 v0 4 (nn_rf M43 v1 4)).1 = n := N
  generalize e_M51 : (nn_uf M43 v0 4 (nn_rf M43 v1 4)) = M51 at L N ⊢
  replace h := h _ e_M51.symm
  show mm_Go (mm_run 0) mc_Versions_copy _ (54, [(0, .inr (.inr v0)), (1, .inr (.inr v1))], [], M51)
  exact mm_s1 rfl ⟨rfl, L, N, h⟩
def nr_Versions_forget (v0 : Nat) (v1 : Int) (M : mm_M) (R : mm_M → Prop) : Prop := ∀ n, nn_L M → M.1 = n → nn_C 12 v0 n → mm_run 1 mi_Versions_forget [.inr (.inr v0), .inl v1] M (nw_V n R)
set_option maxRecDepth 20000 in
theorem ng_Versions_forget (v0 : Nat) (v1 : Int) (M : mm_M) (R : mm_M → Prop) (h : (∀ M11 : mm_M, M11 = nn_uf M v0 2 (mm_and (nn_rf M v0 2) (mm_xor (mm_shl 1 v1) (-1))) → R M11)) : nr_Versions_forget v0 v1 M R := by
  intro n L N C0
  have NN := nn_L_n L N
  show mm_Go (mm_run 0) mc_Versions_forget _ (0, [(0, .inr (.inr v0)), (1, .inl v1)], [], M)
  refine mm_s1 rfl ?_
  refine mm_s1 rfl ?_
  refine mm_s1 rfl ⟨C0.1, ?_⟩
  show mm_Go (mm_run 0) mc_Versions_forget _ (5, [(0, .inr (.inr v0)), (1, .inl v1)], [.inl (nn_rf M v0 2), .inr (.inr v0)], M)
  refine mm_s1 rfl ?_
  refine mm_s1 rfl ?_
  refine mm_s1 rfl ?_
  refine mm_s1 rfl ?_
  refine mm_s1 rfl ?_
  show mm_Go (mm_run 0) mc_Versions_forget _ (10, [(0, .inr (.inr v0)), (1, .inl v1)], [.inl (mm_xor (mm_shl 1 v1) (-1)), .inl (nn_rf M v0 2), .inr (.inr v0)], M)
  refine mm_s1 rfl ?_
  refine mm_s1 rfl ⟨C0.1, ?_⟩
  show mm_Go (mm_run 0) mc_Versions_forget _ (14, [(0, .inr (.inr v0)), (1, .inl v1)], [], (nn_uf M v0 2 (mm_and (nn_rf M v0 2) (mm_xor (mm_shl 1 v1) (-1)))))
  have L : nn_L (nn_uf M v0 2 (mm_and (nn_rf M v0 2) (mm_xor (mm_shl 1 v1) (-1)))) := nn_L_up L C0.1 rfl
  have N : (nn_uf M v0 2 (mm_and (nn_rf M v0 2) (mm_xor (mm_shl 1 v1) (-1)))).1 = n := N
  generalize e_M11 : (nn_uf M v0 2 (mm_and (nn_rf M v0 2) (mm_xor (mm_shl 1 v1) (-1)))) = M11 at L N ⊢
  replace h := h _ e_M11.symm
  show mm_Go (mm_run 0) mc_Versions_forget _ (14, [(0, .inr (.inr v0)), (1, .inl v1)], [], M11)
  exact mm_s1 rfl ⟨rfl, L, N, h⟩
def nf_Versions_filter (v0 : Nat) (M : mm_M) : Int := mm_and (mm_or (mm_or (mm_or (nn_rf M v0 2) (mm_ushr (nn_rf M v0 2) 8)) (mm_ushr (nn_rf M v0 2) 16)) (mm_ushr (nn_rf M v0 2) 24)) 255
set_option maxRecDepth 20000 in
theorem np_Versions_filter {v0 : Nat} {M : mm_M} {n d : Nat} {P : mm_P} (hd : 1 ≤ d) (L : nn_L M) (N : M.1 = n) (C0 : nn_C 12 v0 n) (h : P (some (.inl (nf_Versions_filter v0 M))) M) : mm_run d mi_Versions_filter [.inr (.inr v0)] M P := by
  have NN := nn_L_n L N
  unfold nf_Versions_filter at h
  refine nn_run_le hd ?_
  show mm_Go (mm_run 0) mc_Versions_filter _ (0, [(0, .inr (.inr v0))], [], M)
  refine mm_s1 rfl ?_
  refine mm_s1 rfl ⟨C0.1, ?_⟩
  show mm_Go (mm_run 0) mc_Versions_filter _ (4, [(0, .inr (.inr v0))], [.inl (nn_rf M v0 2)], M)
  refine mm_s1 rfl ?_
  refine mm_s1 rfl ⟨C0.1, ?_⟩
  show mm_Go (mm_run 0) mc_Versions_filter _ (8, [(0, .inr (.inr v0))], [.inl (nn_rf M v0 2), .inl (nn_rf M v0 2)], M)
  refine mm_s1 rfl ?_
  refine mm_s1 rfl ?_
  refine mm_s1 rfl ?_
  refine mm_s1 rfl ?_
  refine mm_s1 rfl ⟨C0.1, ?_⟩
  show mm_Go (mm_run 0) mc_Versions_filter _ (16, [(0, .inr (.inr v0))], [.inl (nn_rf M v0 2), .inl (mm_or (nn_rf M v0 2) (mm_ushr (nn_rf M v0 2) 8))], M)
  refine mm_s1 rfl ?_
  refine mm_s1 rfl ?_
  refine mm_s1 rfl ?_
  refine mm_s1 rfl ?_
  refine mm_s1 rfl ⟨C0.1, ?_⟩
  show mm_Go (mm_run 0) mc_Versions_filter _ (24, [(0, .inr (.inr v0))], [.inl (nn_rf M v0 2), .inl (mm_or (mm_or (nn_rf M v0 2) (mm_ushr (nn_rf M v0 2) 8)) (mm_ushr (nn_rf M v0 2) 16))], M)
  refine mm_s1 rfl ?_
  refine mm_s1 rfl ?_
  refine mm_s1 rfl ?_
  refine mm_s1 rfl ?_
  refine mm_s1 rfl ?_
  exact mm_s1 rfl h
def nf_M_at (v0 : Int) (v1 : Int) : Int := mm_w ((mm_w (v0 + 1784)) + (mm_w (855 * v1)))
set_option maxRecDepth 20000 in
theorem np_M_at {v0 : Int} {v1 : Int} {M : mm_M} {n d : Nat} {P : mm_P} (hd : 1 ≤ d) (L : nn_L M) (N : M.1 = n)  (h : P (some (.inl (nf_M_at v0 v1))) M) : mm_run d mi_M_at [.inl v0, .inl v1] M P := by
  have NN := nn_L_n L N
  unfold nf_M_at at h
  refine nn_run_le hd ?_
  show mm_Go (mm_run 0) mc_M_at _ (0, [(0, .inl v0), (1, .inl v1)], [], M)
  refine mm_s1 rfl ?_
  refine mm_s1 rfl ?_
  refine mm_s1 rfl ?_
  refine mm_s1 rfl ?_
  refine mm_s1 rfl ?_
  refine mm_s1 rfl ?_
  refine mm_s1 rfl ?_
  exact mm_s1 rfl h
def nf_M_byteAt (v1 : Int) (M : mm_M) : Int := (if (nn_rf M 407 3) ≤ v1 then (-1) else mm_and (nn_ri M 408 (mm_w (88 + v1))) 255)
def nc_M_byteAt (v1 : Int) (M : mm_M) : Prop := (v1 < (nn_rf M 407 3) → ((0 : Int) ≤ (mm_w (88 + v1)) ∧ (mm_w (88 + v1)) < (32844 : Int)))
set_option maxRecDepth 20000 in
theorem np_M_byteAt {v1 : Int} {M : mm_M} {n d : Nat} {P : mm_P} (hd : 1 ≤ d) (L : nn_L M) (N : M.1 = n)  (b : nc_M_byteAt v1 M) (h : P (some (.inl (nf_M_byteAt v1 M))) M) : mm_run d mi_M_byteAt [.inr (.inr 407), .inl v1] M P := by
  have NN := nn_L_n L N
  unfold nc_M_byteAt at b
  unfold nf_M_byteAt at h
  refine nn_run_le hd ?_
  show mm_Go (mm_run 0) mc_M_byteAt _ (0, [(0, .inr (.inr 407)), (1, .inl v1)], [], M)
  refine mm_s1 rfl ?_
  refine mm_s1 rfl ?_
  refine mm_s1 rfl ⟨(nn_c407 NN).1, ?_⟩
  show mm_Go (mm_run 0) mc_M_byteAt _ (5, [(0, .inr (.inr 407)), (1, .inl v1)], [.inl (nn_rf M 407 3), .inl v1], M)
  refine mm_s1 rfl ⟨fun c5 => ?_, fun c5 => ?_⟩
  · show mm_Go (mm_run 0) mc_M_byteAt _ (24, [(0, .inr (.inr 407)), (1, .inl v1)], [], M)
    rw [if_pos (show (nn_rf M 407 3) ≤ v1 from c5)] at h
    refine mm_s1 rfl ?_
    exact mm_s1 rfl h
  · show mm_Go (mm_run 0) mc_M_byteAt _ (8, [(0, .inr (.inr 407)), (1, .inl v1)], [], M)
    rw [if_neg (show ¬ ((nn_rf M 407 3) ≤ v1) from c5)] at h
    replace c5 := Int.not_le.mp c5
    replace b := b c5
    refine mm_s1 rfl ?_
    refine nn_getr rfl (nn_c407 NN).1 (lf_13_0 L N (nn_c407 NN)) ?_
    refine mm_s1 rfl ?_
    refine mm_s1 rfl ?_
    refine mm_s1 rfl ?_
    have b16 := b
    refine mm_s1 rfl ⟨nn_bd (na_13_0 NN (nn_c407 NN)) b16, ?_⟩
    show mm_Go (mm_run 0) mc_M_byteAt _ (17, [(0, .inr (.inr 407)), (1, .inl v1)], [.inl (nn_ri M 408 (mm_w (88 + v1)))], M)
    refine mm_s1 rfl ?_
    refine mm_s1 rfl ?_
    refine mm_s1 rfl ?_
    show mm_Go (mm_run 0) mc_M_byteAt _ (25, [(0, .inr (.inr 407)), (1, .inl v1)], [.inl (mm_and (nn_ri M 408 (mm_w (88 + v1))) 255)], M)
    exact mm_s1 rfl h
def nf_M_isLetter (v0 : Int) : Int := (if v0 < 97 then 0 else (if 122 < v0 then 0 else 1))
theorem nz_M_isLetter (v0 : Int) : nf_M_isLetter v0 = 0 ∨ nf_M_isLetter v0 = 1 := by
  unfold nf_M_isLetter
  repeat' split
  all_goals first | exact Or.inl rfl | exact Or.inr rfl
set_option maxRecDepth 20000 in
theorem np_M_isLetter {v0 : Int} {M : mm_M} {n d : Nat} {P : mm_P} (hd : 1 ≤ d) (L : nn_L M) (N : M.1 = n)  (h : P (some (.inl (nf_M_isLetter v0))) M) : mm_run d mi_M_isLetter [.inl v0] M P := by
  have NN := nn_L_n L N
  unfold nf_M_isLetter at h
  refine nn_run_le hd ?_
  show mm_Go (mm_run 0) mc_M_isLetter _ (0, [(0, .inl v0)], [], M)
  refine mm_s1 rfl ?_
  refine mm_s1 rfl ?_
  refine mm_s1 rfl ⟨fun c3 => ?_, fun c3 => ?_⟩
  · show mm_Go (mm_run 0) mc_M_isLetter _ (16, [(0, .inl v0)], [], M)
    rw [if_pos (show v0 < 97 from c3)] at h
    refine mm_s1 rfl ?_
    exact mm_s1 rfl ⟨(Or.inl rfl), h⟩
  · show mm_Go (mm_run 0) mc_M_isLetter _ (6, [(0, .inl v0)], [], M)
    rw [if_neg (show ¬ (v0 < 97) from c3)] at h
    replace c3 := Int.not_lt.mp c3
    refine mm_s1 rfl ?_
    refine mm_s1 rfl ?_
    refine mm_s1 rfl ⟨fun c9 => ?_, fun c9 => ?_⟩
    · show mm_Go (mm_run 0) mc_M_isLetter _ (16, [(0, .inl v0)], [], M)
      rw [if_pos (show 122 < v0 from c9)] at h
      refine mm_s1 rfl ?_
      exact mm_s1 rfl ⟨(Or.inl rfl), h⟩
    · show mm_Go (mm_run 0) mc_M_isLetter _ (12, [(0, .inl v0)], [], M)
      rw [if_neg (show ¬ (122 < v0) from c9)] at h
      replace c9 := Int.not_lt.mp c9
      refine mm_s1 rfl ?_
      refine mm_s1 rfl ?_
      show mm_Go (mm_run 0) mc_M_isLetter _ (17, [(0, .inl v0)], [.inl 1], M)
      exact mm_s1 rfl ⟨(Or.inr rfl), h⟩
def nf_M_isDigit (v0 : Int) : Int := (if v0 < 48 then 0 else (if 57 < v0 then 0 else 1))
theorem nz_M_isDigit (v0 : Int) : nf_M_isDigit v0 = 0 ∨ nf_M_isDigit v0 = 1 := by
  unfold nf_M_isDigit
  repeat' split
  all_goals first | exact Or.inl rfl | exact Or.inr rfl
set_option maxRecDepth 20000 in
theorem np_M_isDigit {v0 : Int} {M : mm_M} {n d : Nat} {P : mm_P} (hd : 1 ≤ d) (L : nn_L M) (N : M.1 = n)  (h : P (some (.inl (nf_M_isDigit v0))) M) : mm_run d mi_M_isDigit [.inl v0] M P := by
  have NN := nn_L_n L N
  unfold nf_M_isDigit at h
  refine nn_run_le hd ?_
  show mm_Go (mm_run 0) mc_M_isDigit _ (0, [(0, .inl v0)], [], M)
  refine mm_s1 rfl ?_
  refine mm_s1 rfl ?_
  refine mm_s1 rfl ⟨fun c3 => ?_, fun c3 => ?_⟩
  · show mm_Go (mm_run 0) mc_M_isDigit _ (16, [(0, .inl v0)], [], M)
    rw [if_pos (show v0 < 48 from c3)] at h
    refine mm_s1 rfl ?_
    exact mm_s1 rfl ⟨(Or.inl rfl), h⟩
  · show mm_Go (mm_run 0) mc_M_isDigit _ (6, [(0, .inl v0)], [], M)
    rw [if_neg (show ¬ (v0 < 48) from c3)] at h
    replace c3 := Int.not_lt.mp c3
    refine mm_s1 rfl ?_
    refine mm_s1 rfl ?_
    refine mm_s1 rfl ⟨fun c9 => ?_, fun c9 => ?_⟩
    · show mm_Go (mm_run 0) mc_M_isDigit _ (16, [(0, .inl v0)], [], M)
      rw [if_pos (show 57 < v0 from c9)] at h
      refine mm_s1 rfl ?_
      exact mm_s1 rfl ⟨(Or.inl rfl), h⟩
    · show mm_Go (mm_run 0) mc_M_isDigit _ (12, [(0, .inl v0)], [], M)
      rw [if_neg (show ¬ (57 < v0) from c9)] at h
      replace c9 := Int.not_lt.mp c9
      refine mm_s1 rfl ?_
      refine mm_s1 rfl ?_
      show mm_Go (mm_run 0) mc_M_isDigit _ (17, [(0, .inl v0)], [.inl 1], M)
      exact mm_s1 rfl ⟨(Or.inr rfl), h⟩
def nf_M_isWord (v1 : Int) (M : mm_M) : Int := (if (nn_rf M 407 7) ≠ 0 then 0 else (if (nn_rf M 407 5) ≠ 1 then 0 else (if (mm_lcmp (nn_rf M 407 9) v1) ≠ 0 then 0 else 1)))
theorem nz_M_isWord (v1 : Int) (M : mm_M) : nf_M_isWord v1 M = 0 ∨ nf_M_isWord v1 M = 1 := by
  unfold nf_M_isWord
  repeat' split
  all_goals first | exact Or.inl rfl | exact Or.inr rfl
set_option maxRecDepth 20000 in
theorem np_M_isWord {v1 : Int} {M : mm_M} {n d : Nat} {P : mm_P} (hd : 1 ≤ d) (L : nn_L M) (N : M.1 = n)  (h : P (some (.inl (nf_M_isWord v1 M))) M) : mm_run d mi_M_isWord [.inr (.inr 407), .inr (.inl v1)] M P := by
  have NN := nn_L_n L N
  unfold nf_M_isWord at h
  refine nn_run_le hd ?_
  show mm_Go (mm_run 0) mc_M_isWord _ (0, [(0, .inr (.inr 407)), (1, .inr (.inl v1))], [], M)
  refine mm_s1 rfl ?_
  refine mm_s1 rfl ⟨(nn_c407 NN).1, ?_⟩
  show mm_Go (mm_run 0) mc_M_isWord _ (4, [(0, .inr (.inr 407)), (1, .inr (.inl v1))], [.inl (nn_rf M 407 7)], M)
  refine mm_s1 rfl ⟨fun c4 => ?_, fun c4 => ?_⟩
  · show mm_Go (mm_run 0) mc_M_isWord _ (28, [(0, .inr (.inr 407)), (1, .inr (.inl v1))], [], M)
    rw [if_pos (show (nn_rf M 407 7) ≠ 0 from c4)] at h
    refine mm_s1 rfl ?_
    exact mm_s1 rfl ⟨(Or.inl rfl), h⟩
  · show mm_Go (mm_run 0) mc_M_isWord _ (7, [(0, .inr (.inr 407)), (1, .inr (.inl v1))], [], M)
    rw [if_neg (show ¬ ((nn_rf M 407 7) ≠ 0) from c4)] at h
    replace c4 := Decidable.not_not.mp c4
    refine mm_s1 rfl ?_
    refine mm_s1 rfl ⟨(nn_c407 NN).1, ?_⟩
    show mm_Go (mm_run 0) mc_M_isWord _ (11, [(0, .inr (.inr 407)), (1, .inr (.inl v1))], [.inl (nn_rf M 407 5)], M)
    refine mm_s1 rfl ?_
    refine mm_s1 rfl ⟨fun c12 => ?_, fun c12 => ?_⟩
    · show mm_Go (mm_run 0) mc_M_isWord _ (28, [(0, .inr (.inr 407)), (1, .inr (.inl v1))], [], M)
      rw [if_pos (show (nn_rf M 407 5) ≠ 1 from c12)] at h
      refine mm_s1 rfl ?_
      exact mm_s1 rfl ⟨(Or.inl rfl), h⟩
    · show mm_Go (mm_run 0) mc_M_isWord _ (15, [(0, .inr (.inr 407)), (1, .inr (.inl v1))], [], M)
      rw [if_neg (show ¬ ((nn_rf M 407 5) ≠ 1) from c12)] at h
      replace c12 := Decidable.not_not.mp c12
      refine mm_s1 rfl ?_
      refine mm_s1 rfl ⟨(nn_c407 NN).1, ?_⟩
      show mm_Go (mm_run 0) mc_M_isWord _ (19, [(0, .inr (.inr 407)), (1, .inr (.inl v1))], [.inr (.inl (nn_rf M 407 9))], M)
      refine mm_s1 rfl ?_
      refine mm_s1 rfl ?_
      refine mm_s1 rfl ⟨fun c21 => ?_, fun c21 => ?_⟩
      · show mm_Go (mm_run 0) mc_M_isWord _ (28, [(0, .inr (.inr 407)), (1, .inr (.inl v1))], [], M)
        rw [if_pos (show (mm_lcmp (nn_rf M 407 9) v1) ≠ 0 from c21)] at h
        refine mm_s1 rfl ?_
        exact mm_s1 rfl ⟨(Or.inl rfl), h⟩
      · show mm_Go (mm_run 0) mc_M_isWord _ (24, [(0, .inr (.inr 407)), (1, .inr (.inl v1))], [], M)
        rw [if_neg (show ¬ ((mm_lcmp (nn_rf M 407 9) v1) ≠ 0) from c21)] at h
        replace c21 := Decidable.not_not.mp c21
        refine mm_s1 rfl ?_
        refine mm_s1 rfl ?_
        show mm_Go (mm_run 0) mc_M_isWord _ (29, [(0, .inr (.inr 407)), (1, .inr (.inl v1))], [.inl 1], M)
        exact mm_s1 rfl ⟨(Or.inr rfl), h⟩
def nr_M_fails (v1 : Int) (M : mm_M) (R : mm_M → Prop) : Prop := ∀ n, nn_L M → M.1 = n → mm_run 1 mi_M_fails [.inr (.inr 407), .inl v1] M (nw_V n R)
set_option maxRecDepth 20000 in
theorem ng_M_fails (v1 : Int) (M : mm_M) (R : mm_M → Prop) (h : (((nn_rf M 407 7) ≤ 0 → (∀ M10 : mm_M, M10 = nn_uf M 407 7 v1 → (∀ M18 : mm_M, M18 = nn_uf M10 407 8 (nn_rf M10 407 6) → R M18))) ∧ (0 < (nn_rf M 407 7) → R M))) : nr_M_fails v1 M R := by
  intro n L N 
  have NN := nn_L_n L N
  show mm_Go (mm_run 0) mc_M_fails _ (0, [(0, .inr (.inr 407)), (1, .inl v1)], [], M)
  refine mm_s1 rfl ?_
  refine mm_s1 rfl ⟨(nn_c407 NN).1, ?_⟩
  show mm_Go (mm_run 0) mc_M_fails _ (4, [(0, .inr (.inr 407)), (1, .inl v1)], [.inl (nn_rf M 407 7)], M)
  refine mm_s1 rfl ⟨fun c4 => ?_, fun c4 => ?_⟩
  · show mm_Go (mm_run 0) mc_M_fails _ (8, [(0, .inr (.inr 407)), (1, .inl v1)], [], M)
    replace h := h.1 c4
    refine mm_s1 rfl ?_
    refine mm_s1 rfl ?_
    refine mm_s1 rfl ⟨(nn_c407 NN).1, ?_⟩
    show mm_Go (mm_run 0) mc_M_fails _ (13, [(0, .inr (.inr 407)), (1, .inl v1)], [], (nn_uf M 407 7 v1))
    have L : nn_L (nn_uf M 407 7 v1) := nn_L_up L (nn_c407 NN).1 rfl
    have N : (nn_uf M 407 7 v1).1 = n := N
    generalize e_M10 : (nn_uf M 407 7 v1) = M10 at L N ⊢
    replace h := h _ e_M10.symm
    show mm_Go (mm_run 0) mc_M_fails _ (13, [(0, .inr (.inr 407)), (1, .inl v1)], [], M10)
    refine mm_s1 rfl ?_
    refine mm_s1 rfl ?_
    refine mm_s1 rfl ⟨(nn_c407 NN).1, ?_⟩
    show mm_Go (mm_run 0) mc_M_fails _ (18, [(0, .inr (.inr 407)), (1, .inl v1)], [.inl (nn_rf M10 407 6), .inr (.inr 407)], M10)
    refine mm_s1 rfl ⟨(nn_c407 NN).1, ?_⟩
    show mm_Go (mm_run 0) mc_M_fails _ (21, [(0, .inr (.inr 407)), (1, .inl v1)], [], (nn_uf M10 407 8 (nn_rf M10 407 6)))
    have L : nn_L (nn_uf M10 407 8 (nn_rf M10 407 6)) := nn_L_up L (nn_c407 NN).1 rfl
    have N : (nn_uf M10 407 8 (nn_rf M10 407 6)).1 = n := N
    generalize e_M18 : (nn_uf M10 407 8 (nn_rf M10 407 6)) = M18 at L N ⊢
    replace h := h _ e_M18.symm
    show mm_Go (mm_run 0) mc_M_fails _ (21, [(0, .inr (.inr 407)), (1, .inl v1)], [], M18)
    exact mm_s1 rfl ⟨rfl, L, N, h⟩
  · show mm_Go (mm_run 0) mc_M_fails _ (7, [(0, .inr (.inr 407)), (1, .inl v1)], [], M)
    replace c4 := Int.not_le.mp c4
    replace h := h.2 c4
    exact mm_s1 rfl ⟨rfl, L, N, h⟩
def nf_M_isColumn  (M : mm_M) : Int := (if (nn_rf M 407 7) ≠ 0 then 0 else (if (nn_rf M 407 5) ≠ 1 then 0 else (if (mm_lcmp (nn_rf M 407 9) 1) < 0 then 0 else (if 0 < (mm_lcmp (nn_rf M 407 9) 4) then 0 else 1))))
theorem nz_M_isColumn  (M : mm_M) : nf_M_isColumn M = 0 ∨ nf_M_isColumn M = 1 := by
  unfold nf_M_isColumn
  repeat' split
  all_goals first | exact Or.inl rfl | exact Or.inr rfl
set_option maxRecDepth 20000 in
theorem np_M_isColumn  {M : mm_M} {n d : Nat} {P : mm_P} (hd : 1 ≤ d) (L : nn_L M) (N : M.1 = n)  (h : P (some (.inl (nf_M_isColumn M))) M) : mm_run d mi_M_isColumn [.inr (.inr 407)] M P := by
  have NN := nn_L_n L N
  unfold nf_M_isColumn at h
  refine nn_run_le hd ?_
  show mm_Go (mm_run 0) mc_M_isColumn _ (0, [(0, .inr (.inr 407))], [], M)
  refine mm_s1 rfl ?_
  refine mm_s1 rfl ⟨(nn_c407 NN).1, ?_⟩
  show mm_Go (mm_run 0) mc_M_isColumn _ (4, [(0, .inr (.inr 407))], [.inl (nn_rf M 407 7)], M)
  refine mm_s1 rfl ⟨fun c4 => ?_, fun c4 => ?_⟩
  · show mm_Go (mm_run 0) mc_M_isColumn _ (39, [(0, .inr (.inr 407))], [], M)
    rw [if_pos (show (nn_rf M 407 7) ≠ 0 from c4)] at h
    refine mm_s1 rfl ?_
    exact mm_s1 rfl ⟨(Or.inl rfl), h⟩
  · show mm_Go (mm_run 0) mc_M_isColumn _ (7, [(0, .inr (.inr 407))], [], M)
    rw [if_neg (show ¬ ((nn_rf M 407 7) ≠ 0) from c4)] at h
    replace c4 := Decidable.not_not.mp c4
    refine mm_s1 rfl ?_
    refine mm_s1 rfl ⟨(nn_c407 NN).1, ?_⟩
    show mm_Go (mm_run 0) mc_M_isColumn _ (11, [(0, .inr (.inr 407))], [.inl (nn_rf M 407 5)], M)
    refine mm_s1 rfl ?_
    refine mm_s1 rfl ⟨fun c12 => ?_, fun c12 => ?_⟩
    · show mm_Go (mm_run 0) mc_M_isColumn _ (39, [(0, .inr (.inr 407))], [], M)
      rw [if_pos (show (nn_rf M 407 5) ≠ 1 from c12)] at h
      refine mm_s1 rfl ?_
      exact mm_s1 rfl ⟨(Or.inl rfl), h⟩
    · show mm_Go (mm_run 0) mc_M_isColumn _ (15, [(0, .inr (.inr 407))], [], M)
      rw [if_neg (show ¬ ((nn_rf M 407 5) ≠ 1) from c12)] at h
      replace c12 := Decidable.not_not.mp c12
      refine mm_s1 rfl ?_
      refine mm_s1 rfl ⟨(nn_c407 NN).1, ?_⟩
      show mm_Go (mm_run 0) mc_M_isColumn _ (19, [(0, .inr (.inr 407))], [.inr (.inl (nn_rf M 407 9))], M)
      refine mm_s1 rfl ?_
      refine mm_s1 rfl ?_
      refine mm_s1 rfl ⟨fun c21 => ?_, fun c21 => ?_⟩
      · show mm_Go (mm_run 0) mc_M_isColumn _ (39, [(0, .inr (.inr 407))], [], M)
        rw [if_pos (show (mm_lcmp (nn_rf M 407 9) 1) < 0 from c21)] at h
        refine mm_s1 rfl ?_
        exact mm_s1 rfl ⟨(Or.inl rfl), h⟩
      · show mm_Go (mm_run 0) mc_M_isColumn _ (24, [(0, .inr (.inr 407))], [], M)
        rw [if_neg (show ¬ ((mm_lcmp (nn_rf M 407 9) 1) < 0) from c21)] at h
        replace c21 := Int.not_lt.mp c21
        refine mm_s1 rfl ?_
        refine mm_s1 rfl ⟨(nn_c407 NN).1, ?_⟩
        show mm_Go (mm_run 0) mc_M_isColumn _ (28, [(0, .inr (.inr 407))], [.inr (.inl (nn_rf M 407 9))], M)
        refine mm_s1 rfl ?_
        refine mm_s1 rfl ?_
        refine mm_s1 rfl ⟨fun c32 => ?_, fun c32 => ?_⟩
        · show mm_Go (mm_run 0) mc_M_isColumn _ (39, [(0, .inr (.inr 407))], [], M)
          rw [if_pos (show 0 < (mm_lcmp (nn_rf M 407 9) 4) from c32)] at h
          refine mm_s1 rfl ?_
          exact mm_s1 rfl ⟨(Or.inl rfl), h⟩
        · show mm_Go (mm_run 0) mc_M_isColumn _ (35, [(0, .inr (.inr 407))], [], M)
          rw [if_neg (show ¬ (0 < (mm_lcmp (nn_rf M 407 9) 4)) from c32)] at h
          replace c32 := Int.not_lt.mp c32
          refine mm_s1 rfl ?_
          refine mm_s1 rfl ?_
          show mm_Go (mm_run 0) mc_M_isColumn _ (40, [(0, .inr (.inr 407))], [.inl 1], M)
          exact mm_s1 rfl ⟨(Or.inr rfl), h⟩
def nf_M_isSign (v1 : Int) (M : mm_M) : Int := (if (nn_rf M 407 7) ≠ 0 then 0 else (if (nn_rf M 407 5) ≠ 3 then 0 else (if (mm_lcmp (nn_rf M 407 9) v1) ≠ 0 then 0 else 1)))
theorem nz_M_isSign (v1 : Int) (M : mm_M) : nf_M_isSign v1 M = 0 ∨ nf_M_isSign v1 M = 1 := by
  unfold nf_M_isSign
  repeat' split
  all_goals first | exact Or.inl rfl | exact Or.inr rfl
set_option maxRecDepth 20000 in
theorem np_M_isSign {v1 : Int} {M : mm_M} {n d : Nat} {P : mm_P} (hd : 1 ≤ d) (L : nn_L M) (N : M.1 = n)  (h : P (some (.inl (nf_M_isSign v1 M))) M) : mm_run d mi_M_isSign [.inr (.inr 407), .inl v1] M P := by
  have NN := nn_L_n L N
  unfold nf_M_isSign at h
  refine nn_run_le hd ?_
  show mm_Go (mm_run 0) mc_M_isSign _ (0, [(0, .inr (.inr 407)), (1, .inl v1)], [], M)
  refine mm_s1 rfl ?_
  refine mm_s1 rfl ⟨(nn_c407 NN).1, ?_⟩
  show mm_Go (mm_run 0) mc_M_isSign _ (4, [(0, .inr (.inr 407)), (1, .inl v1)], [.inl (nn_rf M 407 7)], M)
  refine mm_s1 rfl ⟨fun c4 => ?_, fun c4 => ?_⟩
  · show mm_Go (mm_run 0) mc_M_isSign _ (29, [(0, .inr (.inr 407)), (1, .inl v1)], [], M)
    rw [if_pos (show (nn_rf M 407 7) ≠ 0 from c4)] at h
    refine mm_s1 rfl ?_
    exact mm_s1 rfl ⟨(Or.inl rfl), h⟩
  · show mm_Go (mm_run 0) mc_M_isSign _ (7, [(0, .inr (.inr 407)), (1, .inl v1)], [], M)
    rw [if_neg (show ¬ ((nn_rf M 407 7) ≠ 0) from c4)] at h
    replace c4 := Decidable.not_not.mp c4
    refine mm_s1 rfl ?_
    refine mm_s1 rfl ⟨(nn_c407 NN).1, ?_⟩
    show mm_Go (mm_run 0) mc_M_isSign _ (11, [(0, .inr (.inr 407)), (1, .inl v1)], [.inl (nn_rf M 407 5)], M)
    refine mm_s1 rfl ?_
    refine mm_s1 rfl ⟨fun c12 => ?_, fun c12 => ?_⟩
    · show mm_Go (mm_run 0) mc_M_isSign _ (29, [(0, .inr (.inr 407)), (1, .inl v1)], [], M)
      rw [if_pos (show (nn_rf M 407 5) ≠ 3 from c12)] at h
      refine mm_s1 rfl ?_
      exact mm_s1 rfl ⟨(Or.inl rfl), h⟩
    · show mm_Go (mm_run 0) mc_M_isSign _ (15, [(0, .inr (.inr 407)), (1, .inl v1)], [], M)
      rw [if_neg (show ¬ ((nn_rf M 407 5) ≠ 3) from c12)] at h
      replace c12 := Decidable.not_not.mp c12
      refine mm_s1 rfl ?_
      refine mm_s1 rfl ⟨(nn_c407 NN).1, ?_⟩
      show mm_Go (mm_run 0) mc_M_isSign _ (19, [(0, .inr (.inr 407)), (1, .inl v1)], [.inr (.inl (nn_rf M 407 9))], M)
      refine mm_s1 rfl ?_
      refine mm_s1 rfl ?_
      refine mm_s1 rfl ?_
      refine mm_s1 rfl ⟨fun c22 => ?_, fun c22 => ?_⟩
      · show mm_Go (mm_run 0) mc_M_isSign _ (29, [(0, .inr (.inr 407)), (1, .inl v1)], [], M)
        rw [if_pos (show (mm_lcmp (nn_rf M 407 9) v1) ≠ 0 from c22)] at h
        refine mm_s1 rfl ?_
        exact mm_s1 rfl ⟨(Or.inl rfl), h⟩
      · show mm_Go (mm_run 0) mc_M_isSign _ (25, [(0, .inr (.inr 407)), (1, .inl v1)], [], M)
        rw [if_neg (show ¬ ((mm_lcmp (nn_rf M 407 9) v1) ≠ 0) from c22)] at h
        replace c22 := Decidable.not_not.mp c22
        refine mm_s1 rfl ?_
        refine mm_s1 rfl ?_
        show mm_Go (mm_run 0) mc_M_isSign _ (30, [(0, .inr (.inr 407)), (1, .inl v1)], [.inl 1], M)
        exact mm_s1 rfl ⟨(Or.inr rfl), h⟩
def nf_M_fault (v1 : Int) (M : mm_M) : Int := (if v1 ≠ 0 then (if v1 ≠ 1 then (-1) else nn_ri M 408 22) else nn_ri M 408 21)
set_option maxRecDepth 20000 in
theorem np_M_fault {v1 : Int} {M : mm_M} {n d : Nat} {P : mm_P} (hd : 1 ≤ d) (L : nn_L M) (N : M.1 = n)  (h : P (some (.inl (nf_M_fault v1 M))) M) : mm_run d mi_M_fault [.inr (.inr 407), .inl v1] M P := by
  have NN := nn_L_n L N
  unfold nf_M_fault at h
  refine nn_run_le hd ?_
  show mm_Go (mm_run 0) mc_M_fault _ (0, [(0, .inr (.inr 407)), (1, .inl v1)], [], M)
  refine mm_s1 rfl ?_
  refine mm_s1 rfl ⟨fun c1 => ?_, fun c1 => ?_⟩
  · show mm_Go (mm_run 0) mc_M_fault _ (14, [(0, .inr (.inr 407)), (1, .inl v1)], [], M)
    rw [if_pos (show v1 ≠ 0 from c1)] at h
    refine mm_s1 rfl ?_
    refine mm_s1 rfl ?_
    refine mm_s1 rfl ⟨fun c16 => ?_, fun c16 => ?_⟩
    · show mm_Go (mm_run 0) mc_M_fault _ (29, [(0, .inr (.inr 407)), (1, .inl v1)], [], M)
      rw [if_pos (show v1 ≠ 1 from c16)] at h
      refine mm_s1 rfl ?_
      exact mm_s1 rfl h
    · show mm_Go (mm_run 0) mc_M_fault _ (19, [(0, .inr (.inr 407)), (1, .inl v1)], [], M)
      rw [if_neg (show ¬ (v1 ≠ 1) from c16)] at h
      replace c16 := Decidable.not_not.mp c16
      refine mm_s1 rfl ?_
      refine nn_getr rfl (nn_c407 NN).1 (lf_13_0 L N (nn_c407 NN)) ?_
      refine mm_s1 rfl ?_
      refine mm_s1 rfl ⟨nn_bd (na_13_0 NN (nn_c407 NN)) (by decide), ?_⟩
      show mm_Go (mm_run 0) mc_M_fault _ (26, [(0, .inr (.inr 407)), (1, .inl v1)], [.inl (nn_ri M 408 22)], M)
      refine mm_s1 rfl ?_
      show mm_Go (mm_run 0) mc_M_fault _ (30, [(0, .inr (.inr 407)), (1, .inl v1)], [.inl (nn_ri M 408 22)], M)
      exact mm_s1 rfl h
  · show mm_Go (mm_run 0) mc_M_fault _ (4, [(0, .inr (.inr 407)), (1, .inl v1)], [], M)
    rw [if_neg (show ¬ (v1 ≠ 0) from c1)] at h
    replace c1 := Decidable.not_not.mp c1
    refine mm_s1 rfl ?_
    refine nn_getr rfl (nn_c407 NN).1 (lf_13_0 L N (nn_c407 NN)) ?_
    refine mm_s1 rfl ?_
    refine mm_s1 rfl ⟨nn_bd (na_13_0 NN (nn_c407 NN)) (by decide), ?_⟩
    show mm_Go (mm_run 0) mc_M_fault _ (11, [(0, .inr (.inr 407)), (1, .inl v1)], [.inl (nn_ri M 408 21)], M)
    refine mm_s1 rfl ?_
    show mm_Go (mm_run 0) mc_M_fault _ (30, [(0, .inr (.inr 407)), (1, .inl v1)], [.inl (nn_ri M 408 21)], M)
    exact mm_s1 rfl h
def nr_M_feed (v1 : Int) (v2 : Int) (v3 : Int) (v4 : Int) (v5 : Int) (M : mm_M) (R : Int → mm_M → Prop) : Prop := ∀ n, nn_L M → M.1 = n → mm_run 1 mi_M_feed [.inr (.inr 407), .inl v1, .inl v2, .inl v3, .inl v4, .inl v5] M (nw_I n R)
def nk_M_feed_21 (v1 : Int) (v2 : Int) (v3 : Int) (v4 : Int) (v5 : Int) (v6 : Int) (M : mm_M) (R : Int → mm_M → Prop) : Prop := ∀ n, nn_L M → M.1 = n → mm_Go (mm_run 0) mc_M_feed (nw_I n R) (21, [(0, .inr (.inr 407)), (1, .inl v1), (2, .inl v2), (3, .inl v3), (4, .inl v4), (5, .inl v5), (6, .inl v6)], [], M)
set_option maxRecDepth 20000 in
theorem ng_M_feed (v1 : Int) (v2 : Int) (v3 : Int) (v4 : Int) (v5 : Int) (M : mm_M) (R : Int → mm_M → Prop) (h : (((mm_w ((nn_ri M 408 20) + 20)) ≤ 200 → nk_M_feed_21 v1 v2 v3 v4 v5 0 M R) ∧ (200 < (mm_w ((nn_ri M 408 20) + 20)) → R (-1) M))) : nr_M_feed v1 v2 v3 v4 v5 M R := by
  intro n L N 
  have NN := nn_L_n L N
  show mm_Go (mm_run 0) mc_M_feed _ (0, [(0, .inr (.inr 407)), (1, .inl v1), (2, .inl v2), (3, .inl v3), (4, .inl v4), (5, .inl v5)], [], M)
  refine mm_s1 rfl ?_
  refine nn_getr rfl (nn_c407 NN).1 (lf_13_0 L N (nn_c407 NN)) ?_
  refine mm_s1 rfl ?_
  refine mm_s1 rfl ⟨nn_bd (na_13_0 NN (nn_c407 NN)) (by decide), ?_⟩
  show mm_Go (mm_run 0) mc_M_feed _ (7, [(0, .inr (.inr 407)), (1, .inl v1), (2, .inl v2), (3, .inl v3), (4, .inl v4), (5, .inl v5)], [.inl (nn_ri M 408 20)], M)
  refine mm_s1 rfl ?_
  refine mm_s1 rfl ?_
  refine mm_s1 rfl ?_
  refine mm_s1 rfl ⟨fun c13 => ?_, fun c13 => ?_⟩
  · show mm_Go (mm_run 0) mc_M_feed _ (18, [(0, .inr (.inr 407)), (1, .inl v1), (2, .inl v2), (3, .inl v3), (4, .inl v4), (5, .inl v5)], [], M)
    replace h := h.1 c13
    refine mm_s1 rfl ?_
    refine mm_s1 rfl ?_
    show mm_Go (mm_run 0) mc_M_feed _ (21, [(0, .inr (.inr 407)), (1, .inl v1), (2, .inl v2), (3, .inl v3), (4, .inl v4), (5, .inl v5), (6, .inl 0)], [], M)
    exact nn_go_ext (nn_xc rfl (nn_xc rfl (nn_xc rfl (nn_xc rfl (nn_xc rfl (nn_xc rfl (nn_xc rfl nn_xn))))))) (h n L N)
  · show mm_Go (mm_run 0) mc_M_feed _ (16, [(0, .inr (.inr 407)), (1, .inl v1), (2, .inl v2), (3, .inl v3), (4, .inl v4), (5, .inl v5)], [], M)
    replace c13 := Int.not_le.mp c13
    replace h := h.2 c13
    refine mm_s1 rfl ?_
    exact mm_s1 rfl ⟨_, rfl, L, N, h⟩
set_option maxRecDepth 20000 in
theorem ng_M_feed_21 (v1 : Int) (v2 : Int) (v3 : Int) (v4 : Int) (v5 : Int) (v6 : Int) (M : mm_M) (R : Int → mm_M → Prop) (h : ((20 ≤ v6 → (∀ M128 : mm_M, M128 = nn_ui M 408 20 (mm_w ((nn_ri M 408 20) + 20)) → R (nn_ri M128 408 20) M128)) ∧ (v6 < 20 → ((4 ≤ v6 → ((8 ≤ v6 → ((12 ≤ v6 → ((16 ≤ v6 → (((0 : Int) ≤ (mm_w ((mm_w (88 + (nn_ri M 408 20))) + v6)) ∧ (mm_w ((mm_w (88 + (nn_ri M 408 20))) + v6)) < (32844 : Int)) ∧ (∀ M110 : mm_M, M110 = nn_ui M 408 (mm_w ((mm_w (88 + (nn_ri M 408 20))) + v6)) (mm_and (mm_shr v5 (mm_w (24 - (mm_w (8 * (mm_and v6 3)))))) 255) → nk_M_feed_21 v1 v2 v3 v4 v5 (mm_w (v6 + 1)) M110 R))) ∧ (v6 < 16 → (((0 : Int) ≤ (mm_w ((mm_w (88 + (nn_ri M 408 20))) + v6)) ∧ (mm_w ((mm_w (88 + (nn_ri M 408 20))) + v6)) < (32844 : Int)) ∧ (∀ M110 : mm_M, M110 = nn_ui M 408 (mm_w ((mm_w (88 + (nn_ri M 408 20))) + v6)) (mm_and (mm_shr v4 (mm_w (24 - (mm_w (8 * (mm_and v6 3)))))) 255) → nk_M_feed_21 v1 v2 v3 v4 v5 (mm_w (v6 + 1)) M110 R))))) ∧ (v6 < 12 → (((0 : Int) ≤ (mm_w ((mm_w (88 + (nn_ri M 408 20))) + v6)) ∧ (mm_w ((mm_w (88 + (nn_ri M 408 20))) + v6)) < (32844 : Int)) ∧ (∀ M110 : mm_M, M110 = nn_ui M 408 (mm_w ((mm_w (88 + (nn_ri M 408 20))) + v6)) (mm_and (mm_shr v3 (mm_w (24 - (mm_w (8 * (mm_and v6 3)))))) 255) → nk_M_feed_21 v1 v2 v3 v4 v5 (mm_w (v6 + 1)) M110 R))))) ∧ (v6 < 8 → (((0 : Int) ≤ (mm_w ((mm_w (88 + (nn_ri M 408 20))) + v6)) ∧ (mm_w ((mm_w (88 + (nn_ri M 408 20))) + v6)) < (32844 : Int)) ∧ (∀ M110 : mm_M, M110 = nn_ui M 408 (mm_w ((mm_w (88 + (nn_ri M 408 20))) + v6)) (mm_and (mm_shr v2 (mm_w (24 - (mm_w (8 * (mm_and v6 3)))))) 255) → nk_M_feed_21 v1 v2 v3 v4 v5 (mm_w (v6 + 1)) M110 R))))) ∧ (v6 < 4 → (((0 : Int) ≤ (mm_w ((mm_w (88 + (nn_ri M 408 20))) + v6)) ∧ (mm_w ((mm_w (88 + (nn_ri M 408 20))) + v6)) < (32844 : Int)) ∧ (∀ M110 : mm_M, M110 = nn_ui M 408 (mm_w ((mm_w (88 + (nn_ri M 408 20))) + v6)) (mm_and (mm_shr v1 (mm_w (24 - (mm_w (8 * (mm_and v6 3)))))) 255) → nk_M_feed_21 v1 v2 v3 v4 v5 (mm_w (v6 + 1)) M110 R))))))) : nk_M_feed_21 v1 v2 v3 v4 v5 v6 M R := by
  intro n L N 
  have NN := nn_L_n L N
  show mm_Go (mm_run 0) mc_M_feed _ (21, [(0, .inr (.inr 407)), (1, .inl v1), (2, .inl v2), (3, .inl v3), (4, .inl v4), (5, .inl v5), (6, .inl v6)], [], M)
  refine mm_s1 rfl ?_
  refine mm_s1 rfl ?_
  refine mm_s1 rfl ⟨fun c25 => ?_, fun c25 => ?_⟩
  · show mm_Go (mm_run 0) mc_M_feed _ (117, [(0, .inr (.inr 407)), (1, .inl v1), (2, .inl v2), (3, .inl v3), (4, .inl v4), (5, .inl v5), (6, .inl v6)], [], M)
    replace h := h.1 c25
    refine mm_s1 rfl ?_
    refine nn_getr rfl (nn_c407 NN).1 (lf_13_0 L N (nn_c407 NN)) ?_
    refine mm_s1 rfl ?_
    refine mm_s1 rfl ?_
    refine mm_s1 rfl ⟨nn_bd (na_13_0 NN (nn_c407 NN)) (by decide), ?_⟩
    show mm_Go (mm_run 0) mc_M_feed _ (125, [(0, .inr (.inr 407)), (1, .inl v1), (2, .inl v2), (3, .inl v3), (4, .inl v4), (5, .inl v5), (6, .inl v6)], [.inl (nn_ri M 408 20), .inl 20, .inr (.inr 408)], M)
    refine mm_s1 rfl ?_
    refine mm_s1 rfl ?_
    refine mm_s1 rfl ⟨nn_bd (na_13_0 NN (nn_c407 NN)) (show (0 : Int) ≤ 20 ∧ (20 : Int) < 32844 by decide), ?_⟩
    show mm_Go (mm_run 0) mc_M_feed _ (129, [(0, .inr (.inr 407)), (1, .inl v1), (2, .inl v2), (3, .inl v3), (4, .inl v4), (5, .inl v5), (6, .inl v6)], [], (nn_ui M 408 20 (mm_w ((nn_ri M 408 20) + 20))))
    have L : nn_L (nn_ui M 408 20 (mm_w ((nn_ri M 408 20) + 20))) := nn_L_ua L (congrArg Prod.fst (na_13_0 NN (nn_c407 NN))) (by decide)
    have N : (nn_ui M 408 20 (mm_w ((nn_ri M 408 20) + 20))).1 = n := N
    generalize e_M128 : (nn_ui M 408 20 (mm_w ((nn_ri M 408 20) + 20))) = M128 at L N ⊢
    replace h := h _ e_M128.symm
    show mm_Go (mm_run 0) mc_M_feed _ (129, [(0, .inr (.inr 407)), (1, .inl v1), (2, .inl v2), (3, .inl v3), (4, .inl v4), (5, .inl v5), (6, .inl v6)], [], M128)
    refine mm_s1 rfl ?_
    refine nn_getr rfl (nn_c407 NN).1 (lf_13_0 L N (nn_c407 NN)) ?_
    refine mm_s1 rfl ?_
    refine mm_s1 rfl ⟨nn_bd (na_13_0 NN (nn_c407 NN)) (by decide), ?_⟩
    show mm_Go (mm_run 0) mc_M_feed _ (136, [(0, .inr (.inr 407)), (1, .inl v1), (2, .inl v2), (3, .inl v3), (4, .inl v4), (5, .inl v5), (6, .inl v6)], [.inl (nn_ri M128 408 20)], M128)
    exact mm_s1 rfl ⟨_, rfl, L, N, h⟩
  · show mm_Go (mm_run 0) mc_M_feed _ (28, [(0, .inr (.inr 407)), (1, .inl v1), (2, .inl v2), (3, .inl v3), (4, .inl v4), (5, .inl v5), (6, .inl v6)], [], M)
    replace c25 := Int.not_le.mp c25
    replace h := h.2 c25
    refine mm_s1 rfl ?_
    refine mm_s1 rfl ?_
    refine mm_s1 rfl ⟨fun c31 => ?_, fun c31 => ?_⟩
    · show mm_Go (mm_run 0) mc_M_feed _ (38, [(0, .inr (.inr 407)), (1, .inl v1), (2, .inl v2), (3, .inl v3), (4, .inl v4), (5, .inl v5), (6, .inl v6)], [], M)
      replace h := h.1 c31
      refine mm_s1 rfl ?_
      refine mm_s1 rfl ?_
      refine mm_s1 rfl ⟨fun c42 => ?_, fun c42 => ?_⟩
      · show mm_Go (mm_run 0) mc_M_feed _ (49, [(0, .inr (.inr 407)), (1, .inl v1), (2, .inl v2), (3, .inl v3), (4, .inl v4), (5, .inl v5), (6, .inl v6)], [], M)
        replace h := h.1 c42
        refine mm_s1 rfl ?_
        refine mm_s1 rfl ?_
        refine mm_s1 rfl ⟨fun c53 => ?_, fun c53 => ?_⟩
        · show mm_Go (mm_run 0) mc_M_feed _ (60, [(0, .inr (.inr 407)), (1, .inl v1), (2, .inl v2), (3, .inl v3), (4, .inl v4), (5, .inl v5), (6, .inl v6)], [], M)
          replace h := h.1 c53
          refine mm_s1 rfl ?_
          refine mm_s1 rfl ?_
          refine mm_s1 rfl ⟨fun c64 => ?_, fun c64 => ?_⟩
          · show mm_Go (mm_run 0) mc_M_feed _ (72, [(0, .inr (.inr 407)), (1, .inl v1), (2, .inl v2), (3, .inl v3), (4, .inl v4), (5, .inl v5), (6, .inl v6)], [], M)
            replace h := h.1 c64
            refine mm_s1 rfl ?_
            refine mm_s1 rfl ?_
            show mm_Go (mm_run 0) mc_M_feed _ (76, [(0, .inr (.inr 407)), (1, .inl v1), (2, .inl v2), (3, .inl v3), (4, .inl v4), (5, .inl v5), (6, .inl v6), (7, .inl v5)], [], M)
            refine mm_s1 rfl ?_
            refine nn_getr rfl (nn_c407 NN).1 (lf_13_0 L N (nn_c407 NN)) ?_
            refine mm_s1 rfl ?_
            refine mm_s1 rfl ?_
            refine nn_getr rfl (nn_c407 NN).1 (lf_13_0 L N (nn_c407 NN)) ?_
            show mm_Go (mm_run 0) mc_M_feed _ (86, [(0, .inr (.inr 407)), (1, .inl v1), (2, .inl v2), (3, .inl v3), (4, .inl v4), (5, .inl v5), (6, .inl v6), (7, .inl v5)], [.inr (.inr 408), .inl 88, .inr (.inr 408)], M)
            refine mm_s1 rfl ?_
            refine mm_s1 rfl ⟨nn_bd (na_13_0 NN (nn_c407 NN)) (by decide), ?_⟩
            show mm_Go (mm_run 0) mc_M_feed _ (89, [(0, .inr (.inr 407)), (1, .inl v1), (2, .inl v2), (3, .inl v3), (4, .inl v4), (5, .inl v5), (6, .inl v6), (7, .inl v5)], [.inl (nn_ri M 408 20), .inl 88, .inr (.inr 408)], M)
            refine mm_s1 rfl ?_
            refine mm_s1 rfl ?_
            refine mm_s1 rfl ?_
            refine mm_s1 rfl ?_
            refine mm_s1 rfl ?_
            show mm_Go (mm_run 0) mc_M_feed _ (97, [(0, .inr (.inr 407)), (1, .inl v1), (2, .inl v2), (3, .inl v3), (4, .inl v4), (5, .inl v5), (6, .inl v6), (7, .inl v5)], [.inl 24, .inl v5, .inl (mm_w ((mm_w (88 + (nn_ri M 408 20))) + v6)), .inr (.inr 408)], M)
            refine mm_s1 rfl ?_
            refine mm_s1 rfl ?_
            refine mm_s1 rfl ?_
            refine mm_s1 rfl ?_
            refine mm_s1 rfl ?_
            show mm_Go (mm_run 0) mc_M_feed _ (104, [(0, .inr (.inr 407)), (1, .inl v1), (2, .inl v2), (3, .inl v3), (4, .inl v4), (5, .inl v5), (6, .inl v6), (7, .inl v5)], [.inl (mm_w (8 * (mm_and v6 3))), .inl 24, .inl v5, .inl (mm_w ((mm_w (88 + (nn_ri M 408 20))) + v6)), .inr (.inr 408)], M)
            refine mm_s1 rfl ?_
            refine mm_s1 rfl ?_
            refine mm_s1 rfl ?_
            refine mm_s1 rfl ?_
            obtain ⟨b110, h⟩ := h
            refine mm_s1 rfl ⟨nn_bd (na_13_0 NN (nn_c407 NN)) b110, ?_⟩
            show mm_Go (mm_run 0) mc_M_feed _ (111, [(0, .inr (.inr 407)), (1, .inl v1), (2, .inl v2), (3, .inl v3), (4, .inl v4), (5, .inl v5), (6, .inl v6), (7, .inl v5)], [], (nn_ui M 408 (mm_w ((mm_w (88 + (nn_ri M 408 20))) + v6)) (mm_and (mm_shr v5 (mm_w (24 - (mm_w (8 * (mm_and v6 3)))))) 255)))
            have L : nn_L (nn_ui M 408 (mm_w ((mm_w (88 + (nn_ri M 408 20))) + v6)) (mm_and (mm_shr v5 (mm_w (24 - (mm_w (8 * (mm_and v6 3)))))) 255)) := nn_L_ua L (congrArg Prod.fst (na_13_0 NN (nn_c407 NN))) (by decide)
            have N : (nn_ui M 408 (mm_w ((mm_w (88 + (nn_ri M 408 20))) + v6)) (mm_and (mm_shr v5 (mm_w (24 - (mm_w (8 * (mm_and v6 3)))))) 255)).1 = n := N
            generalize e_M110 : (nn_ui M 408 (mm_w ((mm_w (88 + (nn_ri M 408 20))) + v6)) (mm_and (mm_shr v5 (mm_w (24 - (mm_w (8 * (mm_and v6 3)))))) 255)) = M110 at L N ⊢
            replace h := h _ e_M110.symm
            show mm_Go (mm_run 0) mc_M_feed _ (111, [(0, .inr (.inr 407)), (1, .inl v1), (2, .inl v2), (3, .inl v3), (4, .inl v4), (5, .inl v5), (6, .inl v6), (7, .inl v5)], [], M110)
            refine mm_s1 rfl ?_
            show mm_Go (mm_run 0) mc_M_feed _ (114, [(0, .inr (.inr 407)), (1, .inl v1), (2, .inl v2), (3, .inl v3), (4, .inl v4), (5, .inl v5), (6, .inl (mm_w (v6 + 1))), (7, .inl v5)], [], M110)
            refine mm_s1 rfl ?_
            show mm_Go (mm_run 0) mc_M_feed _ (21, [(0, .inr (.inr 407)), (1, .inl v1), (2, .inl v2), (3, .inl v3), (4, .inl v4), (5, .inl v5), (6, .inl (mm_w (v6 + 1))), (7, .inl v5)], [], M110)
            exact nn_go_ext (nn_xc rfl (nn_xc rfl (nn_xc rfl (nn_xc rfl (nn_xc rfl (nn_xc rfl (nn_xc rfl nn_xn))))))) (h n L N)
          · show mm_Go (mm_run 0) mc_M_feed _ (67, [(0, .inr (.inr 407)), (1, .inl v1), (2, .inl v2), (3, .inl v3), (4, .inl v4), (5, .inl v5), (6, .inl v6)], [], M)
            replace c64 := Int.not_le.mp c64
            replace h := h.2 c64
            refine mm_s1 rfl ?_
            refine mm_s1 rfl ?_
            show mm_Go (mm_run 0) mc_M_feed _ (74, [(0, .inr (.inr 407)), (1, .inl v1), (2, .inl v2), (3, .inl v3), (4, .inl v4), (5, .inl v5), (6, .inl v6)], [.inl v4], M)
            refine mm_s1 rfl ?_
            show mm_Go (mm_run 0) mc_M_feed _ (76, [(0, .inr (.inr 407)), (1, .inl v1), (2, .inl v2), (3, .inl v3), (4, .inl v4), (5, .inl v5), (6, .inl v6), (7, .inl v4)], [], M)
            refine mm_s1 rfl ?_
            refine nn_getr rfl (nn_c407 NN).1 (lf_13_0 L N (nn_c407 NN)) ?_
            refine mm_s1 rfl ?_
            refine mm_s1 rfl ?_
            refine nn_getr rfl (nn_c407 NN).1 (lf_13_0 L N (nn_c407 NN)) ?_
            show mm_Go (mm_run 0) mc_M_feed _ (86, [(0, .inr (.inr 407)), (1, .inl v1), (2, .inl v2), (3, .inl v3), (4, .inl v4), (5, .inl v5), (6, .inl v6), (7, .inl v4)], [.inr (.inr 408), .inl 88, .inr (.inr 408)], M)
            refine mm_s1 rfl ?_
            refine mm_s1 rfl ⟨nn_bd (na_13_0 NN (nn_c407 NN)) (by decide), ?_⟩
            show mm_Go (mm_run 0) mc_M_feed _ (89, [(0, .inr (.inr 407)), (1, .inl v1), (2, .inl v2), (3, .inl v3), (4, .inl v4), (5, .inl v5), (6, .inl v6), (7, .inl v4)], [.inl (nn_ri M 408 20), .inl 88, .inr (.inr 408)], M)
            refine mm_s1 rfl ?_
            refine mm_s1 rfl ?_
            refine mm_s1 rfl ?_
            refine mm_s1 rfl ?_
            refine mm_s1 rfl ?_
            show mm_Go (mm_run 0) mc_M_feed _ (97, [(0, .inr (.inr 407)), (1, .inl v1), (2, .inl v2), (3, .inl v3), (4, .inl v4), (5, .inl v5), (6, .inl v6), (7, .inl v4)], [.inl 24, .inl v4, .inl (mm_w ((mm_w (88 + (nn_ri M 408 20))) + v6)), .inr (.inr 408)], M)
            refine mm_s1 rfl ?_
            refine mm_s1 rfl ?_
            refine mm_s1 rfl ?_
            refine mm_s1 rfl ?_
            refine mm_s1 rfl ?_
            show mm_Go (mm_run 0) mc_M_feed _ (104, [(0, .inr (.inr 407)), (1, .inl v1), (2, .inl v2), (3, .inl v3), (4, .inl v4), (5, .inl v5), (6, .inl v6), (7, .inl v4)], [.inl (mm_w (8 * (mm_and v6 3))), .inl 24, .inl v4, .inl (mm_w ((mm_w (88 + (nn_ri M 408 20))) + v6)), .inr (.inr 408)], M)
            refine mm_s1 rfl ?_
            refine mm_s1 rfl ?_
            refine mm_s1 rfl ?_
            refine mm_s1 rfl ?_
            obtain ⟨b110, h⟩ := h
            refine mm_s1 rfl ⟨nn_bd (na_13_0 NN (nn_c407 NN)) b110, ?_⟩
            show mm_Go (mm_run 0) mc_M_feed _ (111, [(0, .inr (.inr 407)), (1, .inl v1), (2, .inl v2), (3, .inl v3), (4, .inl v4), (5, .inl v5), (6, .inl v6), (7, .inl v4)], [], (nn_ui M 408 (mm_w ((mm_w (88 + (nn_ri M 408 20))) + v6)) (mm_and (mm_shr v4 (mm_w (24 - (mm_w (8 * (mm_and v6 3)))))) 255)))
            have L : nn_L (nn_ui M 408 (mm_w ((mm_w (88 + (nn_ri M 408 20))) + v6)) (mm_and (mm_shr v4 (mm_w (24 - (mm_w (8 * (mm_and v6 3)))))) 255)) := nn_L_ua L (congrArg Prod.fst (na_13_0 NN (nn_c407 NN))) (by decide)
            have N : (nn_ui M 408 (mm_w ((mm_w (88 + (nn_ri M 408 20))) + v6)) (mm_and (mm_shr v4 (mm_w (24 - (mm_w (8 * (mm_and v6 3)))))) 255)).1 = n := N
            generalize e_M110 : (nn_ui M 408 (mm_w ((mm_w (88 + (nn_ri M 408 20))) + v6)) (mm_and (mm_shr v4 (mm_w (24 - (mm_w (8 * (mm_and v6 3)))))) 255)) = M110 at L N ⊢
            replace h := h _ e_M110.symm
            show mm_Go (mm_run 0) mc_M_feed _ (111, [(0, .inr (.inr 407)), (1, .inl v1), (2, .inl v2), (3, .inl v3), (4, .inl v4), (5, .inl v5), (6, .inl v6), (7, .inl v4)], [], M110)
            refine mm_s1 rfl ?_
            show mm_Go (mm_run 0) mc_M_feed _ (114, [(0, .inr (.inr 407)), (1, .inl v1), (2, .inl v2), (3, .inl v3), (4, .inl v4), (5, .inl v5), (6, .inl (mm_w (v6 + 1))), (7, .inl v4)], [], M110)
            refine mm_s1 rfl ?_
            show mm_Go (mm_run 0) mc_M_feed _ (21, [(0, .inr (.inr 407)), (1, .inl v1), (2, .inl v2), (3, .inl v3), (4, .inl v4), (5, .inl v5), (6, .inl (mm_w (v6 + 1))), (7, .inl v4)], [], M110)
            exact nn_go_ext (nn_xc rfl (nn_xc rfl (nn_xc rfl (nn_xc rfl (nn_xc rfl (nn_xc rfl (nn_xc rfl nn_xn))))))) (h n L N)
        · show mm_Go (mm_run 0) mc_M_feed _ (56, [(0, .inr (.inr 407)), (1, .inl v1), (2, .inl v2), (3, .inl v3), (4, .inl v4), (5, .inl v5), (6, .inl v6)], [], M)
          replace c53 := Int.not_le.mp c53
          replace h := h.2 c53
          refine mm_s1 rfl ?_
          refine mm_s1 rfl ?_
          show mm_Go (mm_run 0) mc_M_feed _ (74, [(0, .inr (.inr 407)), (1, .inl v1), (2, .inl v2), (3, .inl v3), (4, .inl v4), (5, .inl v5), (6, .inl v6)], [.inl v3], M)
          refine mm_s1 rfl ?_
          show mm_Go (mm_run 0) mc_M_feed _ (76, [(0, .inr (.inr 407)), (1, .inl v1), (2, .inl v2), (3, .inl v3), (4, .inl v4), (5, .inl v5), (6, .inl v6), (7, .inl v3)], [], M)
          refine mm_s1 rfl ?_
          refine nn_getr rfl (nn_c407 NN).1 (lf_13_0 L N (nn_c407 NN)) ?_
          refine mm_s1 rfl ?_
          refine mm_s1 rfl ?_
          refine nn_getr rfl (nn_c407 NN).1 (lf_13_0 L N (nn_c407 NN)) ?_
          show mm_Go (mm_run 0) mc_M_feed _ (86, [(0, .inr (.inr 407)), (1, .inl v1), (2, .inl v2), (3, .inl v3), (4, .inl v4), (5, .inl v5), (6, .inl v6), (7, .inl v3)], [.inr (.inr 408), .inl 88, .inr (.inr 408)], M)
          refine mm_s1 rfl ?_
          refine mm_s1 rfl ⟨nn_bd (na_13_0 NN (nn_c407 NN)) (by decide), ?_⟩
          show mm_Go (mm_run 0) mc_M_feed _ (89, [(0, .inr (.inr 407)), (1, .inl v1), (2, .inl v2), (3, .inl v3), (4, .inl v4), (5, .inl v5), (6, .inl v6), (7, .inl v3)], [.inl (nn_ri M 408 20), .inl 88, .inr (.inr 408)], M)
          refine mm_s1 rfl ?_
          refine mm_s1 rfl ?_
          refine mm_s1 rfl ?_
          refine mm_s1 rfl ?_
          refine mm_s1 rfl ?_
          show mm_Go (mm_run 0) mc_M_feed _ (97, [(0, .inr (.inr 407)), (1, .inl v1), (2, .inl v2), (3, .inl v3), (4, .inl v4), (5, .inl v5), (6, .inl v6), (7, .inl v3)], [.inl 24, .inl v3, .inl (mm_w ((mm_w (88 + (nn_ri M 408 20))) + v6)), .inr (.inr 408)], M)
          refine mm_s1 rfl ?_
          refine mm_s1 rfl ?_
          refine mm_s1 rfl ?_
          refine mm_s1 rfl ?_
          refine mm_s1 rfl ?_
          show mm_Go (mm_run 0) mc_M_feed _ (104, [(0, .inr (.inr 407)), (1, .inl v1), (2, .inl v2), (3, .inl v3), (4, .inl v4), (5, .inl v5), (6, .inl v6), (7, .inl v3)], [.inl (mm_w (8 * (mm_and v6 3))), .inl 24, .inl v3, .inl (mm_w ((mm_w (88 + (nn_ri M 408 20))) + v6)), .inr (.inr 408)], M)
          refine mm_s1 rfl ?_
          refine mm_s1 rfl ?_
          refine mm_s1 rfl ?_
          refine mm_s1 rfl ?_
          obtain ⟨b110, h⟩ := h
          refine mm_s1 rfl ⟨nn_bd (na_13_0 NN (nn_c407 NN)) b110, ?_⟩
          show mm_Go (mm_run 0) mc_M_feed _ (111, [(0, .inr (.inr 407)), (1, .inl v1), (2, .inl v2), (3, .inl v3), (4, .inl v4), (5, .inl v5), (6, .inl v6), (7, .inl v3)], [], (nn_ui M 408 (mm_w ((mm_w (88 + (nn_ri M 408 20))) + v6)) (mm_and (mm_shr v3 (mm_w (24 - (mm_w (8 * (mm_and v6 3)))))) 255)))
          have L : nn_L (nn_ui M 408 (mm_w ((mm_w (88 + (nn_ri M 408 20))) + v6)) (mm_and (mm_shr v3 (mm_w (24 - (mm_w (8 * (mm_and v6 3)))))) 255)) := nn_L_ua L (congrArg Prod.fst (na_13_0 NN (nn_c407 NN))) (by decide)
          have N : (nn_ui M 408 (mm_w ((mm_w (88 + (nn_ri M 408 20))) + v6)) (mm_and (mm_shr v3 (mm_w (24 - (mm_w (8 * (mm_and v6 3)))))) 255)).1 = n := N
          generalize e_M110 : (nn_ui M 408 (mm_w ((mm_w (88 + (nn_ri M 408 20))) + v6)) (mm_and (mm_shr v3 (mm_w (24 - (mm_w (8 * (mm_and v6 3)))))) 255)) = M110 at L N ⊢
          replace h := h _ e_M110.symm
          show mm_Go (mm_run 0) mc_M_feed _ (111, [(0, .inr (.inr 407)), (1, .inl v1), (2, .inl v2), (3, .inl v3), (4, .inl v4), (5, .inl v5), (6, .inl v6), (7, .inl v3)], [], M110)
          refine mm_s1 rfl ?_
          show mm_Go (mm_run 0) mc_M_feed _ (114, [(0, .inr (.inr 407)), (1, .inl v1), (2, .inl v2), (3, .inl v3), (4, .inl v4), (5, .inl v5), (6, .inl (mm_w (v6 + 1))), (7, .inl v3)], [], M110)
          refine mm_s1 rfl ?_
          show mm_Go (mm_run 0) mc_M_feed _ (21, [(0, .inr (.inr 407)), (1, .inl v1), (2, .inl v2), (3, .inl v3), (4, .inl v4), (5, .inl v5), (6, .inl (mm_w (v6 + 1))), (7, .inl v3)], [], M110)
          exact nn_go_ext (nn_xc rfl (nn_xc rfl (nn_xc rfl (nn_xc rfl (nn_xc rfl (nn_xc rfl (nn_xc rfl nn_xn))))))) (h n L N)
      · show mm_Go (mm_run 0) mc_M_feed _ (45, [(0, .inr (.inr 407)), (1, .inl v1), (2, .inl v2), (3, .inl v3), (4, .inl v4), (5, .inl v5), (6, .inl v6)], [], M)
        replace c42 := Int.not_le.mp c42
        replace h := h.2 c42
        refine mm_s1 rfl ?_
        refine mm_s1 rfl ?_
        show mm_Go (mm_run 0) mc_M_feed _ (74, [(0, .inr (.inr 407)), (1, .inl v1), (2, .inl v2), (3, .inl v3), (4, .inl v4), (5, .inl v5), (6, .inl v6)], [.inl v2], M)
        refine mm_s1 rfl ?_
        show mm_Go (mm_run 0) mc_M_feed _ (76, [(0, .inr (.inr 407)), (1, .inl v1), (2, .inl v2), (3, .inl v3), (4, .inl v4), (5, .inl v5), (6, .inl v6), (7, .inl v2)], [], M)
        refine mm_s1 rfl ?_
        refine nn_getr rfl (nn_c407 NN).1 (lf_13_0 L N (nn_c407 NN)) ?_
        refine mm_s1 rfl ?_
        refine mm_s1 rfl ?_
        refine nn_getr rfl (nn_c407 NN).1 (lf_13_0 L N (nn_c407 NN)) ?_
        show mm_Go (mm_run 0) mc_M_feed _ (86, [(0, .inr (.inr 407)), (1, .inl v1), (2, .inl v2), (3, .inl v3), (4, .inl v4), (5, .inl v5), (6, .inl v6), (7, .inl v2)], [.inr (.inr 408), .inl 88, .inr (.inr 408)], M)
        refine mm_s1 rfl ?_
        refine mm_s1 rfl ⟨nn_bd (na_13_0 NN (nn_c407 NN)) (by decide), ?_⟩
        show mm_Go (mm_run 0) mc_M_feed _ (89, [(0, .inr (.inr 407)), (1, .inl v1), (2, .inl v2), (3, .inl v3), (4, .inl v4), (5, .inl v5), (6, .inl v6), (7, .inl v2)], [.inl (nn_ri M 408 20), .inl 88, .inr (.inr 408)], M)
        refine mm_s1 rfl ?_
        refine mm_s1 rfl ?_
        refine mm_s1 rfl ?_
        refine mm_s1 rfl ?_
        refine mm_s1 rfl ?_
        show mm_Go (mm_run 0) mc_M_feed _ (97, [(0, .inr (.inr 407)), (1, .inl v1), (2, .inl v2), (3, .inl v3), (4, .inl v4), (5, .inl v5), (6, .inl v6), (7, .inl v2)], [.inl 24, .inl v2, .inl (mm_w ((mm_w (88 + (nn_ri M 408 20))) + v6)), .inr (.inr 408)], M)
        refine mm_s1 rfl ?_
        refine mm_s1 rfl ?_
        refine mm_s1 rfl ?_
        refine mm_s1 rfl ?_
        refine mm_s1 rfl ?_
        show mm_Go (mm_run 0) mc_M_feed _ (104, [(0, .inr (.inr 407)), (1, .inl v1), (2, .inl v2), (3, .inl v3), (4, .inl v4), (5, .inl v5), (6, .inl v6), (7, .inl v2)], [.inl (mm_w (8 * (mm_and v6 3))), .inl 24, .inl v2, .inl (mm_w ((mm_w (88 + (nn_ri M 408 20))) + v6)), .inr (.inr 408)], M)
        refine mm_s1 rfl ?_
        refine mm_s1 rfl ?_
        refine mm_s1 rfl ?_
        refine mm_s1 rfl ?_
        obtain ⟨b110, h⟩ := h
        refine mm_s1 rfl ⟨nn_bd (na_13_0 NN (nn_c407 NN)) b110, ?_⟩
        show mm_Go (mm_run 0) mc_M_feed _ (111, [(0, .inr (.inr 407)), (1, .inl v1), (2, .inl v2), (3, .inl v3), (4, .inl v4), (5, .inl v5), (6, .inl v6), (7, .inl v2)], [], (nn_ui M 408 (mm_w ((mm_w (88 + (nn_ri M 408 20))) + v6)) (mm_and (mm_shr v2 (mm_w (24 - (mm_w (8 * (mm_and v6 3)))))) 255)))
        have L : nn_L (nn_ui M 408 (mm_w ((mm_w (88 + (nn_ri M 408 20))) + v6)) (mm_and (mm_shr v2 (mm_w (24 - (mm_w (8 * (mm_and v6 3)))))) 255)) := nn_L_ua L (congrArg Prod.fst (na_13_0 NN (nn_c407 NN))) (by decide)
        have N : (nn_ui M 408 (mm_w ((mm_w (88 + (nn_ri M 408 20))) + v6)) (mm_and (mm_shr v2 (mm_w (24 - (mm_w (8 * (mm_and v6 3)))))) 255)).1 = n := N
        generalize e_M110 : (nn_ui M 408 (mm_w ((mm_w (88 + (nn_ri M 408 20))) + v6)) (mm_and (mm_shr v2 (mm_w (24 - (mm_w (8 * (mm_and v6 3)))))) 255)) = M110 at L N ⊢
        replace h := h _ e_M110.symm
        show mm_Go (mm_run 0) mc_M_feed _ (111, [(0, .inr (.inr 407)), (1, .inl v1), (2, .inl v2), (3, .inl v3), (4, .inl v4), (5, .inl v5), (6, .inl v6), (7, .inl v2)], [], M110)
        refine mm_s1 rfl ?_
        show mm_Go (mm_run 0) mc_M_feed _ (114, [(0, .inr (.inr 407)), (1, .inl v1), (2, .inl v2), (3, .inl v3), (4, .inl v4), (5, .inl v5), (6, .inl (mm_w (v6 + 1))), (7, .inl v2)], [], M110)
        refine mm_s1 rfl ?_
        show mm_Go (mm_run 0) mc_M_feed _ (21, [(0, .inr (.inr 407)), (1, .inl v1), (2, .inl v2), (3, .inl v3), (4, .inl v4), (5, .inl v5), (6, .inl (mm_w (v6 + 1))), (7, .inl v2)], [], M110)
        exact nn_go_ext (nn_xc rfl (nn_xc rfl (nn_xc rfl (nn_xc rfl (nn_xc rfl (nn_xc rfl (nn_xc rfl nn_xn))))))) (h n L N)
    · show mm_Go (mm_run 0) mc_M_feed _ (34, [(0, .inr (.inr 407)), (1, .inl v1), (2, .inl v2), (3, .inl v3), (4, .inl v4), (5, .inl v5), (6, .inl v6)], [], M)
      replace c31 := Int.not_le.mp c31
      replace h := h.2 c31
      refine mm_s1 rfl ?_
      refine mm_s1 rfl ?_
      show mm_Go (mm_run 0) mc_M_feed _ (74, [(0, .inr (.inr 407)), (1, .inl v1), (2, .inl v2), (3, .inl v3), (4, .inl v4), (5, .inl v5), (6, .inl v6)], [.inl v1], M)
      refine mm_s1 rfl ?_
      show mm_Go (mm_run 0) mc_M_feed _ (76, [(0, .inr (.inr 407)), (1, .inl v1), (2, .inl v2), (3, .inl v3), (4, .inl v4), (5, .inl v5), (6, .inl v6), (7, .inl v1)], [], M)
      refine mm_s1 rfl ?_
      refine nn_getr rfl (nn_c407 NN).1 (lf_13_0 L N (nn_c407 NN)) ?_
      refine mm_s1 rfl ?_
      refine mm_s1 rfl ?_
      refine nn_getr rfl (nn_c407 NN).1 (lf_13_0 L N (nn_c407 NN)) ?_
      show mm_Go (mm_run 0) mc_M_feed _ (86, [(0, .inr (.inr 407)), (1, .inl v1), (2, .inl v2), (3, .inl v3), (4, .inl v4), (5, .inl v5), (6, .inl v6), (7, .inl v1)], [.inr (.inr 408), .inl 88, .inr (.inr 408)], M)
      refine mm_s1 rfl ?_
      refine mm_s1 rfl ⟨nn_bd (na_13_0 NN (nn_c407 NN)) (by decide), ?_⟩
      show mm_Go (mm_run 0) mc_M_feed _ (89, [(0, .inr (.inr 407)), (1, .inl v1), (2, .inl v2), (3, .inl v3), (4, .inl v4), (5, .inl v5), (6, .inl v6), (7, .inl v1)], [.inl (nn_ri M 408 20), .inl 88, .inr (.inr 408)], M)
      refine mm_s1 rfl ?_
      refine mm_s1 rfl ?_
      refine mm_s1 rfl ?_
      refine mm_s1 rfl ?_
      refine mm_s1 rfl ?_
      show mm_Go (mm_run 0) mc_M_feed _ (97, [(0, .inr (.inr 407)), (1, .inl v1), (2, .inl v2), (3, .inl v3), (4, .inl v4), (5, .inl v5), (6, .inl v6), (7, .inl v1)], [.inl 24, .inl v1, .inl (mm_w ((mm_w (88 + (nn_ri M 408 20))) + v6)), .inr (.inr 408)], M)
      refine mm_s1 rfl ?_
      refine mm_s1 rfl ?_
      refine mm_s1 rfl ?_
      refine mm_s1 rfl ?_
      refine mm_s1 rfl ?_
      show mm_Go (mm_run 0) mc_M_feed _ (104, [(0, .inr (.inr 407)), (1, .inl v1), (2, .inl v2), (3, .inl v3), (4, .inl v4), (5, .inl v5), (6, .inl v6), (7, .inl v1)], [.inl (mm_w (8 * (mm_and v6 3))), .inl 24, .inl v1, .inl (mm_w ((mm_w (88 + (nn_ri M 408 20))) + v6)), .inr (.inr 408)], M)
      refine mm_s1 rfl ?_
      refine mm_s1 rfl ?_
      refine mm_s1 rfl ?_
      refine mm_s1 rfl ?_
      obtain ⟨b110, h⟩ := h
      refine mm_s1 rfl ⟨nn_bd (na_13_0 NN (nn_c407 NN)) b110, ?_⟩
      show mm_Go (mm_run 0) mc_M_feed _ (111, [(0, .inr (.inr 407)), (1, .inl v1), (2, .inl v2), (3, .inl v3), (4, .inl v4), (5, .inl v5), (6, .inl v6), (7, .inl v1)], [], (nn_ui M 408 (mm_w ((mm_w (88 + (nn_ri M 408 20))) + v6)) (mm_and (mm_shr v1 (mm_w (24 - (mm_w (8 * (mm_and v6 3)))))) 255)))
      have L : nn_L (nn_ui M 408 (mm_w ((mm_w (88 + (nn_ri M 408 20))) + v6)) (mm_and (mm_shr v1 (mm_w (24 - (mm_w (8 * (mm_and v6 3)))))) 255)) := nn_L_ua L (congrArg Prod.fst (na_13_0 NN (nn_c407 NN))) (by decide)
      have N : (nn_ui M 408 (mm_w ((mm_w (88 + (nn_ri M 408 20))) + v6)) (mm_and (mm_shr v1 (mm_w (24 - (mm_w (8 * (mm_and v6 3)))))) 255)).1 = n := N
      generalize e_M110 : (nn_ui M 408 (mm_w ((mm_w (88 + (nn_ri M 408 20))) + v6)) (mm_and (mm_shr v1 (mm_w (24 - (mm_w (8 * (mm_and v6 3)))))) 255)) = M110 at L N ⊢
      replace h := h _ e_M110.symm
      show mm_Go (mm_run 0) mc_M_feed _ (111, [(0, .inr (.inr 407)), (1, .inl v1), (2, .inl v2), (3, .inl v3), (4, .inl v4), (5, .inl v5), (6, .inl v6), (7, .inl v1)], [], M110)
      refine mm_s1 rfl ?_
      show mm_Go (mm_run 0) mc_M_feed _ (114, [(0, .inr (.inr 407)), (1, .inl v1), (2, .inl v2), (3, .inl v3), (4, .inl v4), (5, .inl v5), (6, .inl (mm_w (v6 + 1))), (7, .inl v1)], [], M110)
      refine mm_s1 rfl ?_
      show mm_Go (mm_run 0) mc_M_feed _ (21, [(0, .inr (.inr 407)), (1, .inl v1), (2, .inl v2), (3, .inl v3), (4, .inl v4), (5, .inl v5), (6, .inl (mm_w (v6 + 1))), (7, .inl v1)], [], M110)
      exact nn_go_ext (nn_xc rfl (nn_xc rfl (nn_xc rfl (nn_xc rfl (nn_xc rfl (nn_xc rfl (nn_xc rfl nn_xn))))))) (h n L N)
def nf_M_isIn (v0 : Int) (v1 : Int) (v2 : Int) : Int := (if v0 < v1 then 0 else (if v2 < v0 then 0 else 1))
theorem nz_M_isIn (v0 : Int) (v1 : Int) (v2 : Int) : nf_M_isIn v0 v1 v2 = 0 ∨ nf_M_isIn v0 v1 v2 = 1 := by
  unfold nf_M_isIn
  repeat' split
  all_goals first | exact Or.inl rfl | exact Or.inr rfl
set_option maxRecDepth 20000 in
theorem np_M_isIn {v0 : Int} {v1 : Int} {v2 : Int} {M : mm_M} {n d : Nat} {P : mm_P} (hd : 1 ≤ d) (L : nn_L M) (N : M.1 = n)  (h : P (some (.inl (nf_M_isIn v0 v1 v2))) M) : mm_run d mi_M_isIn [.inl v0, .inl v1, .inl v2] M P := by
  have NN := nn_L_n L N
  unfold nf_M_isIn at h
  refine nn_run_le hd ?_
  show mm_Go (mm_run 0) mc_M_isIn _ (0, [(0, .inl v0), (1, .inl v1), (2, .inl v2)], [], M)
  refine mm_s1 rfl ?_
  refine mm_s1 rfl ?_
  refine mm_s1 rfl ⟨fun c2 => ?_, fun c2 => ?_⟩
  · show mm_Go (mm_run 0) mc_M_isIn _ (14, [(0, .inl v0), (1, .inl v1), (2, .inl v2)], [], M)
    rw [if_pos (show v0 < v1 from c2)] at h
    refine mm_s1 rfl ?_
    exact mm_s1 rfl ⟨(Or.inl rfl), h⟩
  · show mm_Go (mm_run 0) mc_M_isIn _ (5, [(0, .inl v0), (1, .inl v1), (2, .inl v2)], [], M)
    rw [if_neg (show ¬ (v0 < v1) from c2)] at h
    replace c2 := Int.not_lt.mp c2
    refine mm_s1 rfl ?_
    refine mm_s1 rfl ?_
    refine mm_s1 rfl ⟨fun c7 => ?_, fun c7 => ?_⟩
    · show mm_Go (mm_run 0) mc_M_isIn _ (14, [(0, .inl v0), (1, .inl v1), (2, .inl v2)], [], M)
      rw [if_pos (show v2 < v0 from c7)] at h
      refine mm_s1 rfl ?_
      exact mm_s1 rfl ⟨(Or.inl rfl), h⟩
    · show mm_Go (mm_run 0) mc_M_isIn _ (10, [(0, .inl v0), (1, .inl v1), (2, .inl v2)], [], M)
      rw [if_neg (show ¬ (v2 < v0) from c7)] at h
      replace c7 := Int.not_lt.mp c7
      refine mm_s1 rfl ?_
      refine mm_s1 rfl ?_
      show mm_Go (mm_run 0) mc_M_isIn _ (15, [(0, .inl v0), (1, .inl v1), (2, .inl v2)], [.inl 1], M)
      exact mm_s1 rfl ⟨(Or.inr rfl), h⟩
def nf_M_packed (v0 : Int) (v1 : Int) (v2 : Int) (v3 : Int) : Int := mm_w ((mm_w ((mm_w (v0 + (mm_w (16 * v1)))) + (mm_w (256 * v2)))) + (mm_w (4096 * v3)))
set_option maxRecDepth 20000 in
theorem np_M_packed {v0 : Int} {v1 : Int} {v2 : Int} {v3 : Int} {M : mm_M} {n d : Nat} {P : mm_P} (hd : 1 ≤ d) (L : nn_L M) (N : M.1 = n)  (h : P (some (.inl (nf_M_packed v0 v1 v2 v3))) M) : mm_run d mi_M_packed [.inl v0, .inl v1, .inl v2, .inl v3] M P := by
  have NN := nn_L_n L N
  unfold nf_M_packed at h
  refine nn_run_le hd ?_
  show mm_Go (mm_run 0) mc_M_packed _ (0, [(0, .inl v0), (1, .inl v1), (2, .inl v2), (3, .inl v3)], [], M)
  refine mm_s1 rfl ?_
  refine mm_s1 rfl ?_
  refine mm_s1 rfl ?_
  refine mm_s1 rfl ?_
  refine mm_s1 rfl ?_
  refine mm_s1 rfl ?_
  refine mm_s1 rfl ?_
  refine mm_s1 rfl ?_
  refine mm_s1 rfl ?_
  refine mm_s1 rfl ?_
  refine mm_s1 rfl ?_
  refine mm_s1 rfl ?_
  refine mm_s1 rfl ?_
  exact mm_s1 rfl h
def nf_M_column (v0 : Int) (v1 : Int) : Int := mm_and (mm_shr v0 (mm_w (4 * v1))) 15
set_option maxRecDepth 20000 in
theorem np_M_column {v0 : Int} {v1 : Int} {M : mm_M} {n d : Nat} {P : mm_P} (hd : 1 ≤ d) (L : nn_L M) (N : M.1 = n)  (h : P (some (.inl (nf_M_column v0 v1))) M) : mm_run d mi_M_column [.inl v0, .inl v1] M P := by
  have NN := nn_L_n L N
  unfold nf_M_column at h
  refine nn_run_le hd ?_
  show mm_Go (mm_run 0) mc_M_column _ (0, [(0, .inl v0), (1, .inl v1)], [], M)
  refine mm_s1 rfl ?_
  refine mm_s1 rfl ?_
  refine mm_s1 rfl ?_
  refine mm_s1 rfl ?_
  refine mm_s1 rfl ?_
  refine mm_s1 rfl ?_
  refine mm_s1 rfl ?_
  exact mm_s1 rfl h
def nf_M_runAt (v0 : Int) (v1 : Int) : Int := mm_w ((mm_w (v0 + 288)) + (mm_w (68 * v1)))
set_option maxRecDepth 20000 in
theorem np_M_runAt {v0 : Int} {v1 : Int} {M : mm_M} {n d : Nat} {P : mm_P} (hd : 1 ≤ d) (L : nn_L M) (N : M.1 = n)  (h : P (some (.inl (nf_M_runAt v0 v1))) M) : mm_run d mi_M_runAt [.inl v0, .inl v1] M P := by
  have NN := nn_L_n L N
  unfold nf_M_runAt at h
  refine nn_run_le hd ?_
  show mm_Go (mm_run 0) mc_M_runAt _ (0, [(0, .inl v0), (1, .inl v1)], [], M)
  refine mm_s1 rfl ?_
  refine mm_s1 rfl ?_
  refine mm_s1 rfl ?_
  refine mm_s1 rfl ?_
  refine mm_s1 rfl ?_
  refine mm_s1 rfl ?_
  refine mm_s1 rfl ?_
  exact mm_s1 rfl h
def nr_M_whys (v1 : Int) (v2 : Int) (v3 : Int) (v4 : Int) (v5 : Int) (M : mm_M) (R : mm_M → Prop) : Prop := ∀ n, nn_L M → M.1 = n → mm_run 1 mi_M_whys [.inr (.inr 407), .inl v1, .inl v2, .inl v3, .inl v4, .inl v5] M (nw_V n R)
set_option maxRecDepth 20000 in
theorem ng_M_whys (v1 : Int) (v2 : Int) (v3 : Int) (v4 : Int) (v5 : Int) (M : mm_M) (R : mm_M → Prop) (h : (((0 : Int) ≤ (mm_w (v1 + 9)) ∧ (mm_w (v1 + 9)) < (32844 : Int)) ∧ (∀ M9 : mm_M, M9 = nn_ui M 408 (mm_w (v1 + 9)) v2 → (((0 : Int) ≤ (mm_w (v1 + 10)) ∧ (mm_w (v1 + 10)) < (32844 : Int)) ∧ (∀ M19 : mm_M, M19 = nn_ui M9 408 (mm_w (v1 + 10)) v3 → (((0 : Int) ≤ (mm_w (v1 + 11)) ∧ (mm_w (v1 + 11)) < (32844 : Int)) ∧ (∀ M30 : mm_M, M30 = nn_ui M19 408 (mm_w (v1 + 11)) v4 → (((0 : Int) ≤ (mm_w (v1 + 12)) ∧ (mm_w (v1 + 12)) < (32844 : Int)) ∧ (∀ M41 : mm_M, M41 = nn_ui M30 408 (mm_w (v1 + 12)) v5 → (((0 : Int) ≤ (mm_w (v1 + 13)) ∧ (mm_w (v1 + 13)) < (32844 : Int)) ∧ (∀ M51 : mm_M, M51 = nn_ui M41 408 (mm_w (v1 + 13)) (-1) → (((0 : Int) ≤ (mm_w (v1 + 14)) ∧ (mm_w (v1 + 14)) < (32844 : Int)) ∧ (∀ M61 : mm_M, M61 = nn_ui M51 408 (mm_w (v1 + 14)) (-1) → R M61))))))))))))) : nr_M_whys v1 v2 v3 v4 v5 M R := by
  intro n L N 
  have NN := nn_L_n L N
  show mm_Go (mm_run 0) mc_M_whys _ (0, [(0, .inr (.inr 407)), (1, .inl v1), (2, .inl v2), (3, .inl v3), (4, .inl v4), (5, .inl v5)], [], M)
  refine mm_s1 rfl ?_
  refine nn_getr rfl (nn_c407 NN).1 (lf_13_0 L N (nn_c407 NN)) ?_
  refine mm_s1 rfl ?_
  refine mm_s1 rfl ?_
  refine mm_s1 rfl ?_
  show mm_Go (mm_run 0) mc_M_whys _ (8, [(0, .inr (.inr 407)), (1, .inl v1), (2, .inl v2), (3, .inl v3), (4, .inl v4), (5, .inl v5)], [.inl (mm_w (v1 + 9)), .inr (.inr 408)], M)
  refine mm_s1 rfl ?_
  obtain ⟨b9, h⟩ := h
  refine mm_s1 rfl ⟨nn_bd (na_13_0 NN (nn_c407 NN)) b9, ?_⟩
  show mm_Go (mm_run 0) mc_M_whys _ (10, [(0, .inr (.inr 407)), (1, .inl v1), (2, .inl v2), (3, .inl v3), (4, .inl v4), (5, .inl v5)], [], (nn_ui M 408 (mm_w (v1 + 9)) v2))
  have L : nn_L (nn_ui M 408 (mm_w (v1 + 9)) v2) := nn_L_ua L (congrArg Prod.fst (na_13_0 NN (nn_c407 NN))) (by decide)
  have N : (nn_ui M 408 (mm_w (v1 + 9)) v2).1 = n := N
  generalize e_M9 : (nn_ui M 408 (mm_w (v1 + 9)) v2) = M9 at L N ⊢
  replace h := h _ e_M9.symm
  show mm_Go (mm_run 0) mc_M_whys _ (10, [(0, .inr (.inr 407)), (1, .inl v1), (2, .inl v2), (3, .inl v3), (4, .inl v4), (5, .inl v5)], [], M9)
  refine mm_s1 rfl ?_
  refine nn_getr rfl (nn_c407 NN).1 (lf_13_0 L N (nn_c407 NN)) ?_
  refine mm_s1 rfl ?_
  refine mm_s1 rfl ?_
  refine mm_s1 rfl ?_
  show mm_Go (mm_run 0) mc_M_whys _ (18, [(0, .inr (.inr 407)), (1, .inl v1), (2, .inl v2), (3, .inl v3), (4, .inl v4), (5, .inl v5)], [.inl (mm_w (v1 + 10)), .inr (.inr 408)], M9)
  refine mm_s1 rfl ?_
  obtain ⟨b19, h⟩ := h
  refine mm_s1 rfl ⟨nn_bd (na_13_0 NN (nn_c407 NN)) b19, ?_⟩
  show mm_Go (mm_run 0) mc_M_whys _ (20, [(0, .inr (.inr 407)), (1, .inl v1), (2, .inl v2), (3, .inl v3), (4, .inl v4), (5, .inl v5)], [], (nn_ui M9 408 (mm_w (v1 + 10)) v3))
  have L : nn_L (nn_ui M9 408 (mm_w (v1 + 10)) v3) := nn_L_ua L (congrArg Prod.fst (na_13_0 NN (nn_c407 NN))) (by decide)
  have N : (nn_ui M9 408 (mm_w (v1 + 10)) v3).1 = n := N
  generalize e_M19 : (nn_ui M9 408 (mm_w (v1 + 10)) v3) = M19 at L N ⊢
  replace h := h _ e_M19.symm
  show mm_Go (mm_run 0) mc_M_whys _ (20, [(0, .inr (.inr 407)), (1, .inl v1), (2, .inl v2), (3, .inl v3), (4, .inl v4), (5, .inl v5)], [], M19)
  refine mm_s1 rfl ?_
  refine nn_getr rfl (nn_c407 NN).1 (lf_13_0 L N (nn_c407 NN)) ?_
  refine mm_s1 rfl ?_
  refine mm_s1 rfl ?_
  refine mm_s1 rfl ?_
  show mm_Go (mm_run 0) mc_M_whys _ (28, [(0, .inr (.inr 407)), (1, .inl v1), (2, .inl v2), (3, .inl v3), (4, .inl v4), (5, .inl v5)], [.inl (mm_w (v1 + 11)), .inr (.inr 408)], M19)
  refine mm_s1 rfl ?_
  obtain ⟨b30, h⟩ := h
  refine mm_s1 rfl ⟨nn_bd (na_13_0 NN (nn_c407 NN)) b30, ?_⟩
  show mm_Go (mm_run 0) mc_M_whys _ (31, [(0, .inr (.inr 407)), (1, .inl v1), (2, .inl v2), (3, .inl v3), (4, .inl v4), (5, .inl v5)], [], (nn_ui M19 408 (mm_w (v1 + 11)) v4))
  have L : nn_L (nn_ui M19 408 (mm_w (v1 + 11)) v4) := nn_L_ua L (congrArg Prod.fst (na_13_0 NN (nn_c407 NN))) (by decide)
  have N : (nn_ui M19 408 (mm_w (v1 + 11)) v4).1 = n := N
  generalize e_M30 : (nn_ui M19 408 (mm_w (v1 + 11)) v4) = M30 at L N ⊢
  replace h := h _ e_M30.symm
  show mm_Go (mm_run 0) mc_M_whys _ (31, [(0, .inr (.inr 407)), (1, .inl v1), (2, .inl v2), (3, .inl v3), (4, .inl v4), (5, .inl v5)], [], M30)
  refine mm_s1 rfl ?_
  refine nn_getr rfl (nn_c407 NN).1 (lf_13_0 L N (nn_c407 NN)) ?_
  refine mm_s1 rfl ?_
  refine mm_s1 rfl ?_
  refine mm_s1 rfl ?_
  show mm_Go (mm_run 0) mc_M_whys _ (39, [(0, .inr (.inr 407)), (1, .inl v1), (2, .inl v2), (3, .inl v3), (4, .inl v4), (5, .inl v5)], [.inl (mm_w (v1 + 12)), .inr (.inr 408)], M30)
  refine mm_s1 rfl ?_
  obtain ⟨b41, h⟩ := h
  refine mm_s1 rfl ⟨nn_bd (na_13_0 NN (nn_c407 NN)) b41, ?_⟩
  show mm_Go (mm_run 0) mc_M_whys _ (42, [(0, .inr (.inr 407)), (1, .inl v1), (2, .inl v2), (3, .inl v3), (4, .inl v4), (5, .inl v5)], [], (nn_ui M30 408 (mm_w (v1 + 12)) v5))
  have L : nn_L (nn_ui M30 408 (mm_w (v1 + 12)) v5) := nn_L_ua L (congrArg Prod.fst (na_13_0 NN (nn_c407 NN))) (by decide)
  have N : (nn_ui M30 408 (mm_w (v1 + 12)) v5).1 = n := N
  generalize e_M41 : (nn_ui M30 408 (mm_w (v1 + 12)) v5) = M41 at L N ⊢
  replace h := h _ e_M41.symm
  show mm_Go (mm_run 0) mc_M_whys _ (42, [(0, .inr (.inr 407)), (1, .inl v1), (2, .inl v2), (3, .inl v3), (4, .inl v4), (5, .inl v5)], [], M41)
  refine mm_s1 rfl ?_
  refine nn_getr rfl (nn_c407 NN).1 (lf_13_0 L N (nn_c407 NN)) ?_
  refine mm_s1 rfl ?_
  refine mm_s1 rfl ?_
  refine mm_s1 rfl ?_
  show mm_Go (mm_run 0) mc_M_whys _ (50, [(0, .inr (.inr 407)), (1, .inl v1), (2, .inl v2), (3, .inl v3), (4, .inl v4), (5, .inl v5)], [.inl (mm_w (v1 + 13)), .inr (.inr 408)], M41)
  refine mm_s1 rfl ?_
  obtain ⟨b51, h⟩ := h
  refine mm_s1 rfl ⟨nn_bd (na_13_0 NN (nn_c407 NN)) b51, ?_⟩
  show mm_Go (mm_run 0) mc_M_whys _ (52, [(0, .inr (.inr 407)), (1, .inl v1), (2, .inl v2), (3, .inl v3), (4, .inl v4), (5, .inl v5)], [], (nn_ui M41 408 (mm_w (v1 + 13)) (-1)))
  have L : nn_L (nn_ui M41 408 (mm_w (v1 + 13)) (-1)) := nn_L_ua L (congrArg Prod.fst (na_13_0 NN (nn_c407 NN))) (by decide)
  have N : (nn_ui M41 408 (mm_w (v1 + 13)) (-1)).1 = n := N
  generalize e_M51 : (nn_ui M41 408 (mm_w (v1 + 13)) (-1)) = M51 at L N ⊢
  replace h := h _ e_M51.symm
  show mm_Go (mm_run 0) mc_M_whys _ (52, [(0, .inr (.inr 407)), (1, .inl v1), (2, .inl v2), (3, .inl v3), (4, .inl v4), (5, .inl v5)], [], M51)
  refine mm_s1 rfl ?_
  refine nn_getr rfl (nn_c407 NN).1 (lf_13_0 L N (nn_c407 NN)) ?_
  refine mm_s1 rfl ?_
  refine mm_s1 rfl ?_
  refine mm_s1 rfl ?_
  show mm_Go (mm_run 0) mc_M_whys _ (60, [(0, .inr (.inr 407)), (1, .inl v1), (2, .inl v2), (3, .inl v3), (4, .inl v4), (5, .inl v5)], [.inl (mm_w (v1 + 14)), .inr (.inr 408)], M51)
  refine mm_s1 rfl ?_
  obtain ⟨b61, h⟩ := h
  refine mm_s1 rfl ⟨nn_bd (na_13_0 NN (nn_c407 NN)) b61, ?_⟩
  show mm_Go (mm_run 0) mc_M_whys _ (62, [(0, .inr (.inr 407)), (1, .inl v1), (2, .inl v2), (3, .inl v3), (4, .inl v4), (5, .inl v5)], [], (nn_ui M51 408 (mm_w (v1 + 14)) (-1)))
  have L : nn_L (nn_ui M51 408 (mm_w (v1 + 14)) (-1)) := nn_L_ua L (congrArg Prod.fst (na_13_0 NN (nn_c407 NN))) (by decide)
  have N : (nn_ui M51 408 (mm_w (v1 + 14)) (-1)).1 = n := N
  generalize e_M61 : (nn_ui M51 408 (mm_w (v1 + 14)) (-1)) = M61 at L N ⊢
  replace h := h _ e_M61.symm
  show mm_Go (mm_run 0) mc_M_whys _ (62, [(0, .inr (.inr 407)), (1, .inl v1), (2, .inl v2), (3, .inl v3), (4, .inl v4), (5, .inl v5)], [], M61)
  exact mm_s1 rfl ⟨rfl, L, N, h⟩
def nf_M_entryAt (v0 : Int) (v1 : Int) : Int := mm_w ((mm_w (v0 + 215)) + (mm_w (4 * v1)))
set_option maxRecDepth 20000 in
theorem np_M_entryAt {v0 : Int} {v1 : Int} {M : mm_M} {n d : Nat} {P : mm_P} (hd : 1 ≤ d) (L : nn_L M) (N : M.1 = n)  (h : P (some (.inl (nf_M_entryAt v0 v1))) M) : mm_run d mi_M_entryAt [.inl v0, .inl v1] M P := by
  have NN := nn_L_n L N
  unfold nf_M_entryAt at h
  refine nn_run_le hd ?_
  show mm_Go (mm_run 0) mc_M_entryAt _ (0, [(0, .inl v0), (1, .inl v1)], [], M)
  refine mm_s1 rfl ?_
  refine mm_s1 rfl ?_
  refine mm_s1 rfl ?_
  refine mm_s1 rfl ?_
  refine mm_s1 rfl ?_
  refine mm_s1 rfl ?_
  refine mm_s1 rfl ?_
  exact mm_s1 rfl h
def nr_M_isAhead (v1 : Int) (v2 : Int) (M : mm_M) (R : Int → mm_M → Prop) : Prop := ∀ n, nn_L M → M.1 = n → mm_run 1 mi_M_isAhead [.inr (.inr 407), .inl v1, .inl v2] M (nw_Z n R)
def nk_M_isAhead_2 (v1 : Int) (v2 : Int) (v3 : Int) (M : mm_M) (R : Int → mm_M → Prop) : Prop := ∀ n, nn_L M → M.1 = n → mm_Go (mm_run 0) mc_M_isAhead (nw_Z n R) (2, [(0, .inr (.inr 407)), (1, .inl v1), (2, .inl v2), (3, .inl v3)], [], M)
set_option maxRecDepth 20000 in
theorem ng_M_isAhead (v1 : Int) (v2 : Int) (M : mm_M) (R : Int → mm_M → Prop) (h : nk_M_isAhead_2 v1 v2 0 M R) : nr_M_isAhead v1 v2 M R := by
  intro n L N 
  have NN := nn_L_n L N
  show mm_Go (mm_run 0) mc_M_isAhead _ (0, [(0, .inr (.inr 407)), (1, .inl v1), (2, .inl v2)], [], M)
  refine mm_s1 rfl ?_
  refine mm_s1 rfl ?_
  show mm_Go (mm_run 0) mc_M_isAhead _ (2, [(0, .inr (.inr 407)), (1, .inl v1), (2, .inl v2), (3, .inl 0)], [], M)
  exact nn_go_ext (nn_xc rfl (nn_xc rfl (nn_xc rfl (nn_xc rfl nn_xn)))) (h n L N)
set_option maxRecDepth 20000 in
theorem ng_M_isAhead_2 (v1 : Int) (v2 : Int) (v3 : Int) (M : mm_M) (R : Int → mm_M → Prop) (h : ((4 ≤ v3 → R 0 M) ∧ (v3 < 4 → (((0 : Int) ≤ (mm_w (v1 + v3)) ∧ (mm_w (v1 + v3)) < (32844 : Int)) ∧ (((0 : Int) ≤ (mm_w (v2 + v3)) ∧ (mm_w (v2 + v3)) < (32844 : Int)) ∧ (((nn_ri M 408 (mm_w (v1 + v3))) = (nn_ri M 408 (mm_w (v2 + v3))) → nk_M_isAhead_2 v1 v2 (mm_w (v3 + 1)) M R) ∧ ((nn_ri M 408 (mm_w (v1 + v3))) ≠ (nn_ri M 408 (mm_w (v2 + v3))) → (((0 : Int) ≤ (mm_w (v1 + v3)) ∧ (mm_w (v1 + v3)) < (32844 : Int)) ∧ (((0 : Int) ≤ (mm_w (v2 + v3)) ∧ (mm_w (v2 + v3)) < (32844 : Int)) ∧ (((nn_ri M 408 (mm_w (v2 + v3))) ≤ (nn_ri M 408 (mm_w (v1 + v3))) → R 0 M) ∧ ((nn_ri M 408 (mm_w (v1 + v3))) < (nn_ri M 408 (mm_w (v2 + v3))) → R 1 M))))))))))) : nk_M_isAhead_2 v1 v2 v3 M R := by
  intro n L N 
  have NN := nn_L_n L N
  show mm_Go (mm_run 0) mc_M_isAhead _ (2, [(0, .inr (.inr 407)), (1, .inl v1), (2, .inl v2), (3, .inl v3)], [], M)
  refine mm_s1 rfl ?_
  refine mm_s1 rfl ?_
  refine mm_s1 rfl ⟨fun c4 => ?_, fun c4 => ?_⟩
  · show mm_Go (mm_run 0) mc_M_isAhead _ (57, [(0, .inr (.inr 407)), (1, .inl v1), (2, .inl v2), (3, .inl v3)], [], M)
    replace h := h.1 c4
    refine mm_s1 rfl ?_
    exact mm_s1 rfl ⟨(Or.inl rfl), _, rfl, (Or.inl rfl), L, N, h⟩
  · show mm_Go (mm_run 0) mc_M_isAhead _ (7, [(0, .inr (.inr 407)), (1, .inl v1), (2, .inl v2), (3, .inl v3)], [], M)
    replace c4 := Int.not_le.mp c4
    replace h := h.2 c4
    refine mm_s1 rfl ?_
    refine nn_getr rfl (nn_c407 NN).1 (lf_13_0 L N (nn_c407 NN)) ?_
    refine mm_s1 rfl ?_
    refine mm_s1 rfl ?_
    refine mm_s1 rfl ?_
    show mm_Go (mm_run 0) mc_M_isAhead _ (14, [(0, .inr (.inr 407)), (1, .inl v1), (2, .inl v2), (3, .inl v3)], [.inl (mm_w (v1 + v3)), .inr (.inr 408)], M)
    obtain ⟨b14, h⟩ := h
    refine mm_s1 rfl ⟨nn_bd (na_13_0 NN (nn_c407 NN)) b14, ?_⟩
    show mm_Go (mm_run 0) mc_M_isAhead _ (15, [(0, .inr (.inr 407)), (1, .inl v1), (2, .inl v2), (3, .inl v3)], [.inl (nn_ri M 408 (mm_w (v1 + v3)))], M)
    refine mm_s1 rfl ?_
    refine nn_getr rfl (nn_c407 NN).1 (lf_13_0 L N (nn_c407 NN)) ?_
    refine mm_s1 rfl ?_
    refine mm_s1 rfl ?_
    refine mm_s1 rfl ?_
    show mm_Go (mm_run 0) mc_M_isAhead _ (22, [(0, .inr (.inr 407)), (1, .inl v1), (2, .inl v2), (3, .inl v3)], [.inl (mm_w (v2 + v3)), .inr (.inr 408), .inl (nn_ri M 408 (mm_w (v1 + v3)))], M)
    obtain ⟨b22, h⟩ := h
    refine mm_s1 rfl ⟨nn_bd (na_13_0 NN (nn_c407 NN)) b22, ?_⟩
    show mm_Go (mm_run 0) mc_M_isAhead _ (23, [(0, .inr (.inr 407)), (1, .inl v1), (2, .inl v2), (3, .inl v3)], [.inl (nn_ri M 408 (mm_w (v2 + v3))), .inl (nn_ri M 408 (mm_w (v1 + v3)))], M)
    refine mm_s1 rfl ⟨fun c23 => ?_, fun c23 => ?_⟩
    · show mm_Go (mm_run 0) mc_M_isAhead _ (51, [(0, .inr (.inr 407)), (1, .inl v1), (2, .inl v2), (3, .inl v3)], [], M)
      replace h := h.1 c23
      refine mm_s1 rfl ?_
      show mm_Go (mm_run 0) mc_M_isAhead _ (54, [(0, .inr (.inr 407)), (1, .inl v1), (2, .inl v2), (3, .inl (mm_w (v3 + 1)))], [], M)
      refine mm_s1 rfl ?_
      show mm_Go (mm_run 0) mc_M_isAhead _ (2, [(0, .inr (.inr 407)), (1, .inl v1), (2, .inl v2), (3, .inl (mm_w (v3 + 1)))], [], M)
      exact nn_go_ext (nn_xc rfl (nn_xc rfl (nn_xc rfl (nn_xc rfl nn_xn)))) (h n L N)
    · show mm_Go (mm_run 0) mc_M_isAhead _ (26, [(0, .inr (.inr 407)), (1, .inl v1), (2, .inl v2), (3, .inl v3)], [], M)
      replace h := h.2 c23
      refine mm_s1 rfl ?_
      refine nn_getr rfl (nn_c407 NN).1 (lf_13_0 L N (nn_c407 NN)) ?_
      refine mm_s1 rfl ?_
      refine mm_s1 rfl ?_
      refine mm_s1 rfl ?_
      show mm_Go (mm_run 0) mc_M_isAhead _ (33, [(0, .inr (.inr 407)), (1, .inl v1), (2, .inl v2), (3, .inl v3)], [.inl (mm_w (v1 + v3)), .inr (.inr 408)], M)
      obtain ⟨b33, h⟩ := h
      refine mm_s1 rfl ⟨nn_bd (na_13_0 NN (nn_c407 NN)) b33, ?_⟩
      show mm_Go (mm_run 0) mc_M_isAhead _ (34, [(0, .inr (.inr 407)), (1, .inl v1), (2, .inl v2), (3, .inl v3)], [.inl (nn_ri M 408 (mm_w (v1 + v3)))], M)
      refine mm_s1 rfl ?_
      refine nn_getr rfl (nn_c407 NN).1 (lf_13_0 L N (nn_c407 NN)) ?_
      refine mm_s1 rfl ?_
      refine mm_s1 rfl ?_
      refine mm_s1 rfl ?_
      show mm_Go (mm_run 0) mc_M_isAhead _ (41, [(0, .inr (.inr 407)), (1, .inl v1), (2, .inl v2), (3, .inl v3)], [.inl (mm_w (v2 + v3)), .inr (.inr 408), .inl (nn_ri M 408 (mm_w (v1 + v3)))], M)
      obtain ⟨b41, h⟩ := h
      refine mm_s1 rfl ⟨nn_bd (na_13_0 NN (nn_c407 NN)) b41, ?_⟩
      show mm_Go (mm_run 0) mc_M_isAhead _ (42, [(0, .inr (.inr 407)), (1, .inl v1), (2, .inl v2), (3, .inl v3)], [.inl (nn_ri M 408 (mm_w (v2 + v3))), .inl (nn_ri M 408 (mm_w (v1 + v3)))], M)
      refine mm_s1 rfl ⟨fun c42 => ?_, fun c42 => ?_⟩
      · show mm_Go (mm_run 0) mc_M_isAhead _ (49, [(0, .inr (.inr 407)), (1, .inl v1), (2, .inl v2), (3, .inl v3)], [], M)
        replace h := h.1 c42
        refine mm_s1 rfl ?_
        exact mm_s1 rfl ⟨(Or.inl rfl), _, rfl, (Or.inl rfl), L, N, h⟩
      · show mm_Go (mm_run 0) mc_M_isAhead _ (45, [(0, .inr (.inr 407)), (1, .inl v1), (2, .inl v2), (3, .inl v3)], [], M)
        replace c42 := Int.not_le.mp c42
        replace h := h.2 c42
        refine mm_s1 rfl ?_
        refine mm_s1 rfl ?_
        show mm_Go (mm_run 0) mc_M_isAhead _ (50, [(0, .inr (.inr 407)), (1, .inl v1), (2, .inl v2), (3, .inl v3)], [.inl 1], M)
        exact mm_s1 rfl ⟨(Or.inr rfl), _, rfl, (Or.inr rfl), L, N, h⟩
def nr_M_swaps (v1 : Int) (v2 : Int) (M : mm_M) (R : mm_M → Prop) : Prop := ∀ n, nn_L M → M.1 = n → mm_run 1 mi_M_swaps [.inr (.inr 407), .inl v1, .inl v2] M (nw_V n R)
def nk_M_swaps_2 (v1 : Int) (v2 : Int) (v3 : Int) (M : mm_M) (R : mm_M → Prop) : Prop := ∀ n, nn_L M → M.1 = n → mm_Go (mm_run 0) mc_M_swaps (nw_V n R) (2, [(0, .inr (.inr 407)), (1, .inl v1), (2, .inl v2), (3, .inl v3)], [], M)
set_option maxRecDepth 20000 in
theorem ng_M_swaps (v1 : Int) (v2 : Int) (M : mm_M) (R : mm_M → Prop) (h : nk_M_swaps_2 v1 v2 0 M R) : nr_M_swaps v1 v2 M R := by
  intro n L N 
  have NN := nn_L_n L N
  show mm_Go (mm_run 0) mc_M_swaps _ (0, [(0, .inr (.inr 407)), (1, .inl v1), (2, .inl v2)], [], M)
  refine mm_s1 rfl ?_
  refine mm_s1 rfl ?_
  show mm_Go (mm_run 0) mc_M_swaps _ (2, [(0, .inr (.inr 407)), (1, .inl v1), (2, .inl v2), (3, .inl 0)], [], M)
  exact nn_go_ext (nn_xc rfl (nn_xc rfl (nn_xc rfl (nn_xc rfl nn_xn)))) (h n L N)
set_option maxRecDepth 20000 in
theorem ng_M_swaps_2 (v1 : Int) (v2 : Int) (v3 : Int) (M : mm_M) (R : mm_M → Prop) (h : ((4 ≤ v3 → R M) ∧ (v3 < 4 → (((0 : Int) ≤ (mm_w (v1 + v3)) ∧ (mm_w (v1 + v3)) < (32844 : Int)) ∧ (((0 : Int) ≤ (mm_w (v2 + v3)) ∧ (mm_w (v2 + v3)) < (32844 : Int)) ∧ (((0 : Int) ≤ (mm_w (v1 + v3)) ∧ (mm_w (v1 + v3)) < (32844 : Int)) ∧ (∀ M32 : mm_M, M32 = nn_ui M 408 (mm_w (v1 + v3)) (nn_ri M 408 (mm_w (v2 + v3))) → (((0 : Int) ≤ (mm_w (v2 + v3)) ∧ (mm_w (v2 + v3)) < (32844 : Int)) ∧ (∀ M42 : mm_M, M42 = nn_ui M32 408 (mm_w (v2 + v3)) (nn_ri M 408 (mm_w (v1 + v3))) → nk_M_swaps_2 v1 v2 (mm_w (v3 + 1)) M42 R))))))))) : nk_M_swaps_2 v1 v2 v3 M R := by
  intro n L N 
  have NN := nn_L_n L N
  show mm_Go (mm_run 0) mc_M_swaps _ (2, [(0, .inr (.inr 407)), (1, .inl v1), (2, .inl v2), (3, .inl v3)], [], M)
  refine mm_s1 rfl ?_
  refine mm_s1 rfl ?_
  refine mm_s1 rfl ⟨fun c4 => ?_, fun c4 => ?_⟩
  · show mm_Go (mm_run 0) mc_M_swaps _ (49, [(0, .inr (.inr 407)), (1, .inl v1), (2, .inl v2), (3, .inl v3)], [], M)
    replace h := h.1 c4
    exact mm_s1 rfl ⟨rfl, L, N, h⟩
  · show mm_Go (mm_run 0) mc_M_swaps _ (7, [(0, .inr (.inr 407)), (1, .inl v1), (2, .inl v2), (3, .inl v3)], [], M)
    replace c4 := Int.not_le.mp c4
    replace h := h.2 c4
    refine mm_s1 rfl ?_
    refine nn_getr rfl (nn_c407 NN).1 (lf_13_0 L N (nn_c407 NN)) ?_
    refine mm_s1 rfl ?_
    refine mm_s1 rfl ?_
    refine mm_s1 rfl ?_
    show mm_Go (mm_run 0) mc_M_swaps _ (14, [(0, .inr (.inr 407)), (1, .inl v1), (2, .inl v2), (3, .inl v3)], [.inl (mm_w (v1 + v3)), .inr (.inr 408)], M)
    obtain ⟨b14, h⟩ := h
    refine mm_s1 rfl ⟨nn_bd (na_13_0 NN (nn_c407 NN)) b14, ?_⟩
    show mm_Go (mm_run 0) mc_M_swaps _ (15, [(0, .inr (.inr 407)), (1, .inl v1), (2, .inl v2), (3, .inl v3)], [.inl (nn_ri M 408 (mm_w (v1 + v3)))], M)
    refine mm_s1 rfl ?_
    show mm_Go (mm_run 0) mc_M_swaps _ (17, [(0, .inr (.inr 407)), (1, .inl v1), (2, .inl v2), (3, .inl v3), (4, .inl (nn_ri M 408 (mm_w (v1 + v3))))], [], M)
    refine mm_s1 rfl ?_
    refine nn_getr rfl (nn_c407 NN).1 (lf_13_0 L N (nn_c407 NN)) ?_
    refine mm_s1 rfl ?_
    refine mm_s1 rfl ?_
    refine mm_s1 rfl ?_
    show mm_Go (mm_run 0) mc_M_swaps _ (24, [(0, .inr (.inr 407)), (1, .inl v1), (2, .inl v2), (3, .inl v3), (4, .inl (nn_ri M 408 (mm_w (v1 + v3))))], [.inl (mm_w (v1 + v3)), .inr (.inr 408)], M)
    refine mm_s1 rfl ?_
    refine nn_getr rfl (nn_c407 NN).1 (lf_13_0 L N (nn_c407 NN)) ?_
    refine mm_s1 rfl ?_
    refine mm_s1 rfl ?_
    refine mm_s1 rfl ?_
    show mm_Go (mm_run 0) mc_M_swaps _ (31, [(0, .inr (.inr 407)), (1, .inl v1), (2, .inl v2), (3, .inl v3), (4, .inl (nn_ri M 408 (mm_w (v1 + v3))))], [.inl (mm_w (v2 + v3)), .inr (.inr 408), .inl (mm_w (v1 + v3)), .inr (.inr 408)], M)
    obtain ⟨b31, h⟩ := h
    refine mm_s1 rfl ⟨nn_bd (na_13_0 NN (nn_c407 NN)) b31, ?_⟩
    show mm_Go (mm_run 0) mc_M_swaps _ (32, [(0, .inr (.inr 407)), (1, .inl v1), (2, .inl v2), (3, .inl v3), (4, .inl (nn_ri M 408 (mm_w (v1 + v3))))], [.inl (nn_ri M 408 (mm_w (v2 + v3))), .inl (mm_w (v1 + v3)), .inr (.inr 408)], M)
    obtain ⟨b32, h⟩ := h
    refine mm_s1 rfl ⟨nn_bd (na_13_0 NN (nn_c407 NN)) b32, ?_⟩
    show mm_Go (mm_run 0) mc_M_swaps _ (33, [(0, .inr (.inr 407)), (1, .inl v1), (2, .inl v2), (3, .inl v3), (4, .inl (nn_ri M 408 (mm_w (v1 + v3))))], [], (nn_ui M 408 (mm_w (v1 + v3)) (nn_ri M 408 (mm_w (v2 + v3)))))
    have L : nn_L (nn_ui M 408 (mm_w (v1 + v3)) (nn_ri M 408 (mm_w (v2 + v3)))) := nn_L_ua L (congrArg Prod.fst (na_13_0 NN (nn_c407 NN))) (by decide)
    have N : (nn_ui M 408 (mm_w (v1 + v3)) (nn_ri M 408 (mm_w (v2 + v3)))).1 = n := N
    generalize e_M32 : (nn_ui M 408 (mm_w (v1 + v3)) (nn_ri M 408 (mm_w (v2 + v3)))) = M32 at L N ⊢
    replace h := h _ e_M32.symm
    show mm_Go (mm_run 0) mc_M_swaps _ (33, [(0, .inr (.inr 407)), (1, .inl v1), (2, .inl v2), (3, .inl v3), (4, .inl (nn_ri M 408 (mm_w (v1 + v3))))], [], M32)
    refine mm_s1 rfl ?_
    refine nn_getr rfl (nn_c407 NN).1 (lf_13_0 L N (nn_c407 NN)) ?_
    refine mm_s1 rfl ?_
    refine mm_s1 rfl ?_
    refine mm_s1 rfl ?_
    show mm_Go (mm_run 0) mc_M_swaps _ (40, [(0, .inr (.inr 407)), (1, .inl v1), (2, .inl v2), (3, .inl v3), (4, .inl (nn_ri M 408 (mm_w (v1 + v3))))], [.inl (mm_w (v2 + v3)), .inr (.inr 408)], M32)
    refine mm_s1 rfl ?_
    obtain ⟨b42, h⟩ := h
    refine mm_s1 rfl ⟨nn_bd (na_13_0 NN (nn_c407 NN)) b42, ?_⟩
    show mm_Go (mm_run 0) mc_M_swaps _ (43, [(0, .inr (.inr 407)), (1, .inl v1), (2, .inl v2), (3, .inl v3), (4, .inl (nn_ri M 408 (mm_w (v1 + v3))))], [], (nn_ui M32 408 (mm_w (v2 + v3)) (nn_ri M 408 (mm_w (v1 + v3)))))
    have L : nn_L (nn_ui M32 408 (mm_w (v2 + v3)) (nn_ri M 408 (mm_w (v1 + v3)))) := nn_L_ua L (congrArg Prod.fst (na_13_0 NN (nn_c407 NN))) (by decide)
    have N : (nn_ui M32 408 (mm_w (v2 + v3)) (nn_ri M 408 (mm_w (v1 + v3)))).1 = n := N
    generalize e_M42 : (nn_ui M32 408 (mm_w (v2 + v3)) (nn_ri M 408 (mm_w (v1 + v3)))) = M42 at L N ⊢
    replace h := h _ e_M42.symm
    show mm_Go (mm_run 0) mc_M_swaps _ (43, [(0, .inr (.inr 407)), (1, .inl v1), (2, .inl v2), (3, .inl v3), (4, .inl (nn_ri M 408 (mm_w (v1 + v3))))], [], M42)
    refine mm_s1 rfl ?_
    show mm_Go (mm_run 0) mc_M_swaps _ (46, [(0, .inr (.inr 407)), (1, .inl v1), (2, .inl v2), (3, .inl (mm_w (v3 + 1))), (4, .inl (nn_ri M 408 (mm_w (v1 + v3))))], [], M42)
    refine mm_s1 rfl ?_
    show mm_Go (mm_run 0) mc_M_swaps _ (2, [(0, .inr (.inr 407)), (1, .inl v1), (2, .inl v2), (3, .inl (mm_w (v3 + 1))), (4, .inl (nn_ri M 408 (mm_w (v1 + v3))))], [], M42)
    exact nn_go_ext (nn_xc rfl (nn_xc rfl (nn_xc rfl (nn_xc rfl nn_xn)))) (h n L N)
