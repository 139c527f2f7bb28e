/-! methods walked by program (wip/whole/dec.py) -/
def nr_Store_sure (v0 : Nat) (M : mm_M) (R : Int → mm_M → Prop) : Prop := ∀ n, nn_L M → M.1 = n → nn_C 9 v0 n → mm_run 4 mi_Store_sure [.inr (.inr v0)] M (nw_I n R)
def nk_Store_sure_4 (v0 : Nat) (v1 : Int) (v2 : Int) (M : mm_M) (R : Int → mm_M → Prop) : Prop := ∀ n, nn_L M → M.1 = n → nn_C 9 v0 n → mm_Go (mm_run 3) mc_Store_sure (nw_I n R) (4, [(0, .inr (.inr v0)), (1, .inl v1), (2, .inl v2)], [], M)
set_option maxRecDepth 20000 in
theorem ng_Store_sure (v0 : Nat) (M : mm_M) (R : Int → mm_M → Prop) (h : nk_Store_sure_4 v0 (-1) 0 M R) : nr_Store_sure v0 M R := by
  intro n L N C0
  have NN := nn_L_n L N
  show mm_Go (mm_run 3) mc_Store_sure _ (0, [(0, .inr (.inr v0))], [], M)
  refine mm_s1 rfl ?_
  refine mm_s1 rfl ?_
  show mm_Go (mm_run 3) mc_Store_sure _ (2, [(0, .inr (.inr v0)), (1, .inl (-1))], [], M)
  refine mm_s1 rfl ?_
  refine mm_s1 rfl ?_
  show mm_Go (mm_run 3) mc_Store_sure _ (4, [(0, .inr (.inr v0)), (1, .inl (-1)), (2, .inl 0)], [], M)
  exact nn_go_ext (nn_xc rfl (nn_xc rfl (nn_xc rfl nn_xn))) (h n L N C0)
set_option maxRecDepth 20000 in
theorem ng_Store_sure_4 (v0 : Nat) (v1 : Int) (v2 : Int) (M : mm_M) (R : Int → mm_M → Prop) (h : ((4 ≤ v2 → R v1 M) ∧ (v2 < 4 → (((0 : Int) ≤ v2 ∧ v2 < (4 : Int)) ∧ (((nn_rf M (v0 + 90 + 15 * (v2).toNat) 5) = 0 → nk_Store_sure_4 v0 v1 (mm_w (v2 + 1)) M R) ∧ ((nn_rf M (v0 + 90 + 15 * (v2).toNat) 5) ≠ 0 → (((0 : Int) ≤ v2 ∧ v2 < (4 : Int)) ∧ (nr_Index_sure (v0 + 90 + 15 * (v2).toNat) M (fun r28 M28 => nk_Store_sure_4 v0 (nf_LI_lesser v1 r28) (mm_w (v2 + 1)) M28 R))))))))) : nk_Store_sure_4 v0 v1 v2 M R := by
  intro n L N C0
  have NN := nn_L_n L N
  show mm_Go (mm_run 3) mc_Store_sure _ (4, [(0, .inr (.inr v0)), (1, .inl v1), (2, .inl v2)], [], M)
  refine mm_s1 rfl ?_
  refine mm_s1 rfl ?_
  refine mm_s1 rfl ⟨fun c6 => ?_, fun c6 => ?_⟩
  · show mm_Go (mm_run 3) mc_Store_sure _ (41, [(0, .inr (.inr v0)), (1, .inl v1), (2, .inl v2)], [], M)
    replace h := h.1 c6
    refine mm_s1 rfl ?_
    exact mm_s1 rfl ⟨_, rfl, L, N, h⟩
  · show mm_Go (mm_run 3) mc_Store_sure _ (9, [(0, .inr (.inr v0)), (1, .inl v1), (2, .inl v2)], [], M)
    replace c6 := Int.not_le.mp c6
    replace h := h.2 c6
    refine mm_s1 rfl ?_
    refine nn_getr rfl C0.1 (lf_9_2 L N C0) ?_
    refine mm_s1 rfl ?_
    obtain ⟨b14, h⟩ := h
    have C14 : nn_C 5 (v0 + 90 + 15 * (v2).toNat) n := (nn_arr NN (nc_9_2 NN C0).2).1 (nc_9_2 NN C0).1 _ (nn_tn b14 (by decide))
    refine nn_aald rfl (nn_bd30 (na_9_2 NN C0) (by decide) b14) (nn_l35 L N (nc_9_2 NN C0) b14) ?_
    show mm_Go (mm_run 3) mc_Store_sure _ (15, [(0, .inr (.inr v0)), (1, .inl v1), (2, .inl v2)], [.inr (.inr (v0 + 90 + 15 * (v2).toNat))], M)
    refine mm_s1 rfl ⟨C14.1, ?_⟩
    show mm_Go (mm_run 3) mc_Store_sure _ (18, [(0, .inr (.inr v0)), (1, .inl v1), (2, .inl v2)], [.inl (nn_rf M (v0 + 90 + 15 * (v2).toNat) 5)], M)
    refine mm_s1 rfl ⟨fun c18 => ?_, fun c18 => ?_⟩
    · show mm_Go (mm_run 3) mc_Store_sure _ (35, [(0, .inr (.inr v0)), (1, .inl v1), (2, .inl v2)], [], M)
      replace h := h.1 c18
      refine mm_s1 rfl ?_
      show mm_Go (mm_run 3) mc_Store_sure _ (38, [(0, .inr (.inr v0)), (1, .inl v1), (2, .inl (mm_w (v2 + 1)))], [], M)
      refine mm_s1 rfl ?_
      show mm_Go (mm_run 3) mc_Store_sure _ (4, [(0, .inr (.inr v0)), (1, .inl v1), (2, .inl (mm_w (v2 + 1)))], [], M)
      exact nn_go_ext (nn_xc rfl (nn_xc rfl (nn_xc rfl nn_xn))) (h n L N C0)
    · show mm_Go (mm_run 3) mc_Store_sure _ (21, [(0, .inr (.inr v0)), (1, .inl v1), (2, .inl v2)], [], M)
      replace h := h.2 c18
      refine mm_s1 rfl ?_
      refine mm_s1 rfl ?_
      refine nn_getr rfl C0.1 (lf_9_2 L N C0) ?_
      refine mm_s1 rfl ?_
      obtain ⟨b27, h⟩ := h
      have C27 : nn_C 5 (v0 + 90 + 15 * (v2).toNat) n := (nn_arr NN (nc_9_2 NN C0).2).1 (nc_9_2 NN C0).1 _ (nn_tn b27 (by decide))
      refine nn_aald rfl (nn_bd30 (na_9_2 NN C0) (by decide) b27) (nn_l35 L N (nc_9_2 NN C0) b27) ?_
      show mm_Go (mm_run 3) mc_Store_sure _ (28, [(0, .inr (.inr v0)), (1, .inl v1), (2, .inl v2)], [.inr (.inr (v0 + 90 + 15 * (v2).toNat)), .inl v1], M)
      refine mm_s1 rfl ⟨C27.1, ?_⟩
      refine nn_call (D := 3) (by decide) (h n L N C27) ?_
      intro v M28 q; clear L N h
      obtain ⟨r28, rfl, L, N, h⟩ := q
      show mm_Go (mm_run 3) mc_Store_sure _ (31, [(0, .inr (.inr v0)), (1, .inl v1), (2, .inl v2)], [.inl r28, .inl v1], M28)
      refine mm_s1 rfl ⟨trivial, ?_⟩
      refine np_LI_lesser (by decide) L N ?_
      show mm_Go (mm_run 3) mc_Store_sure _ (34, [(0, .inr (.inr v0)), (1, .inl v1), (2, .inl v2)], [.inl (nf_LI_lesser v1 r28)], M28)
      refine mm_s1 rfl ?_
      show mm_Go (mm_run 3) mc_Store_sure _ (35, [(0, .inr (.inr v0)), (1, .inl (nf_LI_lesser v1 r28)), (2, .inl v2)], [], M28)
      refine mm_s1 rfl ?_
      show mm_Go (mm_run 3) mc_Store_sure _ (38, [(0, .inr (.inr v0)), (1, .inl (nf_LI_lesser v1 r28)), (2, .inl (mm_w (v2 + 1)))], [], M28)
      refine mm_s1 rfl ?_
      show mm_Go (mm_run 3) mc_Store_sure _ (4, [(0, .inr (.inr v0)), (1, .inl (nf_LI_lesser v1 r28)), (2, .inl (mm_w (v2 + 1)))], [], M28)
      exact nn_go_ext (nn_xc rfl (nn_xc rfl (nn_xc rfl nn_xn))) (h n L N C0)
def nr_Store_goAlong (v0 : Nat) (v1 : Nat) (v2 : Int) (v3 : Int) (M : mm_M) (R : Int → mm_M → Prop) : Prop := ∀ n, nn_L M → M.1 = n → nn_C 9 v0 n → nn_C 5 v1 n → mm_run 4 mi_Store_goAlong [.inr (.inr v0), .inr (.inr v1), .inl v2, .inl v3] M (nw_I n R)
def nk_Store_goAlong_19 (v0 : Nat) (v1 : Nat) (v2 : Int) (v4 : Int) (v5 : Int) (M : mm_M) (R : Int → mm_M → Prop) : Prop := ∀ n, nn_L M → M.1 = n → nn_C 9 v0 n → nn_C 5 v1 n → mm_Go (mm_run 3) mc_Store_goAlong (nw_I n R) (19, [(0, .inr (.inr v0)), (1, .inr (.inr v1)), (2, .inl v2), (4, .inl v4), (5, .inl v5)], [], M)
set_option maxRecDepth 20000 in
theorem ng_Store_goAlong (v0 : Nat) (v1 : Nat) (v2 : Int) (v3 : Int) (M : mm_M) (R : Int → mm_M → Prop) (h : (∀ x4_11 : Int, x4_11 = min 32 (mm_w ((nn_rf M v1 9) + v3)) → nk_Store_goAlong_19 v0 v1 v2 x4_11 (nn_rf M v1 9) M R)) : nr_Store_goAlong v0 v1 v2 v3 M R := by
  intro n L N C0 C1
  have NN := nn_L_n L N
  show mm_Go (mm_run 3) mc_Store_goAlong _ (0, [(0, .inr (.inr v0)), (1, .inr (.inr v1)), (2, .inl v2), (3, .inl v3)], [], M)
  refine mm_s1 rfl ?_
  refine mm_s1 rfl ?_
  refine mm_s1 rfl ⟨C1.1, ?_⟩
  show mm_Go (mm_run 3) mc_Store_goAlong _ (6, [(0, .inr (.inr v0)), (1, .inr (.inr v1)), (2, .inl v2), (3, .inl v3)], [.inl (nn_rf M v1 9), .inl 32], M)
  refine mm_s1 rfl ?_
  refine mm_s1 rfl ?_
  refine mm_s1 rfl ?_
  refine mm_s1 rfl ?_
  show mm_Go (mm_run 3) mc_Store_goAlong _ (13, [(0, .inr (.inr v0)), (1, .inr (.inr v1)), (2, .inl v2), (3, .inl v3), (4, .inl (min 32 (mm_w ((nn_rf M v1 9) + v3))))], [], M)
  generalize e_x4_11 : (min 32 (mm_w ((nn_rf M v1 9) + v3))) = x4_11
  replace h := h _ e_x4_11.symm
  show mm_Go (mm_run 3) mc_Store_goAlong _ (13, [(0, .inr (.inr v0)), (1, .inr (.inr v1)), (2, .inl v2), (3, .inl v3), (4, .inl x4_11)], [], M)
  refine mm_s1 rfl ?_
  refine mm_s1 rfl ⟨C1.1, ?_⟩
  show mm_Go (mm_run 3) mc_Store_goAlong _ (17, [(0, .inr (.inr v0)), (1, .inr (.inr v1)), (2, .inl v2), (3, .inl v3), (4, .inl x4_11)], [.inl (nn_rf M v1 9)], M)
  refine mm_s1 rfl ?_
  show mm_Go (mm_run 3) mc_Store_goAlong _ (19, [(0, .inr (.inr v0)), (1, .inr (.inr v1)), (2, .inl v2), (3, .inl v3), (4, .inl x4_11), (5, .inl (nn_rf M v1 9))], [], M)
  exact nn_go_ext (nn_xc rfl (nn_xc rfl (nn_xc rfl (nn_xc rfl (nn_xc rfl nn_xn))))) (h n L N C0 C1)
set_option maxRecDepth 20000 in
theorem ng_Store_goAlong_19 (v0 : Nat) (v1 : Nat) (v2 : Int) (v4 : Int) (v5 : Int) (M : mm_M) (R : Int → mm_M → Prop) (h : ((v4 ≤ v5 → (∀ M48 : mm_M, M48 = nn_uf M v1 9 v4 → ((32 ≤ v4 → (((nn_rf M48 v1 6) = 0 → (nr_Index_finish v1 (v0 + 3) M48 (fun M92 => R 0 M92))) ∧ ((nn_rf M48 v1 6) ≠ 0 → (nr_Index_clash v1 M48 (fun r72 M72 => ((r72 ≠ (-1) → (∀ M104 : mm_M, M104 = nn_uf M72 v0 12 (mm_w ((nn_rf M72 v0 12) + 1)) → (∀ M109 : mm_M, M109 = nn_uf M104 v1 5 0 → (nr_Index_another v1 r72 (-1) M109 (fun r116 M116 => (nr_Index_another v1 r72 r116 M116 (fun r128 M128 => (nr_Store_tell v0 2 r128 M128 (fun M131 => (nr_Store_tellBy v0 v2 r72 r116 M131 (fun M140 => R (-2) M140))))))))))) ∧ (r72 = (-1) → (nr_Index_finish v1 (v0 + 3) M72 (fun M92 => R 0 M92))))))))) ∧ (v4 < 32 → R (mm_w (32 - v4)) M48)))) ∧ (v5 < v4 → (nr_Index_keepAside v1 v5 (v0 + 7) M (fun M36 => nk_Store_goAlong_19 v0 v1 v2 v4 (mm_w (v5 + 1)) M36 R))))) : nk_Store_goAlong_19 v0 v1 v2 v4 v5 M R := by
  intro n L N C0 C1
  have NN := nn_L_n L N
  show mm_Go (mm_run 3) mc_Store_goAlong _ (19, [(0, .inr (.inr v0)), (1, .inr (.inr v1)), (2, .inl v2), (4, .inl v4), (5, .inl v5)], [], M)
  refine mm_s1 rfl ?_
  refine mm_s1 rfl ?_
  refine mm_s1 rfl ⟨fun c23 => ?_, fun c23 => ?_⟩
  · show mm_Go (mm_run 3) mc_Store_goAlong _ (45, [(0, .inr (.inr v0)), (1, .inr (.inr v1)), (2, .inl v2), (4, .inl v4), (5, .inl v5)], [], M)
    replace h := h.1 c23
    refine mm_s1 rfl ?_
    refine mm_s1 rfl ?_
    refine mm_s1 rfl ⟨C1.1, ?_⟩
    show mm_Go (mm_run 3) mc_Store_goAlong _ (51, [(0, .inr (.inr v0)), (1, .inr (.inr v1)), (2, .inl v2), (4, .inl v4), (5, .inl v5)], [], (nn_uf M v1 9 v4))
    have L : nn_L (nn_uf M v1 9 v4) := nn_L_up L C1.1 rfl
    have N : (nn_uf M v1 9 v4).1 = n := N
    generalize e_M48 : (nn_uf M v1 9 v4) = M48 at L N ⊢
    replace h := h _ e_M48.symm
    show mm_Go (mm_run 3) mc_Store_goAlong _ (51, [(0, .inr (.inr v0)), (1, .inr (.inr v1)), (2, .inl v2), (4, .inl v4), (5, .inl v5)], [], M48)
    refine mm_s1 rfl ?_
    refine mm_s1 rfl ?_
    refine mm_s1 rfl ⟨fun c55 => ?_, fun c55 => ?_⟩
    · show mm_Go (mm_run 3) mc_Store_goAlong _ (64, [(0, .inr (.inr v0)), (1, .inr (.inr v1)), (2, .inl v2), (4, .inl v4), (5, .inl v5)], [], M48)
      replace h := h.1 c55
      refine mm_s1 rfl ?_
      refine mm_s1 rfl ⟨C1.1, ?_⟩
      show mm_Go (mm_run 3) mc_Store_goAlong _ (68, [(0, .inr (.inr v0)), (1, .inr (.inr v1)), (2, .inl v2), (4, .inl v4), (5, .inl v5)], [.inl (nn_rf M48 v1 6)], M48)
      refine mm_s1 rfl ⟨fun c68 => ?_, fun c68 => ?_⟩
      · show mm_Go (mm_run 3) mc_Store_goAlong _ (78, [(0, .inr (.inr v0)), (1, .inr (.inr v1)), (2, .inl v2), (4, .inl v4), (5, .inl v5)], [], M48)
        replace h := h.1 c68
        refine mm_s1 rfl ?_
        refine mm_s1 rfl ?_
        show mm_Go (mm_run 3) mc_Store_goAlong _ (81, [(0, .inr (.inr v0)), (1, .inr (.inr v1)), (2, .inl v2), (4, .inl v4), (5, .inl (-1))], [], M48)
        refine mm_s1 rfl ?_
        refine mm_s1 rfl ?_
        refine mm_s1 rfl ⟨fun c => absurd c (show ¬ ((-1 : Int) ≠ -1) by decide), fun _ => ?_⟩
        show mm_Go (mm_run 3) mc_Store_goAlong _ (87, [(0, .inr (.inr v0)), (1, .inr (.inr v1)), (2, .inl v2), (4, .inl v4), (5, .inl (-1))], [], M48)
        refine mm_s1 rfl ?_
        refine mm_s1 rfl ?_
        refine nn_getr rfl C0.1 (lf_9_1 L N C0) ?_
        refine mm_s1 rfl ⟨C1.1, ?_⟩
        refine nn_call (D := 3) (by decide) (h n L N C1 (nc_9_1 NN C0)) ?_
        intro v M92 q; clear L N h
        obtain ⟨rfl, L, N, h⟩ := q
        show mm_Go (mm_run 3) mc_Store_goAlong _ (95, [(0, .inr (.inr v0)), (1, .inr (.inr v1)), (2, .inl v2), (4, .inl v4), (5, .inl (-1))], [], M92)
        refine mm_s1 rfl ?_
        exact mm_s1 rfl ⟨_, rfl, L, N, h⟩
      · show mm_Go (mm_run 3) mc_Store_goAlong _ (71, [(0, .inr (.inr v0)), (1, .inr (.inr v1)), (2, .inl v2), (4, .inl v4), (5, .inl v5)], [], M48)
        replace h := h.2 c68
        refine mm_s1 rfl ?_
        refine mm_s1 rfl ⟨C1.1, ?_⟩
        refine nn_call (D := 2) (by decide) (h n L N C1) ?_
        intro v M72 q; clear L N h
        obtain ⟨r72, rfl, L, N, h⟩ := q
        show mm_Go (mm_run 3) mc_Store_goAlong _ (75, [(0, .inr (.inr v0)), (1, .inr (.inr v1)), (2, .inl v2), (4, .inl v4), (5, .inl v5)], [.inl r72], M72)
        refine mm_s1 rfl ?_
        show mm_Go (mm_run 3) mc_Store_goAlong _ (79, [(0, .inr (.inr v0)), (1, .inr (.inr v1)), (2, .inl v2), (4, .inl v4), (5, .inl v5)], [.inl r72], M72)
        refine mm_s1 rfl ?_
        show mm_Go (mm_run 3) mc_Store_goAlong _ (81, [(0, .inr (.inr v0)), (1, .inr (.inr v1)), (2, .inl v2), (4, .inl v4), (5, .inl r72)], [], M72)
        refine mm_s1 rfl ?_
        refine mm_s1 rfl ?_
        refine mm_s1 rfl ⟨fun c84 => ?_, fun c84 => ?_⟩
        · show mm_Go (mm_run 3) mc_Store_goAlong _ (97, [(0, .inr (.inr v0)), (1, .inr (.inr v1)), (2, .inl v2), (4, .inl v4), (5, .inl r72)], [], M72)
          replace h := h.1 c84
          refine mm_s1 rfl ?_
          refine mm_s1 rfl ?_
          refine mm_s1 rfl ⟨C0.1, ?_⟩
          show mm_Go (mm_run 3) mc_Store_goAlong _ (102, [(0, .inr (.inr v0)), (1, .inr (.inr v1)), (2, .inl v2), (4, .inl v4), (5, .inl r72)], [.inl (nn_rf M72 v0 12), .inr (.inr v0)], M72)
          refine mm_s1 rfl ?_
          refine mm_s1 rfl ?_
          refine mm_s1 rfl ⟨C0.1, ?_⟩
          show mm_Go (mm_run 3) mc_Store_goAlong _ (107, [(0, .inr (.inr v0)), (1, .inr (.inr v1)), (2, .inl v2), (4, .inl v4), (5, .inl r72)], [], (nn_uf M72 v0 12 (mm_w ((nn_rf M72 v0 12) + 1))))
          have L : nn_L (nn_uf M72 v0 12 (mm_w ((nn_rf M72 v0 12) + 1))) := nn_L_up L C0.1 rfl
          have N : (nn_uf M72 v0 12 (mm_w ((nn_rf M72 v0 12) + 1))).1 = n := N
          generalize e_M104 : (nn_uf M72 v0 12 (mm_w ((nn_rf M72 v0 12) + 1))) = M104 at L N ⊢
          replace h := h _ e_M104.symm
          show mm_Go (mm_run 3) mc_Store_goAlong _ (107, [(0, .inr (.inr v0)), (1, .inr (.inr v1)), (2, .inl v2), (4, .inl v4), (5, .inl r72)], [], M104)
          refine mm_s1 rfl ?_
          refine mm_s1 rfl ?_
          refine mm_s1 rfl ⟨C1.1, ?_⟩
          show mm_Go (mm_run 3) mc_Store_goAlong _ (112, [(0, .inr (.inr v0)), (1, .inr (.inr v1)), (2, .inl v2), (4, .inl v4), (5, .inl r72)], [], (nn_uf M104 v1 5 0))
          have L : nn_L (nn_uf M104 v1 5 0) := nn_L_up L C1.1 rfl
          have N : (nn_uf M104 v1 5 0).1 = n := N
          generalize e_M109 : (nn_uf M104 v1 5 0) = M109 at L N ⊢
          replace h := h _ e_M109.symm
          show mm_Go (mm_run 3) mc_Store_goAlong _ (112, [(0, .inr (.inr v0)), (1, .inr (.inr v1)), (2, .inl v2), (4, .inl v4), (5, .inl r72)], [], M109)
          refine mm_s1 rfl ?_
          refine mm_s1 rfl ?_
          refine mm_s1 rfl ?_
          refine mm_s1 rfl ⟨C1.1, ?_⟩
          refine nn_call (D := 1) (by decide) (h n L N C1) ?_
          intro v M116 q; clear L N h
          obtain ⟨r116, rfl, L, N, h⟩ := q
          show mm_Go (mm_run 3) mc_Store_goAlong _ (119, [(0, .inr (.inr v0)), (1, .inr (.inr v1)), (2, .inl v2), (4, .inl v4), (5, .inl r72)], [.inl r116], M116)
          refine mm_s1 rfl ?_
          show mm_Go (mm_run 3) mc_Store_goAlong _ (121, [(0, .inr (.inr v0)), (1, .inr (.inr v1)), (2, .inl v2), (4, .inl v4), (5, .inl r72), (6, .inl r116)], [], M116)
          refine mm_s1 rfl ?_
          refine mm_s1 rfl ?_
          refine mm_s1 rfl ?_
          refine mm_s1 rfl ?_
          refine mm_s1 rfl ?_
          show mm_Go (mm_run 3) mc_Store_goAlong _ (128, [(0, .inr (.inr v0)), (1, .inr (.inr v1)), (2, .inl v2), (4, .inl v4), (5, .inl r72), (6, .inl r116)], [.inl r116, .inl r72, .inr (.inr v1), .inl 2, .inr (.inr v0)], M116)
          refine mm_s1 rfl ⟨C1.1, ?_⟩
          refine nn_call (D := 1) (by decide) (h n L N C1) ?_
          intro v M128 q; clear L N h
          obtain ⟨r128, rfl, L, N, h⟩ := q
          show mm_Go (mm_run 3) mc_Store_goAlong _ (131, [(0, .inr (.inr v0)), (1, .inr (.inr v1)), (2, .inl v2), (4, .inl v4), (5, .inl r72), (6, .inl r116)], [.inl r128, .inl 2, .inr (.inr v0)], M128)
          refine mm_s1 rfl ⟨C0.1, ?_⟩
          refine nn_call (D := 1) (by decide) (h n L N C0) ?_
          intro v M131 q; clear L N h
          obtain ⟨rfl, L, N, h⟩ := q
          show mm_Go (mm_run 3) mc_Store_goAlong _ (134, [(0, .inr (.inr v0)), (1, .inr (.inr v1)), (2, .inl v2), (4, .inl v4), (5, .inl r72), (6, .inl r116)], [], M131)
          refine mm_s1 rfl ?_
          refine mm_s1 rfl ?_
          refine mm_s1 rfl ?_
          refine mm_s1 rfl ?_
          refine mm_s1 rfl ⟨C0.1, ?_⟩
          refine nn_call (D := 1) (by decide) (h n L N C0) ?_
          intro v M140 q; clear L N h
          obtain ⟨rfl, L, N, h⟩ := q
          show mm_Go (mm_run 3) mc_Store_goAlong _ (143, [(0, .inr (.inr v0)), (1, .inr (.inr v1)), (2, .inl v2), (4, .inl v4), (5, .inl r72), (6, .inl r116)], [], M140)
          refine mm_s1 rfl ?_
          exact mm_s1 rfl ⟨_, rfl, L, N, h⟩
        · show mm_Go (mm_run 3) mc_Store_goAlong _ (87, [(0, .inr (.inr v0)), (1, .inr (.inr v1)), (2, .inl v2), (4, .inl v4), (5, .inl r72)], [], M72)
          replace c84 := Decidable.not_not.mp c84
          replace h := h.2 c84
          refine mm_s1 rfl ?_
          refine mm_s1 rfl ?_
          refine nn_getr rfl C0.1 (lf_9_1 L N C0) ?_
          refine mm_s1 rfl ⟨C1.1, ?_⟩
          refine nn_call (D := 3) (by decide) (h n L N C1 (nc_9_1 NN C0)) ?_
          intro v M92 q; clear L N h
          obtain ⟨rfl, L, N, h⟩ := q
          show mm_Go (mm_run 3) mc_Store_goAlong _ (95, [(0, .inr (.inr v0)), (1, .inr (.inr v1)), (2, .inl v2), (4, .inl v4), (5, .inl r72)], [], M92)
          refine mm_s1 rfl ?_
          exact mm_s1 rfl ⟨_, rfl, L, N, h⟩
    · show mm_Go (mm_run 3) mc_Store_goAlong _ (58, [(0, .inr (.inr v0)), (1, .inr (.inr v1)), (2, .inl v2), (4, .inl v4), (5, .inl v5)], [], M48)
      replace c55 := Int.not_le.mp c55
      replace h := h.2 c55
      refine mm_s1 rfl ?_
      refine mm_s1 rfl ?_
      refine mm_s1 rfl ?_
      exact mm_s1 rfl ⟨_, rfl, L, N, h⟩
  · show mm_Go (mm_run 3) mc_Store_goAlong _ (26, [(0, .inr (.inr v0)), (1, .inr (.inr v1)), (2, .inl v2), (4, .inl v4), (5, .inl v5)], [], M)
    replace c23 := Int.not_le.mp c23
    replace h := h.2 c23
    refine mm_s1 rfl ?_
    refine mm_s1 rfl ?_
    refine mm_s1 rfl ?_
    refine nn_getr rfl C0.1 (lf_9_1 L N C0) ?_
    refine nn_getr rfl (nc_9_1 NN C0).1 (lf_10_1 L N (nc_9_1 NN C0)) ?_
    show mm_Go (mm_run 3) mc_Store_goAlong _ (36, [(0, .inr (.inr v0)), (1, .inr (.inr v1)), (2, .inl v2), (4, .inl v4), (5, .inl v5)], [.inr (.inr (v0 + 7)), .inl v5, .inr (.inr v1)], M)
    refine mm_s1 rfl ⟨C1.1, ?_⟩
    refine nn_call (D := 2) (by decide) (h n L N C1 (nc_10_1 NN (nc_9_1 NN C0))) ?_
    intro v M36 q; clear L N h
    obtain ⟨rfl, L, N, h⟩ := q
    show mm_Go (mm_run 3) mc_Store_goAlong _ (39, [(0, .inr (.inr v0)), (1, .inr (.inr v1)), (2, .inl v2), (4, .inl v4), (5, .inl v5)], [], M36)
    refine mm_s1 rfl ?_
    show mm_Go (mm_run 3) mc_Store_goAlong _ (42, [(0, .inr (.inr v0)), (1, .inr (.inr v1)), (2, .inl v2), (4, .inl v4), (5, .inl (mm_w (v5 + 1)))], [], M36)
    refine mm_s1 rfl ?_
    show mm_Go (mm_run 3) mc_Store_goAlong _ (19, [(0, .inr (.inr v0)), (1, .inr (.inr v1)), (2, .inl v2), (4, .inl v4), (5, .inl (mm_w (v5 + 1)))], [], M36)
    exact nn_go_ext (nn_xc rfl (nn_xc rfl (nn_xc rfl (nn_xc rfl (nn_xc rfl nn_xn))))) (h n L N C0 C1)
def nr_Store_heldBy (v0 : Nat) (v1 : Int) (M : mm_M) (R : Int → mm_M → Prop) : Prop := ∀ n, nn_L M → M.1 = n → nn_C 9 v0 n → mm_run 4 mi_Store_heldBy [.inr (.inr v0), .inl v1] M (nw_I n R)
def nk_Store_heldBy_28 (v0 : Nat) (v1 : Int) (v2 : Nat) (v3 : Int) (M : mm_M) (R : Int → mm_M → Prop) : Prop := ∀ n, nn_L M → M.1 = n → nn_C 9 v0 n → nn_C 12 v2 n → mm_Go (mm_run 3) mc_Store_heldBy (nw_I n R) (28, [(0, .inr (.inr v0)), (1, .inl v1), (2, .inr (.inr v2)), (3, .inl v3)], [], M)
set_option maxRecDepth 20000 in
theorem ng_Store_heldBy (v0 : Nat) (v1 : Int) (M : mm_M) (R : Int → mm_M → Prop) (h : ((((nf_Versions_has (v0 + 7) v1 M) ≠ 0) → (nc_Versions_isThere (v0 + 7) v1 M)) ∧ (((nf_Versions_has (v0 + 7) v1 M) = 0 ∨ ((nf_Versions_isThere (v0 + 7) v1 M) ≠ 0)) → R (-1) M) ∧ (((nf_Versions_has (v0 + 7) v1 M) ≠ 0 ∧ ((nf_Versions_isThere (v0 + 7) v1 M) = 0)) → nk_Store_heldBy_28 v0 v1 (v0 + 7) 0 M R))) : nr_Store_heldBy v0 v1 M R := by
  intro n L N C0
  have NN := nn_L_n L N
  show mm_Go (mm_run 3) mc_Store_heldBy _ (0, [(0, .inr (.inr v0)), (1, .inl v1)], [], M)
  refine mm_s1 rfl ?_
  refine nn_getr rfl C0.1 (lf_9_1 L N C0) ?_
  refine nn_getr rfl (nc_9_1 NN C0).1 (lf_10_1 L N (nc_9_1 NN C0)) ?_
  refine mm_s1 rfl ?_
  show mm_Go (mm_run 3) mc_Store_heldBy _ (8, [(0, .inr (.inr v0)), (1, .inl v1), (2, .inr (.inr (v0 + 7)))], [], M)
  refine mm_s1 rfl ?_
  refine mm_s1 rfl ?_
  refine mm_s1 rfl ⟨(nc_10_1 NN (nc_9_1 NN C0)).1, ?_⟩
  refine np_Versions_has (by decide) L N (nc_10_1 NN (nc_9_1 NN C0)) ?_
  show mm_Go (mm_run 3) mc_Store_heldBy _ (13, [(0, .inr (.inr v0)), (1, .inl v1), (2, .inr (.inr (v0 + 7)))], [.inl (nf_Versions_has (v0 + 7) v1 M)], M)
  refine mm_s1 rfl ⟨fun c13 => ?_, fun c13 => ?_⟩
  · show mm_Go (mm_run 3) mc_Store_heldBy _ (24, [(0, .inr (.inr v0)), (1, .inl v1), (2, .inr (.inr (v0 + 7)))], [], M)
    refine mm_s1 rfl ?_
    replace h := h.2.1 (Or.inl c13)
    exact mm_s1 rfl ⟨_, rfl, L, N, h⟩
  · show mm_Go (mm_run 3) mc_Store_heldBy _ (16, [(0, .inr (.inr v0)), (1, .inl v1), (2, .inr (.inr (v0 + 7)))], [], M)
    refine mm_s1 rfl ?_
    refine mm_s1 rfl ?_
    have b18 := h.1 c13
    refine mm_s1 rfl ⟨(nc_10_1 NN (nc_9_1 NN C0)).1, ?_⟩
    refine np_Versions_isThere (by decide) L N (nc_10_1 NN (nc_9_1 NN C0)) b18 ?_
    show mm_Go (mm_run 3) mc_Store_heldBy _ (21, [(0, .inr (.inr v0)), (1, .inl v1), (2, .inr (.inr (v0 + 7)))], [.inl (nf_Versions_isThere (v0 + 7) v1 M)], M)
    refine mm_s1 rfl ⟨fun c21 => ?_, fun c21 => ?_⟩
    · show mm_Go (mm_run 3) mc_Store_heldBy _ (26, [(0, .inr (.inr v0)), (1, .inl v1), (2, .inr (.inr (v0 + 7)))], [], M)
      refine mm_s1 rfl ?_
      refine mm_s1 rfl ?_
      show mm_Go (mm_run 3) mc_Store_heldBy _ (28, [(0, .inr (.inr v0)), (1, .inl v1), (2, .inr (.inr (v0 + 7))), (3, .inl 0)], [], M)
      replace h := h.2.2 ⟨c13, c21⟩
      exact nn_go_ext (nn_xc rfl (nn_xc rfl (nn_xc rfl (nn_xc rfl nn_xn)))) (h n L N C0 (nc_10_1 NN (nc_9_1 NN C0)))
    · show mm_Go (mm_run 3) mc_Store_heldBy _ (24, [(0, .inr (.inr v0)), (1, .inl v1), (2, .inr (.inr (v0 + 7)))], [], M)
      refine mm_s1 rfl ?_
      replace h := h.2.1 (Or.inr c21)
      exact mm_s1 rfl ⟨_, rfl, L, N, h⟩
set_option maxRecDepth 20000 in
theorem ng_Store_heldBy_28 (v0 : Nat) (v1 : Int) (v2 : Nat) (v3 : Int) (M : mm_M) (R : Int → mm_M → Prop) (h : ((4 ≤ v3 → R (-1) M) ∧ (v3 < 4 → (((0 : Int) ≤ v3 ∧ v3 < (4 : Int)) ∧ (((nn_rf M (v0 + 90 + 15 * (v3).toNat) 5) ≠ 0 → (((0 : Int) ≤ v3 ∧ v3 < (4 : Int)) ∧ (nr_Index_sure (v0 + 90 + 15 * (v3).toNat) M (fun r55 M55 => (((r55 ≠ (-1)) → ((0 : Int) ≤ v1 ∧ v1 < (32 : Int))) ∧ ((r55 = (-1) ∨ ((nn_ri M55 (v2 + 2) v1) ≤ r55)) → nk_Store_heldBy_28 v0 v1 v2 (mm_w (v3 + 1)) M55 R) ∧ ((r55 ≠ (-1) ∧ (r55 < (nn_ri M55 (v2 + 2) v1))) → R v3 M55)))))) ∧ ((nn_rf M (v0 + 90 + 15 * (v3).toNat) 5) = 0 → nk_Store_heldBy_28 v0 v1 v2 (mm_w (v3 + 1)) M R)))))) : nk_Store_heldBy_28 v0 v1 v2 v3 M R := by
  intro n L N C0 C2
  have NN := nn_L_n L N
  show mm_Go (mm_run 3) mc_Store_heldBy _ (28, [(0, .inr (.inr v0)), (1, .inl v1), (2, .inr (.inr v2)), (3, .inl v3)], [], M)
  refine mm_s1 rfl ?_
  refine mm_s1 rfl ?_
  refine mm_s1 rfl ⟨fun c30 => ?_, fun c30 => ?_⟩
  · show mm_Go (mm_run 3) mc_Store_heldBy _ (85, [(0, .inr (.inr v0)), (1, .inl v1), (2, .inr (.inr v2)), (3, .inl v3)], [], M)
    replace h := h.1 c30
    refine mm_s1 rfl ?_
    exact mm_s1 rfl ⟨_, rfl, L, N, h⟩
  · show mm_Go (mm_run 3) mc_Store_heldBy _ (33, [(0, .inr (.inr v0)), (1, .inl v1), (2, .inr (.inr v2)), (3, .inl v3)], [], M)
    replace c30 := Int.not_le.mp c30
    replace h := h.2 c30
    refine mm_s1 rfl ?_
    refine nn_getr rfl C0.1 (lf_9_2 L N C0) ?_
    refine mm_s1 rfl ?_
    obtain ⟨b38, h⟩ := h
    have C38 : nn_C 5 (v0 + 90 + 15 * (v3).toNat) n := (nn_arr NN (nc_9_2 NN C0).2).1 (nc_9_2 NN C0).1 _ (nn_tn b38 (by decide))
    refine nn_aald rfl (nn_bd30 (na_9_2 NN C0) (by decide) b38) (nn_l35 L N (nc_9_2 NN C0) b38) ?_
    show mm_Go (mm_run 3) mc_Store_heldBy _ (39, [(0, .inr (.inr v0)), (1, .inl v1), (2, .inr (.inr v2)), (3, .inl v3)], [.inr (.inr (v0 + 90 + 15 * (v3).toNat))], M)
    refine mm_s1 rfl ⟨C38.1, ?_⟩
    show mm_Go (mm_run 3) mc_Store_heldBy _ (42, [(0, .inr (.inr v0)), (1, .inl v1), (2, .inr (.inr v2)), (3, .inl v3)], [.inl (nn_rf M (v0 + 90 + 15 * (v3).toNat) 5)], M)
    refine mm_s1 rfl ⟨fun c42 => ?_, fun c42 => ?_⟩
    · show mm_Go (mm_run 3) mc_Store_heldBy _ (49, [(0, .inr (.inr v0)), (1, .inl v1), (2, .inr (.inr v2)), (3, .inl v3)], [], M)
      replace h := h.1 c42
      refine mm_s1 rfl ?_
      refine nn_getr rfl C0.1 (lf_9_2 L N C0) ?_
      refine mm_s1 rfl ?_
      obtain ⟨b54, h⟩ := h
      have C54 : nn_C 5 (v0 + 90 + 15 * (v3).toNat) n := (nn_arr NN (nc_9_2 NN C0).2).1 (nc_9_2 NN C0).1 _ (nn_tn b54 (by decide))
      refine nn_aald rfl (nn_bd30 (na_9_2 NN C0) (by decide) b54) (nn_l35 L N (nc_9_2 NN C0) b54) ?_
      show mm_Go (mm_run 3) mc_Store_heldBy _ (55, [(0, .inr (.inr v0)), (1, .inl v1), (2, .inr (.inr v2)), (3, .inl v3)], [.inr (.inr (v0 + 90 + 15 * (v3).toNat))], M)
      refine mm_s1 rfl ⟨C54.1, ?_⟩
      refine nn_call (D := 3) (by decide) (h n L N C54) ?_
      intro v M55 q; clear L N h
      obtain ⟨r55, rfl, L, N, h⟩ := q
      show mm_Go (mm_run 3) mc_Store_heldBy _ (58, [(0, .inr (.inr v0)), (1, .inl v1), (2, .inr (.inr v2)), (3, .inl v3)], [.inl r55], M55)
      refine mm_s1 rfl ?_
      show mm_Go (mm_run 3) mc_Store_heldBy _ (60, [(0, .inr (.inr v0)), (1, .inl v1), (2, .inr (.inr v2)), (3, .inl v3), (4, .inl r55)], [], M55)
      refine mm_s1 rfl ?_
      refine mm_s1 rfl ?_
      refine mm_s1 rfl ⟨fun c63 => ?_, fun c63 => ?_⟩
      · show mm_Go (mm_run 3) mc_Store_heldBy _ (79, [(0, .inr (.inr v0)), (1, .inl v1), (2, .inr (.inr v2)), (3, .inl v3), (4, .inl r55)], [], M55)
        refine mm_s1 rfl ?_
        show mm_Go (mm_run 3) mc_Store_heldBy _ (82, [(0, .inr (.inr v0)), (1, .inl v1), (2, .inr (.inr v2)), (3, .inl (mm_w (v3 + 1))), (4, .inl r55)], [], M55)
        refine mm_s1 rfl ?_
        show mm_Go (mm_run 3) mc_Store_heldBy _ (28, [(0, .inr (.inr v0)), (1, .inl v1), (2, .inr (.inr v2)), (3, .inl (mm_w (v3 + 1))), (4, .inl r55)], [], M55)
        replace h := h.2.1 (Or.inl c63)
        exact nn_go_ext (nn_xc rfl (nn_xc rfl (nn_xc rfl (nn_xc rfl nn_xn)))) (h n L N C0 C2)
      · show mm_Go (mm_run 3) mc_Store_heldBy _ (66, [(0, .inr (.inr v0)), (1, .inl v1), (2, .inr (.inr v2)), (3, .inl v3), (4, .inl r55)], [], M55)
        refine mm_s1 rfl ?_
        refine mm_s1 rfl ?_
        refine nn_getr rfl C2.1 (lf_12_1 L N C2) ?_
        refine mm_s1 rfl ?_
        have b73 := h.1 c63
        refine mm_s1 rfl ⟨nn_bd (na_12_1 NN C2) b73, ?_⟩
        show mm_Go (mm_run 3) mc_Store_heldBy _ (74, [(0, .inr (.inr v0)), (1, .inl v1), (2, .inr (.inr v2)), (3, .inl v3), (4, .inl r55)], [.inl (nn_ri M55 (v2 + 2) v1), .inl r55], M55)
        refine mm_s1 rfl ⟨fun c74 => ?_, fun c74 => ?_⟩
        · show mm_Go (mm_run 3) mc_Store_heldBy _ (79, [(0, .inr (.inr v0)), (1, .inl v1), (2, .inr (.inr v2)), (3, .inl v3), (4, .inl r55)], [], M55)
          refine mm_s1 rfl ?_
          show mm_Go (mm_run 3) mc_Store_heldBy _ (82, [(0, .inr (.inr v0)), (1, .inl v1), (2, .inr (.inr v2)), (3, .inl (mm_w (v3 + 1))), (4, .inl r55)], [], M55)
          refine mm_s1 rfl ?_
          show mm_Go (mm_run 3) mc_Store_heldBy _ (28, [(0, .inr (.inr v0)), (1, .inl v1), (2, .inr (.inr v2)), (3, .inl (mm_w (v3 + 1))), (4, .inl r55)], [], M55)
          replace h := h.2.1 (Or.inr c74)
          exact nn_go_ext (nn_xc rfl (nn_xc rfl (nn_xc rfl (nn_xc rfl nn_xn)))) (h n L N C0 C2)
        · show mm_Go (mm_run 3) mc_Store_heldBy _ (77, [(0, .inr (.inr v0)), (1, .inl v1), (2, .inr (.inr v2)), (3, .inl v3), (4, .inl r55)], [], M55)
          replace c74 := Int.not_le.mp c74
          refine mm_s1 rfl ?_
          replace h := h.2.2 ⟨c63, c74⟩
          exact mm_s1 rfl ⟨_, rfl, L, N, h⟩
    · show mm_Go (mm_run 3) mc_Store_heldBy _ (45, [(0, .inr (.inr v0)), (1, .inl v1), (2, .inr (.inr v2)), (3, .inl v3)], [], M)
      replace c42 := Decidable.not_not.mp c42
      replace h := h.2 c42
      refine mm_s1 rfl ?_
      refine mm_s1 rfl ?_
      show mm_Go (mm_run 3) mc_Store_heldBy _ (58, [(0, .inr (.inr v0)), (1, .inl v1), (2, .inr (.inr v2)), (3, .inl v3)], [.inl (-1)], M)
      refine mm_s1 rfl ?_
      show mm_Go (mm_run 3) mc_Store_heldBy _ (60, [(0, .inr (.inr v0)), (1, .inl v1), (2, .inr (.inr v2)), (3, .inl v3), (4, .inl (-1))], [], M)
      refine mm_s1 rfl ?_
      refine mm_s1 rfl ?_
      refine mm_s1 rfl ⟨fun _ => ?_, fun c => absurd (show (-1 : Int) = -1 by decide) c⟩
      show mm_Go (mm_run 3) mc_Store_heldBy _ (79, [(0, .inr (.inr v0)), (1, .inl v1), (2, .inr (.inr v2)), (3, .inl v3), (4, .inl (-1))], [], M)
      refine mm_s1 rfl ?_
      show mm_Go (mm_run 3) mc_Store_heldBy _ (82, [(0, .inr (.inr v0)), (1, .inl v1), (2, .inr (.inr v2)), (3, .inl (mm_w (v3 + 1))), (4, .inl (-1))], [], M)
      refine mm_s1 rfl ?_
      show mm_Go (mm_run 3) mc_Store_heldBy _ (28, [(0, .inr (.inr v0)), (1, .inl v1), (2, .inr (.inr v2)), (3, .inl (mm_w (v3 + 1))), (4, .inl (-1))], [], M)
      exact nn_go_ext (nn_xc rfl (nn_xc rfl (nn_xc rfl (nn_xc rfl nn_xn)))) (h n L N C0 C2)
def nr_Store_copy (v0 : Nat) (v1 : Nat) (M : mm_M) (R : mm_M → Prop) : Prop := ∀ n, nn_L M → M.1 = n → nn_C 9 v0 n → nn_C 9 v1 n → mm_run 4 mi_Store_copy [.inr (.inr v0), .inr (.inr v1)] M (nw_V n R)
def nk_Store_copy_35 (v0 : Nat) (v1 : Nat) (v2 : Int) (M : mm_M) (R : mm_M → Prop) : Prop := ∀ n, nn_L M → M.1 = n → nn_C 9 v0 n → nn_C 9 v1 n → mm_Go (mm_run 3) mc_Store_copy (nw_V n R) (35, [(0, .inr (.inr v0)), (1, .inr (.inr v1)), (2, .inl v2)], [], M)
def nk_Store_copy_63 (v0 : Nat) (v1 : Nat) (v2 : Int) (M : mm_M) (R : mm_M → Prop) : Prop := ∀ n, nn_L M → M.1 = n → nn_C 9 v0 n → nn_C 9 v1 n → mm_Go (mm_run 3) mc_Store_copy (nw_V n R) (63, [(0, .inr (.inr v0)), (1, .inr (.inr v1)), (2, .inl v2)], [], M)
set_option maxRecDepth 20000 in
theorem ng_Store_copy (v0 : Nat) (v1 : Nat) (M : mm_M) (R : mm_M → Prop) (h : (nr_Tape_copy (v0 + 1) (v1 + 1) M (fun M8 => (nr_Table_copy (v0 + 3) (v1 + 3) M8 (fun M19 => (nr_Cost_copy (v0 + 87) (v1 + 87) M19 (fun M30 => nk_Store_copy_35 v0 v1 0 M30 R))))))) : nr_Store_copy v0 v1 M R := by
  intro n L N C0 C1
  have NN := nn_L_n L N
  show mm_Go (mm_run 3) mc_Store_copy _ (0, [(0, .inr (.inr v0)), (1, .inr (.inr v1))], [], M)
  refine mm_s1 rfl ?_
  refine nn_getr rfl C0.1 (lf_9_0 L N C0) ?_
  refine mm_s1 rfl ?_
  refine nn_getr rfl C1.1 (lf_9_0 L N C1) ?_
  refine mm_s1 rfl ⟨(nc_9_0 NN C0).1, ?_⟩
  refine nn_call (D := 1) (by decide) (h n L N (nc_9_0 NN C0) (nc_9_0 NN C1)) ?_
  intro v M8 q; clear L N h
  obtain ⟨rfl, L, N, h⟩ := q
  show mm_Go (mm_run 3) mc_Store_copy _ (11, [(0, .inr (.inr v0)), (1, .inr (.inr v1))], [], M8)
  refine mm_s1 rfl ?_
  refine nn_getr rfl C0.1 (lf_9_1 L N C0) ?_
  refine mm_s1 rfl ?_
  refine nn_getr rfl C1.1 (lf_9_1 L N C1) ?_
  refine mm_s1 rfl ⟨(nc_9_1 NN C0).1, ?_⟩
  refine nn_call (D := 2) (by decide) (h n L N (nc_9_1 NN C0) (nc_9_1 NN C1)) ?_
  intro v M19 q; clear L N h
  obtain ⟨rfl, L, N, h⟩ := q
  show mm_Go (mm_run 3) mc_Store_copy _ (22, [(0, .inr (.inr v0)), (1, .inr (.inr v1))], [], M19)
  refine mm_s1 rfl ?_
  refine nn_getr rfl C0.1 (lf_9_4 L N C0) ?_
  refine mm_s1 rfl ?_
  refine nn_getr rfl C1.1 (lf_9_4 L N C1) ?_
  refine mm_s1 rfl ⟨(nc_9_4 NN C0).1, ?_⟩
  refine nn_call (D := 1) (by decide) (h n L N (nc_9_4 NN C0) (nc_9_4 NN C1)) ?_
  intro v M30 q; clear L N h
  obtain ⟨rfl, L, N, h⟩ := q
  show mm_Go (mm_run 3) mc_Store_copy _ (33, [(0, .inr (.inr v0)), (1, .inr (.inr v1))], [], M30)
  refine mm_s1 rfl ?_
  refine mm_s1 rfl ?_
  show mm_Go (mm_run 3) mc_Store_copy _ (35, [(0, .inr (.inr v0)), (1, .inr (.inr v1)), (2, .inl 0)], [], M30)
  exact nn_go_ext (nn_xc rfl (nn_xc rfl (nn_xc rfl nn_xn))) (h n L N C0 C1)
set_option maxRecDepth 20000 in
theorem ng_Store_copy_35 (v0 : Nat) (v1 : Nat) (v2 : Int) (M : mm_M) (R : mm_M → Prop) (h : ((4 ≤ v2 → nk_Store_copy_63 v0 v1 0 M R) ∧ (v2 < 4 → (((0 : Int) ≤ v2 ∧ v2 < (4 : Int)) ∧ (((0 : Int) ≤ v2 ∧ v2 < (4 : Int)) ∧ (nr_Index_copy (v0 + 90 + 15 * (v2).toNat) (v1 + 90 + 15 * (v2).toNat) M (fun M52 => nk_Store_copy_35 v0 v1 (mm_w (v2 + 1)) M52 R))))))) : nk_Store_copy_35 v0 v1 v2 M R := by
  intro n L N C0 C1
  have NN := nn_L_n L N
  show mm_Go (mm_run 3) mc_Store_copy _ (35, [(0, .inr (.inr v0)), (1, .inr (.inr v1)), (2, .inl v2)], [], M)
  refine mm_s1 rfl ?_
  refine mm_s1 rfl ?_
  refine mm_s1 rfl ⟨fun c37 => ?_, fun c37 => ?_⟩
  · show mm_Go (mm_run 3) mc_Store_copy _ (61, [(0, .inr (.inr v0)), (1, .inr (.inr v1)), (2, .inl v2)], [], M)
    replace h := h.1 c37
    refine mm_s1 rfl ?_
    refine mm_s1 rfl ?_
    show mm_Go (mm_run 3) mc_Store_copy _ (63, [(0, .inr (.inr v0)), (1, .inr (.inr v1)), (2, .inl 0)], [], M)
    exact nn_go_ext (nn_xc rfl (nn_xc rfl (nn_xc rfl nn_xn))) (h n L N C0 C1)
  · show mm_Go (mm_run 3) mc_Store_copy _ (40, [(0, .inr (.inr v0)), (1, .inr (.inr v1)), (2, .inl v2)], [], M)
    replace c37 := Int.not_le.mp c37
    replace h := h.2 c37
    refine mm_s1 rfl ?_
    refine nn_getr rfl C0.1 (lf_9_2 L N C0) ?_
    refine mm_s1 rfl ?_
    obtain ⟨b45, h⟩ := h
    have C45 : nn_C 5 (v0 + 90 + 15 * (v2).toNat) n := (nn_arr NN (nc_9_2 NN C0).2).1 (nc_9_2 NN C0).1 _ (nn_tn b45 (by decide))
    refine nn_aald rfl (nn_bd30 (na_9_2 NN C0) (by decide) b45) (nn_l35 L N (nc_9_2 NN C0) b45) ?_
    show mm_Go (mm_run 3) mc_Store_copy _ (46, [(0, .inr (.inr v0)), (1, .inr (.inr v1)), (2, .inl v2)], [.inr (.inr (v0 + 90 + 15 * (v2).toNat))], M)
    refine mm_s1 rfl ?_
    refine nn_getr rfl C1.1 (lf_9_2 L N C1) ?_
    refine mm_s1 rfl ?_
    obtain ⟨b51, h⟩ := h
    have C51 : nn_C 5 (v1 + 90 + 15 * (v2).toNat) n := (nn_arr NN (nc_9_2 NN C1).2).1 (nc_9_2 NN C1).1 _ (nn_tn b51 (by decide))
    refine nn_aald rfl (nn_bd30 (na_9_2 NN C1) (by decide) b51) (nn_l35 L N (nc_9_2 NN C1) b51) ?_
    show mm_Go (mm_run 3) mc_Store_copy _ (52, [(0, .inr (.inr v0)), (1, .inr (.inr v1)), (2, .inl v2)], [.inr (.inr (v1 + 90 + 15 * (v2).toNat)), .inr (.inr (v0 + 90 + 15 * (v2).toNat))], M)
    refine mm_s1 rfl ⟨C45.1, ?_⟩
    refine nn_call (D := 3) (by decide) (h n L N C45 C51) ?_
    intro v M52 q; clear L N h
    obtain ⟨rfl, L, N, h⟩ := q
    show mm_Go (mm_run 3) mc_Store_copy _ (55, [(0, .inr (.inr v0)), (1, .inr (.inr v1)), (2, .inl v2)], [], M52)
    refine mm_s1 rfl ?_
    show mm_Go (mm_run 3) mc_Store_copy _ (58, [(0, .inr (.inr v0)), (1, .inr (.inr v1)), (2, .inl (mm_w (v2 + 1)))], [], M52)
    refine mm_s1 rfl ?_
    show mm_Go (mm_run 3) mc_Store_copy _ (35, [(0, .inr (.inr v0)), (1, .inr (.inr v1)), (2, .inl (mm_w (v2 + 1)))], [], M52)
    exact nn_go_ext (nn_xc rfl (nn_xc rfl (nn_xc rfl nn_xn))) (h n L N C0 C1)
set_option maxRecDepth 20000 in
theorem ng_Store_copy_63 (v0 : Nat) (v1 : Nat) (v2 : Int) (M : mm_M) (R : mm_M → Prop) (h : ((3 ≤ v2 → (((0 : Int) ≤ 0 ∧ (0 : Int) ≤ 0 ∧ (0 : Int) ≤ 6 ∧ (0 : Int) + 6 ≤ 6 ∧ (0 : Int) + 6 ≤ 6) ∧ (∀ M104 : mm_M, M104 = mm_cp M (v1 + 88) 0 (v0 + 88) 0 6 → (∀ M112 : mm_M, M112 = nn_uf M104 v0 7 (nn_rf M104 v1 7) → (∀ M120 : mm_M, M120 = nn_uf M112 v0 8 (nn_rf M112 v1 8) → (∀ M128 : mm_M, M128 = nn_uf M120 v0 9 (nn_rf M120 v1 9) → (∀ M136 : mm_M, M136 = nn_uf M128 v0 10 (nn_rf M128 v1 10) → (∀ M144 : mm_M, M144 = nn_uf M136 v0 11 (nn_rf M136 v1 11) → (∀ M152 : mm_M, M152 = nn_uf M144 v0 12 (nn_rf M144 v1 12) → R M152))))))))) ∧ (v2 < 3 → (((0 : Int) ≤ v2 ∧ v2 < (3 : Int)) ∧ (((0 : Int) ≤ v2 ∧ v2 < (3 : Int)) ∧ (nr_Cursor_copy (v0 + 150 + 3 * (v2).toNat) (v1 + 150 + 3 * (v2).toNat) M (fun M80 => nk_Store_copy_63 v0 v1 (mm_w (v2 + 1)) M80 R))))))) : nk_Store_copy_63 v0 v1 v2 M R := by
  intro n L N C0 C1
  have NN := nn_L_n L N
  show mm_Go (mm_run 3) mc_Store_copy _ (63, [(0, .inr (.inr v0)), (1, .inr (.inr v1)), (2, .inl v2)], [], M)
  refine mm_s1 rfl ?_
  refine mm_s1 rfl ?_
  refine mm_s1 rfl ⟨fun c65 => ?_, fun c65 => ?_⟩
  · show mm_Go (mm_run 3) mc_Store_copy _ (89, [(0, .inr (.inr v0)), (1, .inr (.inr v1)), (2, .inl v2)], [], M)
    replace h := h.1 c65
    refine mm_s1 rfl ?_
    refine nn_getr rfl C1.1 (lf_9_5 L N C1) ?_
    refine mm_s1 rfl ?_
    refine mm_s1 rfl ?_
    refine nn_getr rfl C0.1 (lf_9_5 L N C0) ?_
    show mm_Go (mm_run 3) mc_Store_copy _ (98, [(0, .inr (.inr v0)), (1, .inr (.inr v1)), (2, .inl v2)], [.inr (.inr (v0 + 88)), .inl 0, .inr (.inr (v1 + 88))], M)
    refine mm_s1 rfl ?_
    refine mm_s1 rfl ?_
    refine nn_getr rfl C0.1 (lf_9_5 L N C0) ?_
    refine nn_alen rfl (na_9_5 NN C0) (by decide) ?_
    show mm_Go (mm_run 3) mc_Store_copy _ (104, [(0, .inr (.inr v0)), (1, .inr (.inr v1)), (2, .inl v2)], [.inl 6, .inl 0, .inr (.inr (v0 + 88)), .inl 0, .inr (.inr (v1 + 88))], M)
    obtain ⟨b104, h⟩ := h
    refine mm_s1 rfl ⟨nn_ac (nc_9_5 NN C1).1 (nc_9_5 NN C0).1 (by decide) (congrArg (fun q : Nat × Nat => ((q.2 : Nat) : Int)) (na_9_5 NN C1)) (congrArg (fun q : Nat × Nat => ((q.2 : Nat) : Int)) (na_9_5 NN C0)) b104, ?_⟩
    show mm_Go (mm_run 3) mc_Store_copy _ (107, [(0, .inr (.inr v0)), (1, .inr (.inr v1)), (2, .inl v2)], [], (mm_cp M (v1 + 88) 0 (v0 + 88) 0 6))
    have L : nn_L (mm_cp M (v1 + 88) 0 (v0 + 88) 0 6) := nn_L_cp L (nc_9_5 NN C0).1 (by decide)
    have N : (mm_cp M (v1 + 88) 0 (v0 + 88) 0 6).1 = n := N
    generalize e_M104 : (mm_cp M (v1 + 88) 0 (v0 + 88) 0 6) = M104 at L N ⊢
    replace h := h _ e_M104.symm
    show mm_Go (mm_run 3) mc_Store_copy _ (107, [(0, .inr (.inr v0)), (1, .inr (.inr v1)), (2, .inl v2)], [], M104)
    refine mm_s1 rfl ?_
    refine mm_s1 rfl ?_
    refine mm_s1 rfl ⟨C1.1, ?_⟩
    show mm_Go (mm_run 3) mc_Store_copy _ (112, [(0, .inr (.inr v0)), (1, .inr (.inr v1)), (2, .inl v2)], [.inl (nn_rf M104 v1 7), .inr (.inr v0)], M104)
    refine mm_s1 rfl ⟨C0.1, ?_⟩
    show mm_Go (mm_run 3) mc_Store_copy _ (115, [(0, .inr (.inr v0)), (1, .inr (.inr v1)), (2, .inl v2)], [], (nn_uf M104 v0 7 (nn_rf M104 v1 7)))
    have L : nn_L (nn_uf M104 v0 7 (nn_rf M104 v1 7)) := nn_L_up L C0.1 rfl
    have N : (nn_uf M104 v0 7 (nn_rf M104 v1 7)).1 = n := N
    generalize e_M112 : (nn_uf M104 v0 7 (nn_rf M104 v1 7)) = M112 at L N ⊢
    replace h := h _ e_M112.symm
    show mm_Go (mm_run 3) mc_Store_copy _ (115, [(0, .inr (.inr v0)), (1, .inr (.inr v1)), (2, .inl v2)], [], M112)
    refine mm_s1 rfl ?_
    refine mm_s1 rfl ?_
    refine mm_s1 rfl ⟨C1.1, ?_⟩
    show mm_Go (mm_run 3) mc_Store_copy _ (120, [(0, .inr (.inr v0)), (1, .inr (.inr v1)), (2, .inl v2)], [.inl (nn_rf M112 v1 8), .inr (.inr v0)], M112)
    refine mm_s1 rfl ⟨C0.1, ?_⟩
    show mm_Go (mm_run 3) mc_Store_copy _ (123, [(0, .inr (.inr v0)), (1, .inr (.inr v1)), (2, .inl v2)], [], (nn_uf M112 v0 8 (nn_rf M112 v1 8)))
    have L : nn_L (nn_uf M112 v0 8 (nn_rf M112 v1 8)) := nn_L_up L C0.1 rfl
    have N : (nn_uf M112 v0 8 (nn_rf M112 v1 8)).1 = n := N
    generalize e_M120 : (nn_uf M112 v0 8 (nn_rf M112 v1 8)) = M120 at L N ⊢
    replace h := h _ e_M120.symm
    show mm_Go (mm_run 3) mc_Store_copy _ (123, [(0, .inr (.inr v0)), (1, .inr (.inr v1)), (2, .inl v2)], [], M120)
    refine mm_s1 rfl ?_
    refine mm_s1 rfl ?_
    refine mm_s1 rfl ⟨C1.1, ?_⟩
    show mm_Go (mm_run 3) mc_Store_copy _ (128, [(0, .inr (.inr v0)), (1, .inr (.inr v1)), (2, .inl v2)], [.inl (nn_rf M120 v1 9), .inr (.inr v0)], M120)
    refine mm_s1 rfl ⟨C0.1, ?_⟩
    show mm_Go (mm_run 3) mc_Store_copy _ (131, [(0, .inr (.inr v0)), (1, .inr (.inr v1)), (2, .inl v2)], [], (nn_uf M120 v0 9 (nn_rf M120 v1 9)))
    have L : nn_L (nn_uf M120 v0 9 (nn_rf M120 v1 9)) := nn_L_up L C0.1 rfl
    have N : (nn_uf M120 v0 9 (nn_rf M120 v1 9)).1 = n := N
    generalize e_M128 : (nn_uf M120 v0 9 (nn_rf M120 v1 9)) = M128 at L N ⊢
    replace h := h _ e_M128.symm
    show mm_Go (mm_run 3) mc_Store_copy _ (131, [(0, .inr (.inr v0)), (1, .inr (.inr v1)), (2, .inl v2)], [], M128)
    refine mm_s1 rfl ?_
    refine mm_s1 rfl ?_
    refine mm_s1 rfl ⟨C1.1, ?_⟩
    show mm_Go (mm_run 3) mc_Store_copy _ (136, [(0, .inr (.inr v0)), (1, .inr (.inr v1)), (2, .inl v2)], [.inl (nn_rf M128 v1 10), .inr (.inr v0)], M128)
    refine mm_s1 rfl ⟨C0.1, ?_⟩
    show mm_Go (mm_run 3) mc_Store_copy _ (139, [(0, .inr (.inr v0)), (1, .inr (.inr v1)), (2, .inl v2)], [], (nn_uf M128 v0 10 (nn_rf M128 v1 10)))
    have L : nn_L (nn_uf M128 v0 10 (nn_rf M128 v1 10)) := nn_L_up L C0.1 rfl
    have N : (nn_uf M128 v0 10 (nn_rf M128 v1 10)).1 = n := N
    generalize e_M136 : (nn_uf M128 v0 10 (nn_rf M128 v1 10)) = M136 at L N ⊢
    replace h := h _ e_M136.symm
    show mm_Go (mm_run 3) mc_Store_copy _ (139, [(0, .inr (.inr v0)), (1, .inr (.inr v1)), (2, .inl v2)], [], M136)
    refine mm_s1 rfl ?_
    refine mm_s1 rfl ?_
    refine mm_s1 rfl ⟨C1.1, ?_⟩
    show mm_Go (mm_run 3) mc_Store_copy _ (144, [(0, .inr (.inr v0)), (1, .inr (.inr v1)), (2, .inl v2)], [.inl (nn_rf M136 v1 11), .inr (.inr v0)], M136)
    refine mm_s1 rfl ⟨C0.1, ?_⟩
    show mm_Go (mm_run 3) mc_Store_copy _ (147, [(0, .inr (.inr v0)), (1, .inr (.inr v1)), (2, .inl v2)], [], (nn_uf M136 v0 11 (nn_rf M136 v1 11)))
    have L : nn_L (nn_uf M136 v0 11 (nn_rf M136 v1 11)) := nn_L_up L C0.1 rfl
    have N : (nn_uf M136 v0 11 (nn_rf M136 v1 11)).1 = n := N
    generalize e_M144 : (nn_uf M136 v0 11 (nn_rf M136 v1 11)) = M144 at L N ⊢
    replace h := h _ e_M144.symm
    show mm_Go (mm_run 3) mc_Store_copy _ (147, [(0, .inr (.inr v0)), (1, .inr (.inr v1)), (2, .inl v2)], [], M144)
    refine mm_s1 rfl ?_
    refine mm_s1 rfl ?_
    refine mm_s1 rfl ⟨C1.1, ?_⟩
    show mm_Go (mm_run 3) mc_Store_copy _ (152, [(0, .inr (.inr v0)), (1, .inr (.inr v1)), (2, .inl v2)], [.inl (nn_rf M144 v1 12), .inr (.inr v0)], M144)
    refine mm_s1 rfl ⟨C0.1, ?_⟩
    show mm_Go (mm_run 3) mc_Store_copy _ (155, [(0, .inr (.inr v0)), (1, .inr (.inr v1)), (2, .inl v2)], [], (nn_uf M144 v0 12 (nn_rf M144 v1 12)))
    have L : nn_L (nn_uf M144 v0 12 (nn_rf M144 v1 12)) := nn_L_up L C0.1 rfl
    have N : (nn_uf M144 v0 12 (nn_rf M144 v1 12)).1 = n := N
    generalize e_M152 : (nn_uf M144 v0 12 (nn_rf M144 v1 12)) = M152 at L N ⊢
    replace h := h _ e_M152.symm
    show mm_Go (mm_run 3) mc_Store_copy _ (155, [(0, .inr (.inr v0)), (1, .inr (.inr v1)), (2, .inl v2)], [], M152)
    exact mm_s1 rfl ⟨rfl, L, N, h⟩
  · show mm_Go (mm_run 3) mc_Store_copy _ (68, [(0, .inr (.inr v0)), (1, .inr (.inr v1)), (2, .inl v2)], [], M)
    replace c65 := Int.not_le.mp c65
    replace h := h.2 c65
    refine mm_s1 rfl ?_
    refine nn_getr rfl C0.1 (lf_9_3 L N C0) ?_
    refine mm_s1 rfl ?_
    obtain ⟨b73, h⟩ := h
    have C73 : nn_C 3 (v0 + 150 + 3 * (v2).toNat) n := (nn_arr NN (nc_9_3 NN C0).2).2.1 (nc_9_3 NN C0).1 _ (nn_tn b73 (by decide))
    refine nn_aald rfl (nn_bd30 (na_9_3 NN C0) (by decide) b73) (nn_l33 L N (nc_9_3 NN C0) b73) ?_
    show mm_Go (mm_run 3) mc_Store_copy _ (74, [(0, .inr (.inr v0)), (1, .inr (.inr v1)), (2, .inl v2)], [.inr (.inr (v0 + 150 + 3 * (v2).toNat))], M)
    refine mm_s1 rfl ?_
    refine nn_getr rfl C1.1 (lf_9_3 L N C1) ?_
    refine mm_s1 rfl ?_
    obtain ⟨b79, h⟩ := h
    have C79 : nn_C 3 (v1 + 150 + 3 * (v2).toNat) n := (nn_arr NN (nc_9_3 NN C1).2).2.1 (nc_9_3 NN C1).1 _ (nn_tn b79 (by decide))
    refine nn_aald rfl (nn_bd30 (na_9_3 NN C1) (by decide) b79) (nn_l33 L N (nc_9_3 NN C1) b79) ?_
    show mm_Go (mm_run 3) mc_Store_copy _ (80, [(0, .inr (.inr v0)), (1, .inr (.inr v1)), (2, .inl v2)], [.inr (.inr (v1 + 150 + 3 * (v2).toNat)), .inr (.inr (v0 + 150 + 3 * (v2).toNat))], M)
    refine mm_s1 rfl ⟨C73.1, ?_⟩
    refine nn_call (D := 1) (by decide) (h n L N C73 C79) ?_
    intro v M80 q; clear L N h
    obtain ⟨rfl, L, N, h⟩ := q
    show mm_Go (mm_run 3) mc_Store_copy _ (83, [(0, .inr (.inr v0)), (1, .inr (.inr v1)), (2, .inl v2)], [], M80)
    refine mm_s1 rfl ?_
    show mm_Go (mm_run 3) mc_Store_copy _ (86, [(0, .inr (.inr v0)), (1, .inr (.inr v1)), (2, .inl (mm_w (v2 + 1)))], [], M80)
    refine mm_s1 rfl ?_
    show mm_Go (mm_run 3) mc_Store_copy _ (63, [(0, .inr (.inr v0)), (1, .inr (.inr v1)), (2, .inl (mm_w (v2 + 1)))], [], M80)
    exact nn_go_ext (nn_xc rfl (nn_xc rfl (nn_xc rfl nn_xn))) (h n L N C0 C1)
def nr_Table_mergeLevels (v0 : Nat) (v1 : Int) (v2 : Int) (M : mm_M) (R : Int → mm_M → Prop) : Prop := ∀ n, nn_L M → M.1 = n → nn_C 10 v0 n → mm_run 4 mi_Table_mergeLevels [.inr (.inr v0), .inl v1, .inl v2] M (nw_I n R)
def nk_Table_mergeLevels_22 (v0 : Nat) (v1 : Int) (v2 : Int) (v3 : Int) (v4 : Int) (v5 : Int) (M : mm_M) (R : Int → mm_M → Prop) : Prop := ∀ n, nn_L M → M.1 = n → nn_C 10 v0 n → mm_Go (mm_run 3) mc_Table_mergeLevels (nw_I n R) (22, [(0, .inr (.inr v0)), (1, .inl v1), (2, .inl v2), (3, .inl v3), (4, .inl v4), (5, .inl v5)], [], M)
set_option maxRecDepth 20000 in
theorem ng_Table_mergeLevels (v0 : Nat) (v1 : Int) (v2 : Int) (M : mm_M) (R : Int → mm_M → Prop) (h : (nr_LI_alike (v0 + 8) (nn_rf M v0 5) v1 M (fun r11 M11 => nk_Table_mergeLevels_22 v0 v1 v2 0 r11 (nn_rf M11 v0 5) M11 R))) : nr_Table_mergeLevels v0 v1 v2 M R := by
  intro n L N C0
  have NN := nn_L_n L N
  show mm_Go (mm_run 3) mc_Table_mergeLevels _ (0, [(0, .inr (.inr v0)), (1, .inl v1), (2, .inl v2)], [], M)
  refine mm_s1 rfl ?_
  refine mm_s1 rfl ?_
  show mm_Go (mm_run 3) mc_Table_mergeLevels _ (2, [(0, .inr (.inr v0)), (1, .inl v1), (2, .inl v2), (3, .inl 0)], [], M)
  refine mm_s1 rfl ?_
  refine nn_getr rfl C0.1 (lf_10_3 L N C0) ?_
  refine mm_s1 rfl ?_
  refine mm_s1 rfl ⟨C0.1, ?_⟩
  show mm_Go (mm_run 3) mc_Table_mergeLevels _ (10, [(0, .inr (.inr v0)), (1, .inl v1), (2, .inl v2), (3, .inl 0)], [.inl (nn_rf M v0 5), .inr (.inr (v0 + 8))], M)
  refine mm_s1 rfl ?_
  refine mm_s1 rfl ⟨trivial, ?_⟩
  refine nn_call (D := 1) (by decide) (h n L N (nc_10_3 NN C0)) ?_
  intro v M11 q; clear L N h
  obtain ⟨r11, rfl, L, N, h⟩ := q
  show mm_Go (mm_run 3) mc_Table_mergeLevels _ (14, [(0, .inr (.inr v0)), (1, .inl v1), (2, .inl v2), (3, .inl 0)], [.inl r11], M11)
  refine mm_s1 rfl ?_
  show mm_Go (mm_run 3) mc_Table_mergeLevels _ (16, [(0, .inr (.inr v0)), (1, .inl v1), (2, .inl v2), (3, .inl 0), (4, .inl r11)], [], M11)
  refine mm_s1 rfl ?_
  refine mm_s1 rfl ⟨C0.1, ?_⟩
  show mm_Go (mm_run 3) mc_Table_mergeLevels _ (20, [(0, .inr (.inr v0)), (1, .inl v1), (2, .inl v2), (3, .inl 0), (4, .inl r11)], [.inl (nn_rf M11 v0 5)], M11)
  refine mm_s1 rfl ?_
  show mm_Go (mm_run 3) mc_Table_mergeLevels _ (22, [(0, .inr (.inr v0)), (1, .inl v1), (2, .inl v2), (3, .inl 0), (4, .inl r11), (5, .inl (nn_rf M11 v0 5))], [], M11)
  exact nn_go_ext (nn_xc rfl (nn_xc rfl (nn_xc rfl (nn_xc rfl (nn_xc rfl (nn_xc rfl nn_xn)))))) (h n L N C0)
set_option maxRecDepth 20000 in
theorem ng_Table_mergeLevels_22 (v0 : Nat) (v1 : Int) (v2 : Int) (v3 : Int) (v4 : Int) (v5 : Int) (M : mm_M) (R : Int → mm_M → Prop) (h : ((v5 ≤ 0 → (((nn_rf M v0 5) ≤ 20 → R v3 M) ∧ (20 < (nn_rf M v0 5) → (nr_LI_highest (v0 + 8) 0 (nn_rf M v0 5) M (fun r97 M97 => (nr_Table_mergeRuns v0 0 (nn_rf M v0 5) (mm_w (r97 + 1)) v2 M97 (fun M103 => R (mm_w (v3 + 1)) M103))))))) ∧ (0 < v5 → ((v4 = (-1) → (((nn_rf M v0 5) ≤ 20 → R v3 M) ∧ (20 < (nn_rf M v0 5) → (nr_LI_highest (v0 + 8) 0 (nn_rf M v0 5) M (fun r97 M97 => (nr_Table_mergeRuns v0 0 (nn_rf M v0 5) (mm_w (r97 + 1)) v2 M97 (fun M103 => R (mm_w (v3 + 1)) M103))))))) ∧ (v4 ≠ (-1) → (((0 : Int) ≤ v4 ∧ v4 < (24 : Int)) ∧ (nr_Table_mergeRuns v0 v4 v1 (mm_w ((nn_ri M (v0 + 8) v4) + 1)) v2 M (fun M47 => (nr_LI_alike (v0 + 8) (nn_rf M47 v0 5) v1 M47 (fun r62 M62 => nk_Table_mergeLevels_22 v0 v1 v2 (mm_w (v3 + 1)) r62 (mm_w (v5 + (-1))) M62 R)))))))))) : nk_Table_mergeLevels_22 v0 v1 v2 v3 v4 v5 M R := by
  intro n L N C0
  have NN := nn_L_n L N
  show mm_Go (mm_run 3) mc_Table_mergeLevels _ (22, [(0, .inr (.inr v0)), (1, .inl v1), (2, .inl v2), (3, .inl v3), (4, .inl v4), (5, .inl v5)], [], M)
  refine mm_s1 rfl ?_
  refine mm_s1 rfl ⟨fun c24 => ?_, fun c24 => ?_⟩
  · show mm_Go (mm_run 3) mc_Table_mergeLevels _ (73, [(0, .inr (.inr v0)), (1, .inl v1), (2, .inl v2), (3, .inl v3), (4, .inl v4), (5, .inl v5)], [], M)
    replace h := h.1 c24
    refine mm_s1 rfl ?_
    refine mm_s1 rfl ⟨C0.1, ?_⟩
    show mm_Go (mm_run 3) mc_Table_mergeLevels _ (77, [(0, .inr (.inr v0)), (1, .inl v1), (2, .inl v2), (3, .inl v3), (4, .inl v4), (5, .inl v5)], [.inl (nn_rf M v0 5)], M)
    refine mm_s1 rfl ?_
    refine mm_s1 rfl ⟨fun c79 => ?_, fun c79 => ?_⟩
    · show mm_Go (mm_run 3) mc_Table_mergeLevels _ (109, [(0, .inr (.inr v0)), (1, .inl v1), (2, .inl v2), (3, .inl v3), (4, .inl v4), (5, .inl v5)], [], M)
      replace h := h.1 c79
      refine mm_s1 rfl ?_
      exact mm_s1 rfl ⟨_, rfl, L, N, h⟩
    · show mm_Go (mm_run 3) mc_Table_mergeLevels _ (82, [(0, .inr (.inr v0)), (1, .inl v1), (2, .inl v2), (3, .inl v3), (4, .inl v4), (5, .inl v5)], [], M)
      replace c79 := Int.not_le.mp c79
      replace h := h.2 c79
      refine mm_s1 rfl ?_
      refine mm_s1 rfl ?_
      refine mm_s1 rfl ?_
      refine mm_s1 rfl ⟨C0.1, ?_⟩
      show mm_Go (mm_run 3) mc_Table_mergeLevels _ (88, [(0, .inr (.inr v0)), (1, .inl v1), (2, .inl v2), (3, .inl v3), (4, .inl v4), (5, .inl v5)], [.inl (nn_rf M v0 5), .inl 0, .inr (.inr v0)], M)
      refine mm_s1 rfl ?_
      refine nn_getr rfl C0.1 (lf_10_3 L N C0) ?_
      refine mm_s1 rfl ?_
      refine mm_s1 rfl ?_
      refine mm_s1 rfl ⟨C0.1, ?_⟩
      show mm_Go (mm_run 3) mc_Table_mergeLevels _ (97, [(0, .inr (.inr v0)), (1, .inl v1), (2, .inl v2), (3, .inl v3), (4, .inl v4), (5, .inl v5)], [.inl (nn_rf M v0 5), .inl 0, .inr (.inr (v0 + 8)), .inl (nn_rf M v0 5), .inl 0, .inr (.inr v0)], M)
      refine mm_s1 rfl ⟨trivial, ?_⟩
      refine nn_call (D := 1) (by decide) (h n L N (nc_10_3 NN C0)) ?_
      intro v M97 q; clear L N h
      obtain ⟨r97, rfl, L, N, h⟩ := q
      show mm_Go (mm_run 3) mc_Table_mergeLevels _ (100, [(0, .inr (.inr v0)), (1, .inl v1), (2, .inl v2), (3, .inl v3), (4, .inl v4), (5, .inl v5)], [.inl r97, .inl (nn_rf M v0 5), .inl 0, .inr (.inr v0)], M97)
      refine mm_s1 rfl ?_
      refine mm_s1 rfl ?_
      refine mm_s1 rfl ?_
      refine mm_s1 rfl ⟨C0.1, ?_⟩
      refine nn_call (D := 3) (by decide) (h n L N C0) ?_
      intro v M103 q; clear L N h
      obtain ⟨rfl, L, N, h⟩ := q
      show mm_Go (mm_run 3) mc_Table_mergeLevels _ (106, [(0, .inr (.inr v0)), (1, .inl v1), (2, .inl v2), (3, .inl v3), (4, .inl v4), (5, .inl v5)], [], M103)
      refine mm_s1 rfl ?_
      show mm_Go (mm_run 3) mc_Table_mergeLevels _ (109, [(0, .inr (.inr v0)), (1, .inl v1), (2, .inl v2), (3, .inl (mm_w (v3 + 1))), (4, .inl v4), (5, .inl v5)], [], M103)
      refine mm_s1 rfl ?_
      exact mm_s1 rfl ⟨_, rfl, L, N, h⟩
  · show mm_Go (mm_run 3) mc_Table_mergeLevels _ (27, [(0, .inr (.inr v0)), (1, .inl v1), (2, .inl v2), (3, .inl v3), (4, .inl v4), (5, .inl v5)], [], M)
    replace c24 := Int.not_le.mp c24
    replace h := h.2 c24
    refine mm_s1 rfl ?_
    refine mm_s1 rfl ?_
    refine mm_s1 rfl ⟨fun c30 => ?_, fun c30 => ?_⟩
    · show mm_Go (mm_run 3) mc_Table_mergeLevels _ (73, [(0, .inr (.inr v0)), (1, .inl v1), (2, .inl v2), (3, .inl v3), (4, .inl v4), (5, .inl v5)], [], M)
      replace h := h.1 c30
      refine mm_s1 rfl ?_
      refine mm_s1 rfl ⟨C0.1, ?_⟩
      show mm_Go (mm_run 3) mc_Table_mergeLevels _ (77, [(0, .inr (.inr v0)), (1, .inl v1), (2, .inl v2), (3, .inl v3), (4, .inl v4), (5, .inl v5)], [.inl (nn_rf M v0 5)], M)
      refine mm_s1 rfl ?_
      refine mm_s1 rfl ⟨fun c79 => ?_, fun c79 => ?_⟩
      · show mm_Go (mm_run 3) mc_Table_mergeLevels _ (109, [(0, .inr (.inr v0)), (1, .inl v1), (2, .inl v2), (3, .inl v3), (4, .inl v4), (5, .inl v5)], [], M)
        replace h := h.1 c79
        refine mm_s1 rfl ?_
        exact mm_s1 rfl ⟨_, rfl, L, N, h⟩
      · show mm_Go (mm_run 3) mc_Table_mergeLevels _ (82, [(0, .inr (.inr v0)), (1, .inl v1), (2, .inl v2), (3, .inl v3), (4, .inl v4), (5, .inl v5)], [], M)
        replace c79 := Int.not_le.mp c79
        replace h := h.2 c79
        refine mm_s1 rfl ?_
        refine mm_s1 rfl ?_
        refine mm_s1 rfl ?_
        refine mm_s1 rfl ⟨C0.1, ?_⟩
        show mm_Go (mm_run 3) mc_Table_mergeLevels _ (88, [(0, .inr (.inr v0)), (1, .inl v1), (2, .inl v2), (3, .inl v3), (4, .inl v4), (5, .inl v5)], [.inl (nn_rf M v0 5), .inl 0, .inr (.inr v0)], M)
        refine mm_s1 rfl ?_
        refine nn_getr rfl C0.1 (lf_10_3 L N C0) ?_
        refine mm_s1 rfl ?_
        refine mm_s1 rfl ?_
        refine mm_s1 rfl ⟨C0.1, ?_⟩
        show mm_Go (mm_run 3) mc_Table_mergeLevels _ (97, [(0, .inr (.inr v0)), (1, .inl v1), (2, .inl v2), (3, .inl v3), (4, .inl v4), (5, .inl v5)], [.inl (nn_rf M v0 5), .inl 0, .inr (.inr (v0 + 8)), .inl (nn_rf M v0 5), .inl 0, .inr (.inr v0)], M)
        refine mm_s1 rfl ⟨trivial, ?_⟩
        refine nn_call (D := 1) (by decide) (h n L N (nc_10_3 NN C0)) ?_
        intro v M97 q; clear L N h
        obtain ⟨r97, rfl, L, N, h⟩ := q
        show mm_Go (mm_run 3) mc_Table_mergeLevels _ (100, [(0, .inr (.inr v0)), (1, .inl v1), (2, .inl v2), (3, .inl v3), (4, .inl v4), (5, .inl v5)], [.inl r97, .inl (nn_rf M v0 5), .inl 0, .inr (.inr v0)], M97)
        refine mm_s1 rfl ?_
        refine mm_s1 rfl ?_
        refine mm_s1 rfl ?_
        refine mm_s1 rfl ⟨C0.1, ?_⟩
        refine nn_call (D := 3) (by decide) (h n L N C0) ?_
        intro v M103 q; clear L N h
        obtain ⟨rfl, L, N, h⟩ := q
        show mm_Go (mm_run 3) mc_Table_mergeLevels _ (106, [(0, .inr (.inr v0)), (1, .inl v1), (2, .inl v2), (3, .inl v3), (4, .inl v4), (5, .inl v5)], [], M103)
        refine mm_s1 rfl ?_
        show mm_Go (mm_run 3) mc_Table_mergeLevels _ (109, [(0, .inr (.inr v0)), (1, .inl v1), (2, .inl v2), (3, .inl (mm_w (v3 + 1))), (4, .inl v4), (5, .inl v5)], [], M103)
        refine mm_s1 rfl ?_
        exact mm_s1 rfl ⟨_, rfl, L, N, h⟩
    · show mm_Go (mm_run 3) mc_Table_mergeLevels _ (33, [(0, .inr (.inr v0)), (1, .inl v1), (2, .inl v2), (3, .inl v3), (4, .inl v4), (5, .inl v5)], [], M)
      replace h := h.2 c30
      refine mm_s1 rfl ?_
      refine mm_s1 rfl ?_
      refine mm_s1 rfl ?_
      refine mm_s1 rfl ?_
      refine nn_getr rfl C0.1 (lf_10_3 L N C0) ?_
      show mm_Go (mm_run 3) mc_Table_mergeLevels _ (41, [(0, .inr (.inr v0)), (1, .inl v1), (2, .inl v2), (3, .inl v3), (4, .inl v4), (5, .inl v5)], [.inr (.inr (v0 + 8)), .inl v1, .inl v4, .inr (.inr v0)], M)
      refine mm_s1 rfl ?_
      obtain ⟨b43, h⟩ := h
      refine mm_s1 rfl ⟨nn_bd (na_10_3 NN C0) b43, ?_⟩
      show mm_Go (mm_run 3) mc_Table_mergeLevels _ (44, [(0, .inr (.inr v0)), (1, .inl v1), (2, .inl v2), (3, .inl v3), (4, .inl v4), (5, .inl v5)], [.inl (nn_ri M (v0 + 8) v4), .inl v1, .inl v4, .inr (.inr v0)], M)
      refine mm_s1 rfl ?_
      refine mm_s1 rfl ?_
      refine mm_s1 rfl ?_
      refine mm_s1 rfl ⟨C0.1, ?_⟩
      refine nn_call (D := 3) (by decide) (h n L N C0) ?_
      intro v M47 q; clear L N h
      obtain ⟨rfl, L, N, h⟩ := q
      show mm_Go (mm_run 3) mc_Table_mergeLevels _ (50, [(0, .inr (.inr v0)), (1, .inl v1), (2, .inl v2), (3, .inl v3), (4, .inl v4), (5, .inl v5)], [], M47)
      refine mm_s1 rfl ?_
      show mm_Go (mm_run 3) mc_Table_mergeLevels _ (53, [(0, .inr (.inr v0)), (1, .inl v1), (2, .inl v2), (3, .inl (mm_w (v3 + 1))), (4, .inl v4), (5, .inl v5)], [], M47)
      refine mm_s1 rfl ?_
      refine nn_getr rfl C0.1 (lf_10_3 L N C0) ?_
      refine mm_s1 rfl ?_
      refine mm_s1 rfl ⟨C0.1, ?_⟩
      show mm_Go (mm_run 3) mc_Table_mergeLevels _ (61, [(0, .inr (.inr v0)), (1, .inl v1), (2, .inl v2), (3, .inl (mm_w (v3 + 1))), (4, .inl v4), (5, .inl v5)], [.inl (nn_rf M47 v0 5), .inr (.inr (v0 + 8))], M47)
      refine mm_s1 rfl ?_
      refine mm_s1 rfl ⟨trivial, ?_⟩
      refine nn_call (D := 1) (by decide) (h n L N (nc_10_3 NN C0)) ?_
      intro v M62 q; clear L N h
      obtain ⟨r62, rfl, L, N, h⟩ := q
      show mm_Go (mm_run 3) mc_Table_mergeLevels _ (65, [(0, .inr (.inr v0)), (1, .inl v1), (2, .inl v2), (3, .inl (mm_w (v3 + 1))), (4, .inl v4), (5, .inl v5)], [.inl r62], M62)
      refine mm_s1 rfl ?_
      show mm_Go (mm_run 3) mc_Table_mergeLevels _ (67, [(0, .inr (.inr v0)), (1, .inl v1), (2, .inl v2), (3, .inl (mm_w (v3 + 1))), (4, .inl r62), (5, .inl v5)], [], M62)
      refine mm_s1 rfl ?_
      show mm_Go (mm_run 3) mc_Table_mergeLevels _ (70, [(0, .inr (.inr v0)), (1, .inl v1), (2, .inl v2), (3, .inl (mm_w (v3 + 1))), (4, .inl r62), (5, .inl (mm_w (v5 + (-1))))], [], M62)
      refine mm_s1 rfl ?_
      show mm_Go (mm_run 3) mc_Table_mergeLevels _ (22, [(0, .inr (.inr v0)), (1, .inl v1), (2, .inl v2), (3, .inl (mm_w (v3 + 1))), (4, .inl r62), (5, .inl (mm_w (v5 + (-1))))], [], M62)
      exact nn_go_ext (nn_xc rfl (nn_xc rfl (nn_xc rfl (nn_xc rfl (nn_xc rfl (nn_xc rfl nn_xn)))))) (h n L N C0)
def nr_M_readsAtom (v1 : Int) (M : mm_M) (R : mm_M → Prop) : Prop := ∀ n, nn_L M → M.1 = n → mm_run 4 mi_M_readsAtom [.inr (.inr 407), .inl v1] M (nw_V n R)
def nk_M_readsAtom_33 (v1 : Int) (M : mm_M) (R : mm_M → Prop) : Prop := ∀ n, nn_L M → M.1 = n → mm_Go (mm_run 3) mc_M_readsAtom (nw_V n R) (33, [(0, .inr (.inr 407)), (1, .inl v1)], [], M)
def nk_M_readsAtom_96 (v1 : Int) (v2 : Int) (M : mm_M) (R : mm_M → Prop) : Prop := ∀ n, nn_L M → M.1 = n → mm_Go (mm_run 3) mc_M_readsAtom (nw_V n R) (96, [(0, .inr (.inr 407)), (1, .inl v1), (2, .inl v2)], [], M)
set_option maxRecDepth 20000 in
theorem ng_M_readsAtom (v1 : Int) (M : mm_M) (R : mm_M → Prop) (h : (((nf_M_isTerm M) ≠ 0 → (((0 : Int) ≤ (mm_w (v1 + 8)) ∧ (mm_w (v1 + 8)) < (32844 : Int)) ∧ (((nn_ri M 408 (mm_w (v1 + 8))) ≠ 3 → nk_M_readsAtom_33 v1 M R) ∧ ((nn_ri M 408 (mm_w (v1 + 8))) = 3 → (nr_M_fails 2 M (fun M30 => nk_M_readsAtom_33 v1 M30 R)))))) ∧ ((nf_M_isTerm M) = 0 → (nr_M_fails 1 M (fun M9 => nk_M_readsAtom_33 v1 M9 R))))) : nr_M_readsAtom v1 M R := by
  intro n L N 
  have NN := nn_L_n L N
  show mm_Go (mm_run 3) mc_M_readsAtom _ (0, [(0, .inr (.inr 407)), (1, .inl v1)], [], M)
  refine mm_s1 rfl ?_
  refine mm_s1 rfl ⟨(nn_c407 NN).1, ?_⟩
  refine np_M_isTerm (by decide) L N ?_
  show mm_Go (mm_run 3) mc_M_readsAtom _ (4, [(0, .inr (.inr 407)), (1, .inl v1)], [.inl (nf_M_isTerm M)], M)
  refine mm_s1 rfl ⟨fun c4 => ?_, fun c4 => ?_⟩
  · show mm_Go (mm_run 3) mc_M_readsAtom _ (15, [(0, .inr (.inr 407)), (1, .inl v1)], [], M)
    replace h := h.1 c4
    refine mm_s1 rfl ?_
    refine nn_getr rfl (nn_c407 NN).1 (lf_13_0 L N (nn_c407 NN)) ?_
    refine mm_s1 rfl ?_
    refine mm_s1 rfl ?_
    refine mm_s1 rfl ?_
    show mm_Go (mm_run 3) mc_M_readsAtom _ (23, [(0, .inr (.inr 407)), (1, .inl v1)], [.inl (mm_w (v1 + 8)), .inr (.inr 408)], M)
    obtain ⟨b23, h⟩ := h
    refine mm_s1 rfl ⟨nn_bd (na_13_0 NN (nn_c407 NN)) b23, ?_⟩
    show mm_Go (mm_run 3) mc_M_readsAtom _ (24, [(0, .inr (.inr 407)), (1, .inl v1)], [.inl (nn_ri M 408 (mm_w (v1 + 8)))], M)
    refine mm_s1 rfl ?_
    refine mm_s1 rfl ⟨fun c25 => ?_, fun c25 => ?_⟩
    · show mm_Go (mm_run 3) mc_M_readsAtom _ (33, [(0, .inr (.inr 407)), (1, .inl v1)], [], M)
      replace h := h.1 c25
      exact nn_go_ext (nn_xc rfl (nn_xc rfl nn_xn)) (h n L N)
    · show mm_Go (mm_run 3) mc_M_readsAtom _ (28, [(0, .inr (.inr 407)), (1, .inl v1)], [], M)
      replace c25 := Decidable.not_not.mp c25
      replace h := h.2 c25
      refine mm_s1 rfl ?_
      refine mm_s1 rfl ?_
      refine mm_s1 rfl ⟨(nn_c407 NN).1, ?_⟩
      refine nn_call (D := 1) (by decide) (h n L N) ?_
      intro v M30 q; clear L N h
      obtain ⟨rfl, L, N, h⟩ := q
      show mm_Go (mm_run 3) mc_M_readsAtom _ (33, [(0, .inr (.inr 407)), (1, .inl v1)], [], M30)
      exact nn_go_ext (nn_xc rfl (nn_xc rfl nn_xn)) (h n L N)
  · show mm_Go (mm_run 3) mc_M_readsAtom _ (7, [(0, .inr (.inr 407)), (1, .inl v1)], [], M)
    replace c4 := Decidable.not_not.mp c4
    replace h := h.2 c4
    refine mm_s1 rfl ?_
    refine mm_s1 rfl ?_
    refine mm_s1 rfl ⟨(nn_c407 NN).1, ?_⟩
    refine nn_call (D := 1) (by decide) (h n L N) ?_
    intro v M9 q; clear L N h
    obtain ⟨rfl, L, N, h⟩ := q
    show mm_Go (mm_run 3) mc_M_readsAtom _ (12, [(0, .inr (.inr 407)), (1, .inl v1)], [], M9)
    refine mm_s1 rfl ?_
    show mm_Go (mm_run 3) mc_M_readsAtom _ (33, [(0, .inr (.inr 407)), (1, .inl v1)], [], M9)
    exact nn_go_ext (nn_xc rfl (nn_xc rfl nn_xn)) (h n L N)
set_option maxRecDepth 20000 in
theorem ng_M_readsAtom_33 (v1 : Int) (M : mm_M) (R : mm_M → Prop) (h : (((nn_rf M 407 7) ≤ 0 → (((0 : Int) ≤ (mm_w (v1 + 8)) ∧ (mm_w (v1 + 8)) < (32844 : Int)) ∧ (∀ x2_58 : Int, x2_58 = mm_w ((mm_w (v1 + 14)) + (mm_w (11 * (nn_ri M 408 (mm_w (v1 + 8)))))) → (nr_M_reads x2_58 M (fun M61 => ((((nf_M_isSign 60 M61) ≠ 0 ∨ ((nf_M_isSign 61 M61) ≠ 0 ∨ ((nf_M_isSign 62 M61) ≠ 0))) → nk_M_readsAtom_96 v1 x2_58 M61 R) ∧ (((nf_M_isSign 60 M61) = 0 ∧ ((nf_M_isSign 61 M61) = 0 ∧ ((nf_M_isSign 62 M61) = 0))) → (nr_M_fails 1 M61 (fun M93 => nk_M_readsAtom_96 v1 x2_58 M93 R))))))))) ∧ (0 < (nn_rf M 407 7) → R M))) : nk_M_readsAtom_33 v1 M R := by
  intro n L N 
  have NN := nn_L_n L N
  show mm_Go (mm_run 3) mc_M_readsAtom _ (33, [(0, .inr (.inr 407)), (1, .inl v1)], [], M)
  refine mm_s1 rfl ?_
  refine mm_s1 rfl ⟨(nn_c407 NN).1, ?_⟩
  show mm_Go (mm_run 3) mc_M_readsAtom _ (37, [(0, .inr (.inr 407)), (1, .inl v1)], [.inl (nn_rf M 407 7)], M)
  refine mm_s1 rfl ⟨fun c37 => ?_, fun c37 => ?_⟩
  · show mm_Go (mm_run 3) mc_M_readsAtom _ (41, [(0, .inr (.inr 407)), (1, .inl v1)], [], M)
    replace h := h.1 c37
    refine mm_s1 rfl ?_
    refine mm_s1 rfl ?_
    refine mm_s1 rfl ?_
    refine mm_s1 rfl ?_
    refine mm_s1 rfl ?_
    show mm_Go (mm_run 3) mc_M_readsAtom _ (48, [(0, .inr (.inr 407)), (1, .inl v1)], [.inr (.inr 407), .inl 11, .inl (mm_w (v1 + 14))], M)
    refine nn_getr rfl (nn_c407 NN).1 (lf_13_0 L N (nn_c407 NN)) ?_
    refine mm_s1 rfl ?_
    refine mm_s1 rfl ?_
    refine mm_s1 rfl ?_
    obtain ⟨b55, h⟩ := h
    refine mm_s1 rfl ⟨nn_bd (na_13_0 NN (nn_c407 NN)) b55, ?_⟩
    show mm_Go (mm_run 3) mc_M_readsAtom _ (56, [(0, .inr (.inr 407)), (1, .inl v1)], [.inl (nn_ri M 408 (mm_w (v1 + 8))), .inl 11, .inl (mm_w (v1 + 14))], M)
    refine mm_s1 rfl ?_
    refine mm_s1 rfl ?_
    refine mm_s1 rfl ?_
    show mm_Go (mm_run 3) mc_M_readsAtom _ (59, [(0, .inr (.inr 407)), (1, .inl v1), (2, .inl (mm_w ((mm_w (v1 + 14)) + (mm_w (11 * (nn_ri M 408 (mm_w (v1 + 8))))))))], [], M)
    generalize e_x2_58 : (mm_w ((mm_w (v1 + 14)) + (mm_w (11 * (nn_ri M 408 (mm_w (v1 + 8))))))) = x2_58
    replace h := h _ e_x2_58.symm
    show mm_Go (mm_run 3) mc_M_readsAtom _ (59, [(0, .inr (.inr 407)), (1, .inl v1), (2, .inl x2_58)], [], M)
    refine mm_s1 rfl ?_
    refine mm_s1 rfl ?_
    refine mm_s1 rfl ⟨(nn_c407 NN).1, ?_⟩
    refine nn_call (D := 3) (by decide) (h n L N) ?_
    intro v M61 q; clear L N h
    obtain ⟨rfl, L, N, h⟩ := q
    show mm_Go (mm_run 3) mc_M_readsAtom _ (64, [(0, .inr (.inr 407)), (1, .inl v1), (2, .inl x2_58)], [], M61)
    refine mm_s1 rfl ?_
    refine mm_s1 rfl ?_
    refine mm_s1 rfl ⟨(nn_c407 NN).1, ?_⟩
    refine np_M_isSign (by decide) L N ?_
    show mm_Go (mm_run 3) mc_M_readsAtom _ (70, [(0, .inr (.inr 407)), (1, .inl v1), (2, .inl x2_58)], [.inl (nf_M_isSign 60 M61)], M61)
    refine mm_s1 rfl ⟨fun c70 => ?_, fun c70 => ?_⟩
    · show mm_Go (mm_run 3) mc_M_readsAtom _ (96, [(0, .inr (.inr 407)), (1, .inl v1), (2, .inl x2_58)], [], M61)
      replace h := h.1 (Or.inl c70)
      exact nn_go_ext (nn_xc rfl (nn_xc rfl (nn_xc rfl nn_xn))) (h n L N)
    · show mm_Go (mm_run 3) mc_M_readsAtom _ (73, [(0, .inr (.inr 407)), (1, .inl v1), (2, .inl x2_58)], [], M61)
      replace c70 := Decidable.not_not.mp c70
      refine mm_s1 rfl ?_
      refine mm_s1 rfl ?_
      refine mm_s1 rfl ⟨(nn_c407 NN).1, ?_⟩
      refine np_M_isSign (by decide) L N ?_
      show mm_Go (mm_run 3) mc_M_readsAtom _ (79, [(0, .inr (.inr 407)), (1, .inl v1), (2, .inl x2_58)], [.inl (nf_M_isSign 61 M61)], M61)
      refine mm_s1 rfl ⟨fun c79 => ?_, fun c79 => ?_⟩
      · show mm_Go (mm_run 3) mc_M_readsAtom _ (96, [(0, .inr (.inr 407)), (1, .inl v1), (2, .inl x2_58)], [], M61)
        replace h := h.1 (Or.inr (Or.inl c79))
        exact nn_go_ext (nn_xc rfl (nn_xc rfl (nn_xc rfl nn_xn))) (h n L N)
      · show mm_Go (mm_run 3) mc_M_readsAtom _ (82, [(0, .inr (.inr 407)), (1, .inl v1), (2, .inl x2_58)], [], M61)
        replace c79 := Decidable.not_not.mp c79
        refine mm_s1 rfl ?_
        refine mm_s1 rfl ?_
        refine mm_s1 rfl ⟨(nn_c407 NN).1, ?_⟩
        refine np_M_isSign (by decide) L N ?_
        show mm_Go (mm_run 3) mc_M_readsAtom _ (88, [(0, .inr (.inr 407)), (1, .inl v1), (2, .inl x2_58)], [.inl (nf_M_isSign 62 M61)], M61)
        refine mm_s1 rfl ⟨fun c88 => ?_, fun c88 => ?_⟩
        · show mm_Go (mm_run 3) mc_M_readsAtom _ (96, [(0, .inr (.inr 407)), (1, .inl v1), (2, .inl x2_58)], [], M61)
          replace h := h.1 (Or.inr (Or.inr c88))
          exact nn_go_ext (nn_xc rfl (nn_xc rfl (nn_xc rfl nn_xn))) (h n L N)
        · show mm_Go (mm_run 3) mc_M_readsAtom _ (91, [(0, .inr (.inr 407)), (1, .inl v1), (2, .inl x2_58)], [], M61)
          replace c88 := Decidable.not_not.mp c88
          refine mm_s1 rfl ?_
          refine mm_s1 rfl ?_
          replace h := h.2 ⟨c70, ⟨c79, c88⟩⟩
          refine mm_s1 rfl ⟨(nn_c407 NN).1, ?_⟩
          refine nn_call (D := 1) (by decide) (h n L N) ?_
          intro v M93 q; clear L N h
          obtain ⟨rfl, L, N, h⟩ := q
          show mm_Go (mm_run 3) mc_M_readsAtom _ (96, [(0, .inr (.inr 407)), (1, .inl v1), (2, .inl x2_58)], [], M93)
          exact nn_go_ext (nn_xc rfl (nn_xc rfl (nn_xc rfl nn_xn))) (h n L N)
  · show mm_Go (mm_run 3) mc_M_readsAtom _ (40, [(0, .inr (.inr 407)), (1, .inl v1)], [], M)
    replace c37 := Int.not_le.mp c37
    replace h := h.2 c37
    exact mm_s1 rfl ⟨rfl, L, N, h⟩
set_option maxRecDepth 20000 in
theorem ng_M_readsAtom_96 (v1 : Int) (v2 : Int) (M : mm_M) (R : mm_M → Prop) (h : (((nn_rf M 407 7) ≤ 0 → (((0 : Int) ≤ (mm_w (v2 + 5)) ∧ (mm_w (v2 + 5)) < (32844 : Int)) ∧ (∀ M116 : mm_M, M116 = nn_ui M 408 (mm_w (v2 + 5)) (mm_w (nn_rf M 407 9)) → (nr_M_takes M116 (fun M118 => (nr_M_reads (mm_w (v2 + 6)) M118 (fun M126 => (((0 : Int) ≤ (mm_w (v1 + 8)) ∧ (mm_w (v1 + 8)) < (32844 : Int)) ∧ (((0 : Int) ≤ (mm_w (v1 + 8)) ∧ (mm_w (v1 + 8)) < (32844 : Int)) ∧ (∀ M141 : mm_M, M141 = nn_ui M126 408 (mm_w (v1 + 8)) (mm_w ((nn_ri M126 408 (mm_w (v1 + 8))) + 1)) → R M141)))))))))) ∧ (0 < (nn_rf M 407 7) → R M))) : nk_M_readsAtom_96 v1 v2 M R := by
  intro n L N 
  have NN := nn_L_n L N
  show mm_Go (mm_run 3) mc_M_readsAtom _ (96, [(0, .inr (.inr 407)), (1, .inl v1), (2, .inl v2)], [], M)
  refine mm_s1 rfl ?_
  refine mm_s1 rfl ⟨(nn_c407 NN).1, ?_⟩
  show mm_Go (mm_run 3) mc_M_readsAtom _ (100, [(0, .inr (.inr 407)), (1, .inl v1), (2, .inl v2)], [.inl (nn_rf M 407 7)], M)
  refine mm_s1 rfl ⟨fun c100 => ?_, fun c100 => ?_⟩
  · show mm_Go (mm_run 3) mc_M_readsAtom _ (104, [(0, .inr (.inr 407)), (1, .inl v1), (2, .inl v2)], [], M)
    replace h := h.1 c100
    refine mm_s1 rfl ?_
    refine nn_getr rfl (nn_c407 NN).1 (lf_13_0 L N (nn_c407 NN)) ?_
    refine mm_s1 rfl ?_
    refine mm_s1 rfl ?_
    refine mm_s1 rfl ?_
    show mm_Go (mm_run 3) mc_M_readsAtom _ (111, [(0, .inr (.inr 407)), (1, .inl v1), (2, .inl v2)], [.inl (mm_w (v2 + 5)), .inr (.inr 408)], M)
    refine mm_s1 rfl ?_
    refine mm_s1 rfl ⟨(nn_c407 NN).1, ?_⟩
    show mm_Go (mm_run 3) mc_M_readsAtom _ (115, [(0, .inr (.inr 407)), (1, .inl v1), (2, .inl v2)], [.inr (.inl (nn_rf M 407 9)), .inl (mm_w (v2 + 5)), .inr (.inr 408)], M)
    refine mm_s1 rfl ?_
    obtain ⟨b116, h⟩ := h
    refine mm_s1 rfl ⟨nn_bd (na_13_0 NN (nn_c407 NN)) b116, ?_⟩
    show mm_Go (mm_run 3) mc_M_readsAtom _ (117, [(0, .inr (.inr 407)), (1, .inl v1), (2, .inl v2)], [], (nn_ui M 408 (mm_w (v2 + 5)) (mm_w (nn_rf M 407 9))))
    have L : nn_L (nn_ui M 408 (mm_w (v2 + 5)) (mm_w (nn_rf M 407 9))) := nn_L_ua L (congrArg Prod.fst (na_13_0 NN (nn_c407 NN))) (by decide)
    have N : (nn_ui M 408 (mm_w (v2 + 5)) (mm_w (nn_rf M 407 9))).1 = n := N
    generalize e_M116 : (nn_ui M 408 (mm_w (v2 + 5)) (mm_w (nn_rf M 407 9))) = M116 at L N ⊢
    replace h := h _ e_M116.symm
    show mm_Go (mm_run 3) mc_M_readsAtom _ (117, [(0, .inr (.inr 407)), (1, .inl v1), (2, .inl v2)], [], M116)
    refine mm_s1 rfl ?_
    refine mm_s1 rfl ⟨(nn_c407 NN).1, ?_⟩
    refine nn_call (D := 2) (by decide) (h n L N) ?_
    intro v M118 q; clear L N h
    obtain ⟨rfl, L, N, h⟩ := q
    show mm_Go (mm_run 3) mc_M_readsAtom _ (121, [(0, .inr (.inr 407)), (1, .inl v1), (2, .inl v2)], [], M118)
    refine mm_s1 rfl ?_
    refine mm_s1 rfl ?_
    refine mm_s1 rfl ?_
    refine mm_s1 rfl ?_
    refine mm_s1 rfl ⟨(nn_c407 NN).1, ?_⟩
    refine nn_call (D := 3) (by decide) (h n L N) ?_
    intro v M126 q; clear L N h
    obtain ⟨rfl, L, N, h⟩ := q
    show mm_Go (mm_run 3) mc_M_readsAtom _ (129, [(0, .inr (.inr 407)), (1, .inl v1), (2, .inl v2)], [], M126)
    refine mm_s1 rfl ?_
    refine nn_getr rfl (nn_c407 NN).1 (lf_13_0 L N (nn_c407 NN)) ?_
    refine mm_s1 rfl ?_
    refine mm_s1 rfl ?_
    refine mm_s1 rfl ?_
    show mm_Go (mm_run 3) mc_M_readsAtom _ (137, [(0, .inr (.inr 407)), (1, .inl v1), (2, .inl v2)], [.inl (mm_w (v1 + 8)), .inr (.inr 408)], M126)
    refine mm_s1 rfl ?_
    obtain ⟨b138, h⟩ := h
    refine mm_s1 rfl ⟨nn_bd (na_13_0 NN (nn_c407 NN)) b138, ?_⟩
    show mm_Go (mm_run 3) mc_M_readsAtom _ (139, [(0, .inr (.inr 407)), (1, .inl v1), (2, .inl v2)], [.inl (nn_ri M126 408 (mm_w (v1 + 8))), .inl (mm_w (v1 + 8)), .inr (.inr 408)], M126)
    refine mm_s1 rfl ?_
    refine mm_s1 rfl ?_
    obtain ⟨b141, h⟩ := h
    refine mm_s1 rfl ⟨nn_bd (na_13_0 NN (nn_c407 NN)) b141, ?_⟩
    show mm_Go (mm_run 3) mc_M_readsAtom _ (142, [(0, .inr (.inr 407)), (1, .inl v1), (2, .inl v2)], [], (nn_ui M126 408 (mm_w (v1 + 8)) (mm_w ((nn_ri M126 408 (mm_w (v1 + 8))) + 1))))
    have L : nn_L (nn_ui M126 408 (mm_w (v1 + 8)) (mm_w ((nn_ri M126 408 (mm_w (v1 + 8))) + 1))) := nn_L_ua L (congrArg Prod.fst (na_13_0 NN (nn_c407 NN))) (by decide)
    have N : (nn_ui M126 408 (mm_w (v1 + 8)) (mm_w ((nn_ri M126 408 (mm_w (v1 + 8))) + 1))).1 = n := N
    generalize e_M141 : (nn_ui M126 408 (mm_w (v1 + 8)) (mm_w ((nn_ri M126 408 (mm_w (v1 + 8))) + 1))) = M141 at L N ⊢
    replace h := h _ e_M141.symm
    show mm_Go (mm_run 3) mc_M_readsAtom _ (142, [(0, .inr (.inr 407)), (1, .inl v1), (2, .inl v2)], [], M141)
    exact mm_s1 rfl ⟨rfl, L, N, h⟩
  · show mm_Go (mm_run 3) mc_M_readsAtom _ (103, [(0, .inr (.inr 407)), (1, .inl v1), (2, .inl v2)], [], M)
    replace c100 := Int.not_le.mp c100
    replace h := h.2 c100
    exact mm_s1 rfl ⟨rfl, L, N, h⟩
def nr_M_isWanted (v1 : Int) (v2 : Int) (v3 : Int) (M : mm_M) (R : Int → mm_M → Prop) : Prop := ∀ n, nn_L M → M.1 = n → mm_run 4 mi_M_isWanted [.inr (.inr 407), .inl v1, .inl v2, .inl v3] M (nw_Z n R)
set_option maxRecDepth 20000 in
theorem ng_M_isWanted (v1 : Int) (v2 : Int) (v3 : Int) (M : mm_M) (R : Int → mm_M → Prop) (h : (nr_M_isThere v1 v3 M (fun r3 M3 => ((r3 = 0 → R 0 M3) ∧ (r3 ≠ 0 → (nr_M_rowOf v1 v3 M3 (fun r14 M14 => (nr_M_wants v2 r14 M14 (fun r17 M17 => ((r17 = 0 → R 0 M17) ∧ (r17 ≠ 0 → R 1 M17))))))))))) : nr_M_isWanted v1 v2 v3 M R := by
  intro n L N 
  have NN := nn_L_n L N
  show mm_Go (mm_run 3) mc_M_isWanted _ (0, [(0, .inr (.inr 407)), (1, .inl v1), (2, .inl v2), (3, .inl v3)], [], M)
  refine mm_s1 rfl ?_
  refine mm_s1 rfl ?_
  refine mm_s1 rfl ?_
  refine mm_s1 rfl ⟨(nn_c407 NN).1, ?_⟩
  refine nn_call (D := 3) (by decide) (h n L N) ?_
  intro v M3 q; clear L N h
  obtain ⟨r3, rfl, q3, L, N, h⟩ := q
  show mm_Go (mm_run 3) mc_M_isWanted _ (6, [(0, .inr (.inr 407)), (1, .inl v1), (2, .inl v2), (3, .inl v3)], [.inl r3], M3)
  refine mm_s1 rfl ⟨fun c6 => ?_, fun c6 => ?_⟩
  · show mm_Go (mm_run 3) mc_M_isWanted _ (27, [(0, .inr (.inr 407)), (1, .inl v1), (2, .inl v2), (3, .inl v3)], [], M3)
    replace h := h.1 c6
    refine mm_s1 rfl ?_
    exact mm_s1 rfl ⟨(Or.inl rfl), _, rfl, (Or.inl rfl), L, N, h⟩
  · show mm_Go (mm_run 3) mc_M_isWanted _ (9, [(0, .inr (.inr 407)), (1, .inl v1), (2, .inl v2), (3, .inl v3)], [], M3)
    replace h := h.2 c6
    refine mm_s1 rfl ?_
    refine mm_s1 rfl ?_
    refine mm_s1 rfl ?_
    refine mm_s1 rfl ?_
    refine mm_s1 rfl ?_
    show mm_Go (mm_run 3) mc_M_isWanted _ (14, [(0, .inr (.inr 407)), (1, .inl v1), (2, .inl v2), (3, .inl v3)], [.inl v3, .inl v1, .inr (.inr 407), .inl v2, .inr (.inr 407)], M3)
    refine mm_s1 rfl ⟨(nn_c407 NN).1, ?_⟩
    refine nn_call (D := 3) (by decide) (h n L N) ?_
    intro v M14 q; clear L N h
    obtain ⟨r14, rfl, L, N, h⟩ := q
    show mm_Go (mm_run 3) mc_M_isWanted _ (17, [(0, .inr (.inr 407)), (1, .inl v1), (2, .inl v2), (3, .inl v3)], [.inl r14, .inl v2, .inr (.inr 407)], M14)
    refine mm_s1 rfl ⟨(nn_c407 NN).1, ?_⟩
    refine nn_call (D := 3) (by decide) (h n L N) ?_
    intro v M17 q; clear L N h
    obtain ⟨r17, rfl, q17, L, N, h⟩ := q
    show mm_Go (mm_run 3) mc_M_isWanted _ (20, [(0, .inr (.inr 407)), (1, .inl v1), (2, .inl v2), (3, .inl v3)], [.inl r17], M17)
    refine mm_s1 rfl ⟨fun c20 => ?_, fun c20 => ?_⟩
    · show mm_Go (mm_run 3) mc_M_isWanted _ (27, [(0, .inr (.inr 407)), (1, .inl v1), (2, .inl v2), (3, .inl v3)], [], M17)
      replace h := h.1 c20
      refine mm_s1 rfl ?_
      exact mm_s1 rfl ⟨(Or.inl rfl), _, rfl, (Or.inl rfl), L, N, h⟩
    · show mm_Go (mm_run 3) mc_M_isWanted _ (23, [(0, .inr (.inr 407)), (1, .inl v1), (2, .inl v2), (3, .inl v3)], [], M17)
      replace h := h.2 c20
      refine mm_s1 rfl ?_
      refine mm_s1 rfl ?_
      show mm_Go (mm_run 3) mc_M_isWanted _ (28, [(0, .inr (.inr 407)), (1, .inl v1), (2, .inl v2), (3, .inl v3)], [.inl 1], M17)
      exact mm_s1 rfl ⟨(Or.inr rfl), _, rfl, (Or.inr rfl), L, N, h⟩
def nr_M_mergesTable (v1 : Int) (v2 : Int) (v3 : Int) (v4 : Int) (M : mm_M) (R : mm_M → Prop) : Prop := ∀ n, nn_L M → M.1 = n → mm_run 4 mi_M_mergesTable [.inr (.inr 407), .inl v1, .inl v2, .inl v3, .inl v4] M (nw_V n R)
def nk_M_mergesTable_40 (v1 : Int) (v2 : Int) (v3 : Int) (v4 : Int) (v5 : Int) (v6 : Int) (v7 : Int) (v8 : Int) (M : mm_M) (R : mm_M → Prop) : Prop := ∀ n, nn_L M → M.1 = n → mm_Go (mm_run 3) mc_M_mergesTable (nw_V n R) (40, [(0, .inr (.inr 407)), (1, .inl v1), (2, .inl v2), (3, .inl v3), (4, .inl v4), (5, .inl v5), (6, .inl v6), (7, .inl v7), (8, .inl v8)], [], M)
def nk_M_mergesTable_279 (v1 : Int) (v2 : Int) (v3 : Int) (v5 : Int) (v6 : Int) (v7 : Int) (v8 : Int) (v9 : Int) (M : mm_M) (R : mm_M → Prop) : Prop := ∀ n, nn_L M → M.1 = n → mm_Go (mm_run 3) mc_M_mergesTable (nw_V n R) (279, [(0, .inr (.inr 407)), (1, .inl v1), (2, .inl v2), (3, .inl v3), (5, .inl v5), (6, .inl v6), (7, .inl v7), (8, .inl v8), (9, .inl v9)], [], M)
def nk_M_mergesTable_164 (v1 : Int) (v2 : Int) (v3 : Int) (v4 : Int) (v5 : Int) (v6 : Int) (v7 : Int) (v8 : Int) (v9 : Int) (v10 : Int) (M : mm_M) (R : mm_M → Prop) : Prop := ∀ n, nn_L M → M.1 = n → mm_Go (mm_run 3) mc_M_mergesTable (nw_V n R) (164, [(0, .inr (.inr 407)), (1, .inl v1), (2, .inl v2), (3, .inl v3), (4, .inl v4), (5, .inl v5), (6, .inl v6), (7, .inl v7), (8, .inl v8), (9, .inl v9), (10, .inl v10)], [], M)
def nk_M_mergesTable_379 (v1 : Int) (v2 : Int) (v8 : Int) (v9 : Int) (M : mm_M) (R : mm_M → Prop) : Prop := ∀ n, nn_L M → M.1 = n → mm_Go (mm_run 3) mc_M_mergesTable (nw_V n R) (379, [(0, .inr (.inr 407)), (1, .inl v1), (2, .inl v2), (8, .inl v8), (9, .inl v9)], [], M)
def nk_M_mergesTable_346 (v1 : Int) (v2 : Int) (v3 : Int) (v5 : Int) (v6 : Int) (v7 : Int) (v8 : Int) (v9 : Int) (M : mm_M) (R : mm_M → Prop) : Prop := ∀ n, nn_L M → M.1 = n → mm_Go (mm_run 3) mc_M_mergesTable (nw_V n R) (346, [(0, .inr (.inr 407)), (1, .inl v1), (2, .inl v2), (3, .inl v3), (5, .inl v5), (6, .inl v6), (7, .inl v7), (8, .inl v8), (9, .inl v9)], [], M)
def nk_M_mergesTable_338 (v1 : Int) (v2 : Int) (v3 : Int) (v5 : Int) (v6 : Int) (v7 : Int) (v8 : Int) (v9 : Int) (M : mm_M) (R : mm_M → Prop) : Prop := ∀ n, nn_L M → M.1 = n → mm_Go (mm_run 3) mc_M_mergesTable (nw_V n R) (338, [(0, .inr (.inr 407)), (1, .inl v1), (2, .inl v2), (3, .inl v3), (5, .inl v5), (6, .inl v6), (7, .inl v7), (8, .inl v8), (9, .inl v9)], [], M)
def nk_M_mergesTable_409 (v1 : Int) (M : mm_M) (R : mm_M → Prop) : Prop := ∀ n, nn_L M → M.1 = n → mm_Go (mm_run 3) mc_M_mergesTable (nw_V n R) (409, [(0, .inr (.inr 407)), (1, .inl v1)], [], M)
set_option maxRecDepth 20000 in
theorem ng_M_mergesTable (v1 : Int) (v2 : Int) (v3 : Int) (v4 : Int) (M : mm_M) (R : mm_M → Prop) (h : (((0 : Int) ≤ (mm_w (v1 + 5)) ∧ (mm_w (v1 + 5)) < (32844 : Int)) ∧ (((mm_w (v2 + v3)) ≠ (nn_ri M 408 (mm_w (v1 + 5))) → (nr_M_sure v1 M (fun r23 M23 => nk_M_mergesTable_40 v1 v2 v3 v4 0 r23 (nf_M_runAt v1 v2) (mm_w (v2 + 1)) M23 R))) ∧ ((mm_w (v2 + v3)) = (nn_ri M 408 (mm_w (v1 + 5))) → (nr_M_sure v1 M (fun r23 M23 => nk_M_mergesTable_40 v1 v2 v3 v4 1 r23 (nf_M_runAt v1 v2) (mm_w (v2 + 1)) M23 R)))))) : nr_M_mergesTable v1 v2 v3 v4 M R := by
  intro n L N 
  have NN := nn_L_n L N
  show mm_Go (mm_run 3) mc_M_mergesTable _ (0, [(0, .inr (.inr 407)), (1, .inl v1), (2, .inl v2), (3, .inl v3), (4, .inl v4)], [], M)
  refine mm_s1 rfl ?_
  refine mm_s1 rfl ?_
  refine mm_s1 rfl ?_
  refine mm_s1 rfl ?_
  refine nn_getr rfl (nn_c407 NN).1 (lf_13_0 L N (nn_c407 NN)) ?_
  show mm_Go (mm_run 3) mc_M_mergesTable _ (7, [(0, .inr (.inr 407)), (1, .inl v1), (2, .inl v2), (3, .inl v3), (4, .inl v4)], [.inr (.inr 408), .inl (mm_w (v2 + v3))], M)
  refine mm_s1 rfl ?_
  refine mm_s1 rfl ?_
  refine mm_s1 rfl ?_
  obtain ⟨b10, h⟩ := h
  refine mm_s1 rfl ⟨nn_bd (na_13_0 NN (nn_c407 NN)) b10, ?_⟩
  show mm_Go (mm_run 3) mc_M_mergesTable _ (11, [(0, .inr (.inr 407)), (1, .inl v1), (2, .inl v2), (3, .inl v3), (4, .inl v4)], [.inl (nn_ri M 408 (mm_w (v1 + 5))), .inl (mm_w (v2 + v3))], M)
  refine mm_s1 rfl ⟨fun c11 => ?_, fun c11 => ?_⟩
  · show mm_Go (mm_run 3) mc_M_mergesTable _ (18, [(0, .inr (.inr 407)), (1, .inl v1), (2, .inl v2), (3, .inl v3), (4, .inl v4)], [], M)
    replace h := h.1 c11
    refine mm_s1 rfl ?_
    refine mm_s1 rfl ?_
    show mm_Go (mm_run 3) mc_M_mergesTable _ (21, [(0, .inr (.inr 407)), (1, .inl v1), (2, .inl v2), (3, .inl v3), (4, .inl v4), (5, .inl 0)], [], M)
    refine mm_s1 rfl ?_
    refine mm_s1 rfl ?_
    refine mm_s1 rfl ⟨(nn_c407 NN).1, ?_⟩
    refine nn_call (D := 3) (by decide) (h n L N) ?_
    intro v M23 q; clear L N h
    obtain ⟨r23, rfl, L, N, h⟩ := q
    show mm_Go (mm_run 3) mc_M_mergesTable _ (26, [(0, .inr (.inr 407)), (1, .inl v1), (2, .inl v2), (3, .inl v3), (4, .inl v4), (5, .inl 0)], [.inl r23], M23)
    refine mm_s1 rfl ?_
    show mm_Go (mm_run 3) mc_M_mergesTable _ (28, [(0, .inr (.inr 407)), (1, .inl v1), (2, .inl v2), (3, .inl v3), (4, .inl v4), (5, .inl 0), (6, .inl r23)], [], M23)
    refine mm_s1 rfl ?_
    refine mm_s1 rfl ?_
    refine mm_s1 rfl ⟨trivial, ?_⟩
    refine np_M_runAt (by decide) L N ?_
    show mm_Go (mm_run 3) mc_M_mergesTable _ (33, [(0, .inr (.inr 407)), (1, .inl v1), (2, .inl v2), (3, .inl v3), (4, .inl v4), (5, .inl 0), (6, .inl r23)], [.inl (nf_M_runAt v1 v2)], M23)
    refine mm_s1 rfl ?_
    show mm_Go (mm_run 3) mc_M_mergesTable _ (35, [(0, .inr (.inr 407)), (1, .inl v1), (2, .inl v2), (3, .inl v3), (4, .inl v4), (5, .inl 0), (6, .inl r23), (7, .inl (nf_M_runAt v1 v2))], [], M23)
    refine mm_s1 rfl ?_
    refine mm_s1 rfl ?_
    refine mm_s1 rfl ?_
    refine mm_s1 rfl ?_
    show mm_Go (mm_run 3) mc_M_mergesTable _ (40, [(0, .inr (.inr 407)), (1, .inl v1), (2, .inl v2), (3, .inl v3), (4, .inl v4), (5, .inl 0), (6, .inl r23), (7, .inl (nf_M_runAt v1 v2)), (8, .inl (mm_w (v2 + 1)))], [], M23)
    exact nn_go_ext (nn_xc rfl (nn_xc rfl (nn_xc rfl (nn_xc rfl (nn_xc rfl (nn_xc rfl (nn_xc rfl (nn_xc rfl (nn_xc rfl nn_xn))))))))) (h n L N)
  · show mm_Go (mm_run 3) mc_M_mergesTable _ (14, [(0, .inr (.inr 407)), (1, .inl v1), (2, .inl v2), (3, .inl v3), (4, .inl v4)], [], M)
    replace c11 := Decidable.not_not.mp c11
    replace h := h.2 c11
    refine mm_s1 rfl ?_
    refine mm_s1 rfl ?_
    show mm_Go (mm_run 3) mc_M_mergesTable _ (19, [(0, .inr (.inr 407)), (1, .inl v1), (2, .inl v2), (3, .inl v3), (4, .inl v4)], [.inl 1], M)
    refine mm_s1 rfl ?_
    show mm_Go (mm_run 3) mc_M_mergesTable _ (21, [(0, .inr (.inr 407)), (1, .inl v1), (2, .inl v2), (3, .inl v3), (4, .inl v4), (5, .inl 1)], [], M)
    refine mm_s1 rfl ?_
    refine mm_s1 rfl ?_
    refine mm_s1 rfl ⟨(nn_c407 NN).1, ?_⟩
    refine nn_call (D := 3) (by decide) (h n L N) ?_
    intro v M23 q; clear L N h
    obtain ⟨r23, rfl, L, N, h⟩ := q
    show mm_Go (mm_run 3) mc_M_mergesTable _ (26, [(0, .inr (.inr 407)), (1, .inl v1), (2, .inl v2), (3, .inl v3), (4, .inl v4), (5, .inl 1)], [.inl r23], M23)
    refine mm_s1 rfl ?_
    show mm_Go (mm_run 3) mc_M_mergesTable _ (28, [(0, .inr (.inr 407)), (1, .inl v1), (2, .inl v2), (3, .inl v3), (4, .inl v4), (5, .inl 1), (6, .inl r23)], [], M23)
    refine mm_s1 rfl ?_
    refine mm_s1 rfl ?_
    refine mm_s1 rfl ⟨trivial, ?_⟩
    refine np_M_runAt (by decide) L N ?_
    show mm_Go (mm_run 3) mc_M_mergesTable _ (33, [(0, .inr (.inr 407)), (1, .inl v1), (2, .inl v2), (3, .inl v3), (4, .inl v4), (5, .inl 1), (6, .inl r23)], [.inl (nf_M_runAt v1 v2)], M23)
    refine mm_s1 rfl ?_
    show mm_Go (mm_run 3) mc_M_mergesTable _ (35, [(0, .inr (.inr 407)), (1, .inl v1), (2, .inl v2), (3, .inl v3), (4, .inl v4), (5, .inl 1), (6, .inl r23), (7, .inl (nf_M_runAt v1 v2))], [], M23)
    refine mm_s1 rfl ?_
    refine mm_s1 rfl ?_
    refine mm_s1 rfl ?_
    refine mm_s1 rfl ?_
    show mm_Go (mm_run 3) mc_M_mergesTable _ (40, [(0, .inr (.inr 407)), (1, .inl v1), (2, .inl v2), (3, .inl v3), (4, .inl v4), (5, .inl 1), (6, .inl r23), (7, .inl (nf_M_runAt v1 v2)), (8, .inl (mm_w (v2 + 1)))], [], M23)
    exact nn_go_ext (nn_xc rfl (nn_xc rfl (nn_xc rfl (nn_xc rfl (nn_xc rfl (nn_xc rfl (nn_xc rfl (nn_xc rfl (nn_xc rfl nn_xn))))))))) (h n L N)
set_option maxRecDepth 20000 in
theorem ng_M_mergesTable_40 (v1 : Int) (v2 : Int) (v3 : Int) (v4 : Int) (v5 : Int) (v6 : Int) (v7 : Int) (v8 : Int) (M : mm_M) (R : mm_M → Prop) (h : (((mm_w (v2 + v3)) ≤ v8 → (nr_M_number v1 M (fun r255 M255 => (((0 : Int) ≤ v7 ∧ v7 < (32844 : Int)) ∧ (∀ M258 : mm_M, M258 = nn_ui M255 408 v7 r255 → (((0 : Int) ≤ (mm_w (v7 + 1)) ∧ (mm_w (v7 + 1)) < (32844 : Int)) ∧ (∀ M269 : mm_M, M269 = nn_ui M258 408 (mm_w (v7 + 1)) v4 → nk_M_mergesTable_279 v1 v2 v3 v5 v6 v7 0 (mm_w (v7 + 4)) M269 R))))))) ∧ (v8 < (mm_w (v2 + v3)) → (((0 : Int) ≤ (mm_w ((nf_M_runAt v1 v8) + 2)) ∧ (mm_w ((nf_M_runAt v1 v8) + 2)) < (32844 : Int)) ∧ (((0 : Int) ≤ (mm_w (v7 + 2)) ∧ (mm_w (v7 + 2)) < (32844 : Int)) ∧ (((nn_ri M 408 (mm_w (v7 + 2))) ≤ (nn_ri M 408 (mm_w ((nf_M_runAt v1 v8) + 2))) → (((0 : Int) ≤ (mm_w (v7 + 2)) ∧ (mm_w (v7 + 2)) < (32844 : Int)) ∧ (((0 : Int) ≤ (mm_w (v7 + 2)) ∧ (mm_w (v7 + 2)) < (32844 : Int)) ∧ (∀ M106 : mm_M, M106 = nn_ui M 408 (mm_w (v7 + 2)) (nn_ri M 408 (mm_w (v7 + 2))) → (((0 : Int) ≤ (mm_w ((nf_M_runAt v1 v8) + 3)) ∧ (mm_w ((nf_M_runAt v1 v8) + 3)) < (32844 : Int)) ∧ (((0 : Int) ≤ (mm_w (v7 + 3)) ∧ (mm_w (v7 + 3)) < (32844 : Int)) ∧ (((nn_ri M106 408 (mm_w ((nf_M_runAt v1 v8) + 3))) ≤ (nn_ri M106 408 (mm_w (v7 + 3))) → (((0 : Int) ≤ (mm_w (v7 + 3)) ∧ (mm_w (v7 + 3)) < (32844 : Int)) ∧ (((0 : Int) ≤ (mm_w (v7 + 3)) ∧ (mm_w (v7 + 3)) < (32844 : Int)) ∧ (∀ M157 : mm_M, M157 = nn_ui M106 408 (mm_w (v7 + 3)) (nn_ri M106 408 (mm_w (v7 + 3))) → nk_M_mergesTable_164 v1 v2 v3 v4 v5 v6 v7 v8 (nf_M_runAt v1 v8) (mm_w (v7 + 4)) M157 R)))) ∧ ((nn_ri M106 408 (mm_w (v7 + 3))) < (nn_ri M106 408 (mm_w ((nf_M_runAt v1 v8) + 3))) → (((0 : Int) ≤ (mm_w ((nf_M_runAt v1 v8) + 3)) ∧ (mm_w ((nf_M_runAt v1 v8) + 3)) < (32844 : Int)) ∧ (((0 : Int) ≤ (mm_w (v7 + 3)) ∧ (mm_w (v7 + 3)) < (32844 : Int)) ∧ (∀ M157 : mm_M, M157 = nn_ui M106 408 (mm_w (v7 + 3)) (nn_ri M106 408 (mm_w ((nf_M_runAt v1 v8) + 3))) → nk_M_mergesTable_164 v1 v2 v3 v4 v5 v6 v7 v8 (nf_M_runAt v1 v8) (mm_w (v7 + 4)) M157 R))))))))))) ∧ ((nn_ri M 408 (mm_w ((nf_M_runAt v1 v8) + 2))) < (nn_ri M 408 (mm_w (v7 + 2))) → (((0 : Int) ≤ (mm_w ((nf_M_runAt v1 v8) + 2)) ∧ (mm_w ((nf_M_runAt v1 v8) + 2)) < (32844 : Int)) ∧ (((0 : Int) ≤ (mm_w (v7 + 2)) ∧ (mm_w (v7 + 2)) < (32844 : Int)) ∧ (∀ M106 : mm_M, M106 = nn_ui M 408 (mm_w (v7 + 2)) (nn_ri M 408 (mm_w ((nf_M_runAt v1 v8) + 2))) → (((0 : Int) ≤ (mm_w ((nf_M_runAt v1 v8) + 3)) ∧ (mm_w ((nf_M_runAt v1 v8) + 3)) < (32844 : Int)) ∧ (((0 : Int) ≤ (mm_w (v7 + 3)) ∧ (mm_w (v7 + 3)) < (32844 : Int)) ∧ (((nn_ri M106 408 (mm_w ((nf_M_runAt v1 v8) + 3))) ≤ (nn_ri M106 408 (mm_w (v7 + 3))) → (((0 : Int) ≤ (mm_w (v7 + 3)) ∧ (mm_w (v7 + 3)) < (32844 : Int)) ∧ (((0 : Int) ≤ (mm_w (v7 + 3)) ∧ (mm_w (v7 + 3)) < (32844 : Int)) ∧ (∀ M157 : mm_M, M157 = nn_ui M106 408 (mm_w (v7 + 3)) (nn_ri M106 408 (mm_w (v7 + 3))) → nk_M_mergesTable_164 v1 v2 v3 v4 v5 v6 v7 v8 (nf_M_runAt v1 v8) (mm_w (v7 + 4)) M157 R)))) ∧ ((nn_ri M106 408 (mm_w (v7 + 3))) < (nn_ri M106 408 (mm_w ((nf_M_runAt v1 v8) + 3))) → (((0 : Int) ≤ (mm_w ((nf_M_runAt v1 v8) + 3)) ∧ (mm_w ((nf_M_runAt v1 v8) + 3)) < (32844 : Int)) ∧ (((0 : Int) ≤ (mm_w (v7 + 3)) ∧ (mm_w (v7 + 3)) < (32844 : Int)) ∧ (∀ M157 : mm_M, M157 = nn_ui M106 408 (mm_w (v7 + 3)) (nn_ri M106 408 (mm_w ((nf_M_runAt v1 v8) + 3))) → nk_M_mergesTable_164 v1 v2 v3 v4 v5 v6 v7 v8 (nf_M_runAt v1 v8) (mm_w (v7 + 4)) M157 R))))))))))))))))) : nk_M_mergesTable_40 v1 v2 v3 v4 v5 v6 v7 v8 M R := by
  intro n L N 
  have NN := nn_L_n L N
  show mm_Go (mm_run 3) mc_M_mergesTable _ (40, [(0, .inr (.inr 407)), (1, .inl v1), (2, .inl v2), (3, .inl v3), (4, .inl v4), (5, .inl v5), (6, .inl v6), (7, .inl v7), (8, .inl v8)], [], M)
  refine mm_s1 rfl ?_
  refine mm_s1 rfl ?_
  refine mm_s1 rfl ?_
  refine mm_s1 rfl ?_
  refine mm_s1 rfl ⟨fun c45 => ?_, fun c45 => ?_⟩
  · show mm_Go (mm_run 3) mc_M_mergesTable _ (247, [(0, .inr (.inr 407)), (1, .inl v1), (2, .inl v2), (3, .inl v3), (4, .inl v4), (5, .inl v5), (6, .inl v6), (7, .inl v7), (8, .inl v8)], [], M)
    replace h := h.1 c45
    refine mm_s1 rfl ?_
    refine nn_getr rfl (nn_c407 NN).1 (lf_13_0 L N (nn_c407 NN)) ?_
    refine mm_s1 rfl ?_
    refine mm_s1 rfl ?_
    refine mm_s1 rfl ?_
    show mm_Go (mm_run 3) mc_M_mergesTable _ (255, [(0, .inr (.inr 407)), (1, .inl v1), (2, .inl v2), (3, .inl v3), (4, .inl v4), (5, .inl v5), (6, .inl v6), (7, .inl v7), (8, .inl v8)], [.inl v1, .inr (.inr 407), .inl v7, .inr (.inr 408)], M)
    refine mm_s1 rfl ⟨(nn_c407 NN).1, ?_⟩
    refine nn_call (D := 1) (by decide) (h n L N) ?_
    intro v M255 q; clear L N h
    obtain ⟨r255, rfl, L, N, h⟩ := q
    show mm_Go (mm_run 3) mc_M_mergesTable _ (258, [(0, .inr (.inr 407)), (1, .inl v1), (2, .inl v2), (3, .inl v3), (4, .inl v4), (5, .inl v5), (6, .inl v6), (7, .inl v7), (8, .inl v8)], [.inl r255, .inl v7, .inr (.inr 408)], M255)
    obtain ⟨b258, h⟩ := h
    refine mm_s1 rfl ⟨nn_bd (na_13_0 NN (nn_c407 NN)) b258, ?_⟩
    show mm_Go (mm_run 3) mc_M_mergesTable _ (259, [(0, .inr (.inr 407)), (1, .inl v1), (2, .inl v2), (3, .inl v3), (4, .inl v4), (5, .inl v5), (6, .inl v6), (7, .inl v7), (8, .inl v8)], [], (nn_ui M255 408 v7 r255))
    have L : nn_L (nn_ui M255 408 v7 r255) := nn_L_ua L (congrArg Prod.fst (na_13_0 NN (nn_c407 NN))) (by decide)
    have N : (nn_ui M255 408 v7 r255).1 = n := N
    generalize e_M258 : (nn_ui M255 408 v7 r255) = M258 at L N ⊢
    replace h := h _ e_M258.symm
    show mm_Go (mm_run 3) mc_M_mergesTable _ (259, [(0, .inr (.inr 407)), (1, .inl v1), (2, .inl v2), (3, .inl v3), (4, .inl v4), (5, .inl v5), (6, .inl v6), (7, .inl v7), (8, .inl v8)], [], M258)
    refine mm_s1 rfl ?_
    refine nn_getr rfl (nn_c407 NN).1 (lf_13_0 L N (nn_c407 NN)) ?_
    refine mm_s1 rfl ?_
    refine mm_s1 rfl ?_
    refine mm_s1 rfl ?_
    show mm_Go (mm_run 3) mc_M_mergesTable _ (267, [(0, .inr (.inr 407)), (1, .inl v1), (2, .inl v2), (3, .inl v3), (4, .inl v4), (5, .inl v5), (6, .inl v6), (7, .inl v7), (8, .inl v8)], [.inl (mm_w (v7 + 1)), .inr (.inr 408)], M258)
    refine mm_s1 rfl ?_
    obtain ⟨b269, h⟩ := h
    refine mm_s1 rfl ⟨nn_bd (na_13_0 NN (nn_c407 NN)) b269, ?_⟩
    show mm_Go (mm_run 3) mc_M_mergesTable _ (270, [(0, .inr (.inr 407)), (1, .inl v1), (2, .inl v2), (3, .inl v3), (4, .inl v4), (5, .inl v5), (6, .inl v6), (7, .inl v7), (8, .inl v8)], [], (nn_ui M258 408 (mm_w (v7 + 1)) v4))
    have L : nn_L (nn_ui M258 408 (mm_w (v7 + 1)) v4) := nn_L_ua L (congrArg Prod.fst (na_13_0 NN (nn_c407 NN))) (by decide)
    have N : (nn_ui M258 408 (mm_w (v7 + 1)) v4).1 = n := N
    generalize e_M269 : (nn_ui M258 408 (mm_w (v7 + 1)) v4) = M269 at L N ⊢
    replace h := h _ e_M269.symm
    show mm_Go (mm_run 3) mc_M_mergesTable _ (270, [(0, .inr (.inr 407)), (1, .inl v1), (2, .inl v2), (3, .inl v3), (4, .inl v4), (5, .inl v5), (6, .inl v6), (7, .inl v7), (8, .inl v8)], [], M269)
    refine mm_s1 rfl ?_
    refine mm_s1 rfl ?_
    show mm_Go (mm_run 3) mc_M_mergesTable _ (273, [(0, .inr (.inr 407)), (1, .inl v1), (2, .inl v2), (3, .inl v3), (4, .inl v4), (5, .inl v5), (6, .inl v6), (7, .inl v7), (8, .inl 0)], [], M269)
    refine mm_s1 rfl ?_
    refine mm_s1 rfl ?_
    refine mm_s1 rfl ?_
    refine mm_s1 rfl ?_
    show mm_Go (mm_run 3) mc_M_mergesTable _ (279, [(0, .inr (.inr 407)), (1, .inl v1), (2, .inl v2), (3, .inl v3), (4, .inl v4), (5, .inl v5), (6, .inl v6), (7, .inl v7), (8, .inl 0), (9, .inl (mm_w (v7 + 4)))], [], M269)
    exact nn_go_ext (nn_xc rfl (nn_xc rfl (nn_xc rfl (nn_xc rfl (nn_xc rfl (nn_xc rfl (nn_xc rfl (nn_xc rfl (nn_xc rfl nn_xn))))))))) (h n L N)
  · show mm_Go (mm_run 3) mc_M_mergesTable _ (48, [(0, .inr (.inr 407)), (1, .inl v1), (2, .inl v2), (3, .inl v3), (4, .inl v4), (5, .inl v5), (6, .inl v6), (7, .inl v7), (8, .inl v8)], [], M)
    replace c45 := Int.not_le.mp c45
    replace h := h.2 c45
    refine mm_s1 rfl ?_
    refine mm_s1 rfl ?_
    refine mm_s1 rfl ⟨trivial, ?_⟩
    refine np_M_runAt (by decide) L N ?_
    show mm_Go (mm_run 3) mc_M_mergesTable _ (54, [(0, .inr (.inr 407)), (1, .inl v1), (2, .inl v2), (3, .inl v3), (4, .inl v4), (5, .inl v5), (6, .inl v6), (7, .inl v7), (8, .inl v8)], [.inl (nf_M_runAt v1 v8)], M)
    refine mm_s1 rfl ?_
    show mm_Go (mm_run 3) mc_M_mergesTable _ (56, [(0, .inr (.inr 407)), (1, .inl v1), (2, .inl v2), (3, .inl v3), (4, .inl v4), (5, .inl v5), (6, .inl v6), (7, .inl v7), (8, .inl v8), (9, .inl (nf_M_runAt v1 v8))], [], M)
    refine mm_s1 rfl ?_
    refine nn_getr rfl (nn_c407 NN).1 (lf_13_0 L N (nn_c407 NN)) ?_
    refine mm_s1 rfl ?_
    refine mm_s1 rfl ?_
    refine mm_s1 rfl ?_
    show mm_Go (mm_run 3) mc_M_mergesTable _ (64, [(0, .inr (.inr 407)), (1, .inl v1), (2, .inl v2), (3, .inl v3), (4, .inl v4), (5, .inl v5), (6, .inl v6), (7, .inl v7), (8, .inl v8), (9, .inl (nf_M_runAt v1 v8))], [.inl (mm_w (v7 + 2)), .inr (.inr 408)], M)
    refine mm_s1 rfl ?_
    refine nn_getr rfl (nn_c407 NN).1 (lf_13_0 L N (nn_c407 NN)) ?_
    refine mm_s1 rfl ?_
    refine mm_s1 rfl ?_
    refine mm_s1 rfl ?_
    show mm_Go (mm_run 3) mc_M_mergesTable _ (72, [(0, .inr (.inr 407)), (1, .inl v1), (2, .inl v2), (3, .inl v3), (4, .inl v4), (5, .inl v5), (6, .inl v6), (7, .inl v7), (8, .inl v8), (9, .inl (nf_M_runAt v1 v8))], [.inl (mm_w ((nf_M_runAt v1 v8) + 2)), .inr (.inr 408), .inl (mm_w (v7 + 2)), .inr (.inr 408)], M)
    obtain ⟨b72, h⟩ := h
    refine mm_s1 rfl ⟨nn_bd (na_13_0 NN (nn_c407 NN)) b72, ?_⟩
    show mm_Go (mm_run 3) mc_M_mergesTable _ (73, [(0, .inr (.inr 407)), (1, .inl v1), (2, .inl v2), (3, .inl v3), (4, .inl v4), (5, .inl v5), (6, .inl v6), (7, .inl v7), (8, .inl v8), (9, .inl (nf_M_runAt v1 v8))], [.inl (nn_ri M 408 (mm_w ((nf_M_runAt v1 v8) + 2))), .inl (mm_w (v7 + 2)), .inr (.inr 408)], M)
    refine mm_s1 rfl ?_
    refine nn_getr rfl (nn_c407 NN).1 (lf_13_0 L N (nn_c407 NN)) ?_
    refine mm_s1 rfl ?_
    refine mm_s1 rfl ?_
    refine mm_s1 rfl ?_
    show mm_Go (mm_run 3) mc_M_mergesTable _ (81, [(0, .inr (.inr 407)), (1, .inl v1), (2, .inl v2), (3, .inl v3), (4, .inl v4), (5, .inl v5), (6, .inl v6), (7, .inl v7), (8, .inl v8), (9, .inl (nf_M_runAt v1 v8))], [.inl (mm_w (v7 + 2)), .inr (.inr 408), .inl (nn_ri M 408 (mm_w ((nf_M_runAt v1 v8) + 2))), .inl (mm_w (v7 + 2)), .inr (.inr 408)], M)
    obtain ⟨b81, h⟩ := h
    refine mm_s1 rfl ⟨nn_bd (na_13_0 NN (nn_c407 NN)) b81, ?_⟩
    show mm_Go (mm_run 3) mc_M_mergesTable _ (82, [(0, .inr (.inr 407)), (1, .inl v1), (2, .inl v2), (3, .inl v3), (4, .inl v4), (5, .inl v5), (6, .inl v6), (7, .inl v7), (8, .inl v8), (9, .inl (nf_M_runAt v1 v8))], [.inl (nn_ri M 408 (mm_w (v7 + 2))), .inl (nn_ri M 408 (mm_w ((nf_M_runAt v1 v8) + 2))), .inl (mm_w (v7 + 2)), .inr (.inr 408)], M)
    refine mm_s1 rfl ⟨fun c82 => ?_, fun c82 => ?_⟩
    · show mm_Go (mm_run 3) mc_M_mergesTable _ (97, [(0, .inr (.inr 407)), (1, .inl v1), (2, .inl v2), (3, .inl v3), (4, .inl v4), (5, .inl v5), (6, .inl v6), (7, .inl v7), (8, .inl v8), (9, .inl (nf_M_runAt v1 v8))], [.inl (mm_w (v7 + 2)), .inr (.inr 408)], M)
      replace h := h.1 c82
      refine mm_s1 rfl ?_
      refine nn_getr rfl (nn_c407 NN).1 (lf_13_0 L N (nn_c407 NN)) ?_
      refine mm_s1 rfl ?_
      refine mm_s1 rfl ?_
      refine mm_s1 rfl ?_
      show mm_Go (mm_run 3) mc_M_mergesTable _ (105, [(0, .inr (.inr 407)), (1, .inl v1), (2, .inl v2), (3, .inl v3), (4, .inl v4), (5, .inl v5), (6, .inl v6), (7, .inl v7), (8, .inl v8), (9, .inl (nf_M_runAt v1 v8))], [.inl (mm_w (v7 + 2)), .inr (.inr 408), .inl (mm_w (v7 + 2)), .inr (.inr 408)], M)
      obtain ⟨b105, h⟩ := h
      refine mm_s1 rfl ⟨nn_bd (na_13_0 NN (nn_c407 NN)) b105, ?_⟩
      show mm_Go (mm_run 3) mc_M_mergesTable _ (106, [(0, .inr (.inr 407)), (1, .inl v1), (2, .inl v2), (3, .inl v3), (4, .inl v4), (5, .inl v5), (6, .inl v6), (7, .inl v7), (8, .inl v8), (9, .inl (nf_M_runAt v1 v8))], [.inl (nn_ri M 408 (mm_w (v7 + 2))), .inl (mm_w (v7 + 2)), .inr (.inr 408)], M)
      obtain ⟨b106, h⟩ := h
      refine mm_s1 rfl ⟨nn_bd (na_13_0 NN (nn_c407 NN)) b106, ?_⟩
      show mm_Go (mm_run 3) mc_M_mergesTable _ (107, [(0, .inr (.inr 407)), (1, .inl v1), (2, .inl v2), (3, .inl v3), (4, .inl v4), (5, .inl v5), (6, .inl v6), (7, .inl v7), (8, .inl v8), (9, .inl (nf_M_runAt v1 v8))], [], (nn_ui M 408 (mm_w (v7 + 2)) (nn_ri M 408 (mm_w (v7 + 2)))))
      have L : nn_L (nn_ui M 408 (mm_w (v7 + 2)) (nn_ri M 408 (mm_w (v7 + 2)))) := nn_L_ua L (congrArg Prod.fst (na_13_0 NN (nn_c407 NN))) (by decide)
      have N : (nn_ui M 408 (mm_w (v7 + 2)) (nn_ri M 408 (mm_w (v7 + 2)))).1 = n := N
      generalize e_M106 : (nn_ui M 408 (mm_w (v7 + 2)) (nn_ri M 408 (mm_w (v7 + 2)))) = M106 at L N ⊢
      replace h := h _ e_M106.symm
      show mm_Go (mm_run 3) mc_M_mergesTable _ (107, [(0, .inr (.inr 407)), (1, .inl v1), (2, .inl v2), (3, .inl v3), (4, .inl v4), (5, .inl v5), (6, .inl v6), (7, .inl v7), (8, .inl v8), (9, .inl (nf_M_runAt v1 v8))], [], M106)
      refine mm_s1 rfl ?_
      refine nn_getr rfl (nn_c407 NN).1 (lf_13_0 L N (nn_c407 NN)) ?_
      refine mm_s1 rfl ?_
      refine mm_s1 rfl ?_
      refine mm_s1 rfl ?_
      show mm_Go (mm_run 3) mc_M_mergesTable _ (115, [(0, .inr (.inr 407)), (1, .inl v1), (2, .inl v2), (3, .inl v3), (4, .inl v4), (5, .inl v5), (6, .inl v6), (7, .inl v7), (8, .inl v8), (9, .inl (nf_M_runAt v1 v8))], [.inl (mm_w (v7 + 3)), .inr (.inr 408)], M106)
      refine mm_s1 rfl ?_
      refine nn_getr rfl (nn_c407 NN).1 (lf_13_0 L N (nn_c407 NN)) ?_
      refine mm_s1 rfl ?_
      refine mm_s1 rfl ?_
      refine mm_s1 rfl ?_
      show mm_Go (mm_run 3) mc_M_mergesTable _ (123, [(0, .inr (.inr 407)), (1, .inl v1), (2, .inl v2), (3, .inl v3), (4, .inl v4), (5, .inl v5), (6, .inl v6), (7, .inl v7), (8, .inl v8), (9, .inl (nf_M_runAt v1 v8))], [.inl (mm_w ((nf_M_runAt v1 v8) + 3)), .inr (.inr 408), .inl (mm_w (v7 + 3)), .inr (.inr 408)], M106)
      obtain ⟨b123, h⟩ := h
      refine mm_s1 rfl ⟨nn_bd (na_13_0 NN (nn_c407 NN)) b123, ?_⟩
      show mm_Go (mm_run 3) mc_M_mergesTable _ (124, [(0, .inr (.inr 407)), (1, .inl v1), (2, .inl v2), (3, .inl v3), (4, .inl v4), (5, .inl v5), (6, .inl v6), (7, .inl v7), (8, .inl v8), (9, .inl (nf_M_runAt v1 v8))], [.inl (nn_ri M106 408 (mm_w ((nf_M_runAt v1 v8) + 3))), .inl (mm_w (v7 + 3)), .inr (.inr 408)], M106)
      refine mm_s1 rfl ?_
      refine nn_getr rfl (nn_c407 NN).1 (lf_13_0 L N (nn_c407 NN)) ?_
      refine mm_s1 rfl ?_
      refine mm_s1 rfl ?_
      refine mm_s1 rfl ?_
      show mm_Go (mm_run 3) mc_M_mergesTable _ (132, [(0, .inr (.inr 407)), (1, .inl v1), (2, .inl v2), (3, .inl v3), (4, .inl v4), (5, .inl v5), (6, .inl v6), (7, .inl v7), (8, .inl v8), (9, .inl (nf_M_runAt v1 v8))], [.inl (mm_w (v7 + 3)), .inr (.inr 408), .inl (nn_ri M106 408 (mm_w ((nf_M_runAt v1 v8) + 3))), .inl (mm_w (v7 + 3)), .inr (.inr 408)], M106)
      obtain ⟨b132, h⟩ := h
      refine mm_s1 rfl ⟨nn_bd (na_13_0 NN (nn_c407 NN)) b132, ?_⟩
      show mm_Go (mm_run 3) mc_M_mergesTable _ (133, [(0, .inr (.inr 407)), (1, .inl v1), (2, .inl v2), (3, .inl v3), (4, .inl v4), (5, .inl v5), (6, .inl v6), (7, .inl v7), (8, .inl v8), (9, .inl (nf_M_runAt v1 v8))], [.inl (nn_ri M106 408 (mm_w (v7 + 3))), .inl (nn_ri M106 408 (mm_w ((nf_M_runAt v1 v8) + 3))), .inl (mm_w (v7 + 3)), .inr (.inr 408)], M106)
      refine mm_s1 rfl ⟨fun c133 => ?_, fun c133 => ?_⟩
      · show mm_Go (mm_run 3) mc_M_mergesTable _ (148, [(0, .inr (.inr 407)), (1, .inl v1), (2, .inl v2), (3, .inl v3), (4, .inl v4), (5, .inl v5), (6, .inl v6), (7, .inl v7), (8, .inl v8), (9, .inl (nf_M_runAt v1 v8))], [.inl (mm_w (v7 + 3)), .inr (.inr 408)], M106)
        replace h := h.1 c133
        refine mm_s1 rfl ?_
        refine nn_getr rfl (nn_c407 NN).1 (lf_13_0 L N (nn_c407 NN)) ?_
        refine mm_s1 rfl ?_
        refine mm_s1 rfl ?_
        refine mm_s1 rfl ?_
        show mm_Go (mm_run 3) mc_M_mergesTable _ (156, [(0, .inr (.inr 407)), (1, .inl v1), (2, .inl v2), (3, .inl v3), (4, .inl v4), (5, .inl v5), (6, .inl v6), (7, .inl v7), (8, .inl v8), (9, .inl (nf_M_runAt v1 v8))], [.inl (mm_w (v7 + 3)), .inr (.inr 408), .inl (mm_w (v7 + 3)), .inr (.inr 408)], M106)
        obtain ⟨b156, h⟩ := h
        refine mm_s1 rfl ⟨nn_bd (na_13_0 NN (nn_c407 NN)) b156, ?_⟩
        show mm_Go (mm_run 3) mc_M_mergesTable _ (157, [(0, .inr (.inr 407)), (1, .inl v1), (2, .inl v2), (3, .inl v3), (4, .inl v4), (5, .inl v5), (6, .inl v6), (7, .inl v7), (8, .inl v8), (9, .inl (nf_M_runAt v1 v8))], [.inl (nn_ri M106 408 (mm_w (v7 + 3))), .inl (mm_w (v7 + 3)), .inr (.inr 408)], M106)
        obtain ⟨b157, h⟩ := h
        refine mm_s1 rfl ⟨nn_bd (na_13_0 NN (nn_c407 NN)) b157, ?_⟩
        show mm_Go (mm_run 3) mc_M_mergesTable _ (158, [(0, .inr (.inr 407)), (1, .inl v1), (2, .inl v2), (3, .inl v3), (4, .inl v4), (5, .inl v5), (6, .inl v6), (7, .inl v7), (8, .inl v8), (9, .inl (nf_M_runAt v1 v8))], [], (nn_ui M106 408 (mm_w (v7 + 3)) (nn_ri M106 408 (mm_w (v7 + 3)))))
        have L : nn_L (nn_ui M106 408 (mm_w (v7 + 3)) (nn_ri M106 408 (mm_w (v7 + 3)))) := nn_L_ua L (congrArg Prod.fst (na_13_0 NN (nn_c407 NN))) (by decide)
        have N : (nn_ui M106 408 (mm_w (v7 + 3)) (nn_ri M106 408 (mm_w (v7 + 3)))).1 = n := N
        generalize e_M157 : (nn_ui M106 408 (mm_w (v7 + 3)) (nn_ri M106 408 (mm_w (v7 + 3)))) = M157 at L N ⊢
        replace h := h _ e_M157.symm
        show mm_Go (mm_run 3) mc_M_mergesTable _ (158, [(0, .inr (.inr 407)), (1, .inl v1), (2, .inl v2), (3, .inl v3), (4, .inl v4), (5, .inl v5), (6, .inl v6), (7, .inl v7), (8, .inl v8), (9, .inl (nf_M_runAt v1 v8))], [], M157)
        refine mm_s1 rfl ?_
        refine mm_s1 rfl ?_
        refine mm_s1 rfl ?_
        refine mm_s1 rfl ?_
        show mm_Go (mm_run 3) mc_M_mergesTable _ (164, [(0, .inr (.inr 407)), (1, .inl v1), (2, .inl v2), (3, .inl v3), (4, .inl v4), (5, .inl v5), (6, .inl v6), (7, .inl v7), (8, .inl v8), (9, .inl (nf_M_runAt v1 v8)), (10, .inl (mm_w (v7 + 4)))], [], M157)
        exact nn_go_ext (nn_xc rfl (nn_xc rfl (nn_xc rfl (nn_xc rfl (nn_xc rfl (nn_xc rfl (nn_xc rfl (nn_xc rfl (nn_xc rfl (nn_xc rfl (nn_xc rfl nn_xn))))))))))) (h n L N)
      · show mm_Go (mm_run 3) mc_M_mergesTable _ (136, [(0, .inr (.inr 407)), (1, .inl v1), (2, .inl v2), (3, .inl v3), (4, .inl v4), (5, .inl v5), (6, .inl v6), (7, .inl v7), (8, .inl v8), (9, .inl (nf_M_runAt v1 v8))], [.inl (mm_w (v7 + 3)), .inr (.inr 408)], M106)
        replace c133 := Int.not_le.mp c133
        replace h := h.2 c133
        refine mm_s1 rfl ?_
        refine nn_getr rfl (nn_c407 NN).1 (lf_13_0 L N (nn_c407 NN)) ?_
        refine mm_s1 rfl ?_
        refine mm_s1 rfl ?_
        refine mm_s1 rfl ?_
        show mm_Go (mm_run 3) mc_M_mergesTable _ (144, [(0, .inr (.inr 407)), (1, .inl v1), (2, .inl v2), (3, .inl v3), (4, .inl v4), (5, .inl v5), (6, .inl v6), (7, .inl v7), (8, .inl v8), (9, .inl (nf_M_runAt v1 v8))], [.inl (mm_w ((nf_M_runAt v1 v8) + 3)), .inr (.inr 408), .inl (mm_w (v7 + 3)), .inr (.inr 408)], M106)
        obtain ⟨b144, h⟩ := h
        refine mm_s1 rfl ⟨nn_bd (na_13_0 NN (nn_c407 NN)) b144, ?_⟩
        show mm_Go (mm_run 3) mc_M_mergesTable _ (145, [(0, .inr (.inr 407)), (1, .inl v1), (2, .inl v2), (3, .inl v3), (4, .inl v4), (5, .inl v5), (6, .inl v6), (7, .inl v7), (8, .inl v8), (9, .inl (nf_M_runAt v1 v8))], [.inl (nn_ri M106 408 (mm_w ((nf_M_runAt v1 v8) + 3))), .inl (mm_w (v7 + 3)), .inr (.inr 408)], M106)
        refine mm_s1 rfl ?_
        show mm_Go (mm_run 3) mc_M_mergesTable _ (157, [(0, .inr (.inr 407)), (1, .inl v1), (2, .inl v2), (3, .inl v3), (4, .inl v4), (5, .inl v5), (6, .inl v6), (7, .inl v7), (8, .inl v8), (9, .inl (nf_M_runAt v1 v8))], [.inl (nn_ri M106 408 (mm_w ((nf_M_runAt v1 v8) + 3))), .inl (mm_w (v7 + 3)), .inr (.inr 408)], M106)
        obtain ⟨b157, h⟩ := h
        refine mm_s1 rfl ⟨nn_bd (na_13_0 NN (nn_c407 NN)) b157, ?_⟩
        show mm_Go (mm_run 3) mc_M_mergesTable _ (158, [(0, .inr (.inr 407)), (1, .inl v1), (2, .inl v2), (3, .inl v3), (4, .inl v4), (5, .inl v5), (6, .inl v6), (7, .inl v7), (8, .inl v8), (9, .inl (nf_M_runAt v1 v8))], [], (nn_ui M106 408 (mm_w (v7 + 3)) (nn_ri M106 408 (mm_w ((nf_M_runAt v1 v8) + 3)))))
        have L : nn_L (nn_ui M106 408 (mm_w (v7 + 3)) (nn_ri M106 408 (mm_w ((nf_M_runAt v1 v8) + 3)))) := nn_L_ua L (congrArg Prod.fst (na_13_0 NN (nn_c407 NN))) (by decide)
        have N : (nn_ui M106 408 (mm_w (v7 + 3)) (nn_ri M106 408 (mm_w ((nf_M_runAt v1 v8) + 3)))).1 = n := N
        generalize e_M157 : (nn_ui M106 408 (mm_w (v7 + 3)) (nn_ri M106 408 (mm_w ((nf_M_runAt v1 v8) + 3)))) = M157 at L N ⊢
        replace h := h _ e_M157.symm
        show mm_Go (mm_run 3) mc_M_mergesTable _ (158, [(0, .inr (.inr 407)), (1, .inl v1), (2, .inl v2), (3, .inl v3), (4, .inl v4), (5, .inl v5), (6, .inl v6), (7, .inl v7), (8, .inl v8), (9, .inl (nf_M_runAt v1 v8))], [], M157)
        refine mm_s1 rfl ?_
        refine mm_s1 rfl ?_
        refine mm_s1 rfl ?_
        refine mm_s1 rfl ?_
        show mm_Go (mm_run 3) mc_M_mergesTable _ (164, [(0, .inr (.inr 407)), (1, .inl v1), (2, .inl v2), (3, .inl v3), (4, .inl v4), (5, .inl v5), (6, .inl v6), (7, .inl v7), (8, .inl v8), (9, .inl (nf_M_runAt v1 v8)), (10, .inl (mm_w (v7 + 4)))], [], M157)
        exact nn_go_ext (nn_xc rfl (nn_xc rfl (nn_xc rfl (nn_xc rfl (nn_xc rfl (nn_xc rfl (nn_xc rfl (nn_xc rfl (nn_xc rfl (nn_xc rfl (nn_xc rfl nn_xn))))))))))) (h n L N)
    · show mm_Go (mm_run 3) mc_M_mergesTable _ (85, [(0, .inr (.inr 407)), (1, .inl v1), (2, .inl v2), (3, .inl v3), (4, .inl v4), (5, .inl v5), (6, .inl v6), (7, .inl v7), (8, .inl v8), (9, .inl (nf_M_runAt v1 v8))], [.inl (mm_w (v7 + 2)), .inr (.inr 408)], M)
      replace c82 := Int.not_le.mp c82
      replace h := h.2 c82
      refine mm_s1 rfl ?_
      refine nn_getr rfl (nn_c407 NN).1 (lf_13_0 L N (nn_c407 NN)) ?_
      refine mm_s1 rfl ?_
      refine mm_s1 rfl ?_
      refine mm_s1 rfl ?_
      show mm_Go (mm_run 3) mc_M_mergesTable _ (93, [(0, .inr (.inr 407)), (1, .inl v1), (2, .inl v2), (3, .inl v3), (4, .inl v4), (5, .inl v5), (6, .inl v6), (7, .inl v7), (8, .inl v8), (9, .inl (nf_M_runAt v1 v8))], [.inl (mm_w ((nf_M_runAt v1 v8) + 2)), .inr (.inr 408), .inl (mm_w (v7 + 2)), .inr (.inr 408)], M)
      obtain ⟨b93, h⟩ := h
      refine mm_s1 rfl ⟨nn_bd (na_13_0 NN (nn_c407 NN)) b93, ?_⟩
      show mm_Go (mm_run 3) mc_M_mergesTable _ (94, [(0, .inr (.inr 407)), (1, .inl v1), (2, .inl v2), (3, .inl v3), (4, .inl v4), (5, .inl v5), (6, .inl v6), (7, .inl v7), (8, .inl v8), (9, .inl (nf_M_runAt v1 v8))], [.inl (nn_ri M 408 (mm_w ((nf_M_runAt v1 v8) + 2))), .inl (mm_w (v7 + 2)), .inr (.inr 408)], M)
      refine mm_s1 rfl ?_
      show mm_Go (mm_run 3) mc_M_mergesTable _ (106, [(0, .inr (.inr 407)), (1, .inl v1), (2, .inl v2), (3, .inl v3), (4, .inl v4), (5, .inl v5), (6, .inl v6), (7, .inl v7), (8, .inl v8), (9, .inl (nf_M_runAt v1 v8))], [.inl (nn_ri M 408 (mm_w ((nf_M_runAt v1 v8) + 2))), .inl (mm_w (v7 + 2)), .inr (.inr 408)], M)
      obtain ⟨b106, h⟩ := h
      refine mm_s1 rfl ⟨nn_bd (na_13_0 NN (nn_c407 NN)) b106, ?_⟩
      show mm_Go (mm_run 3) mc_M_mergesTable _ (107, [(0, .inr (.inr 407)), (1, .inl v1), (2, .inl v2), (3, .inl v3), (4, .inl v4), (5, .inl v5), (6, .inl v6), (7, .inl v7), (8, .inl v8), (9, .inl (nf_M_runAt v1 v8))], [], (nn_ui M 408 (mm_w (v7 + 2)) (nn_ri M 408 (mm_w ((nf_M_runAt v1 v8) + 2)))))
      have L : nn_L (nn_ui M 408 (mm_w (v7 + 2)) (nn_ri M 408 (mm_w ((nf_M_runAt v1 v8) + 2)))) := nn_L_ua L (congrArg Prod.fst (na_13_0 NN (nn_c407 NN))) (by decide)
      have N : (nn_ui M 408 (mm_w (v7 + 2)) (nn_ri M 408 (mm_w ((nf_M_runAt v1 v8) + 2)))).1 = n := N
      generalize e_M106 : (nn_ui M 408 (mm_w (v7 + 2)) (nn_ri M 408 (mm_w ((nf_M_runAt v1 v8) + 2)))) = M106 at L N ⊢
      replace h := h _ e_M106.symm
      show mm_Go (mm_run 3) mc_M_mergesTable _ (107, [(0, .inr (.inr 407)), (1, .inl v1), (2, .inl v2), (3, .inl v3), (4, .inl v4), (5, .inl v5), (6, .inl v6), (7, .inl v7), (8, .inl v8), (9, .inl (nf_M_runAt v1 v8))], [], M106)
      refine mm_s1 rfl ?_
      refine nn_getr rfl (nn_c407 NN).1 (lf_13_0 L N (nn_c407 NN)) ?_
      refine mm_s1 rfl ?_
      refine mm_s1 rfl ?_
      refine mm_s1 rfl ?_
      show mm_Go (mm_run 3) mc_M_mergesTable _ (115, [(0, .inr (.inr 407)), (1, .inl v1), (2, .inl v2), (3, .inl v3), (4, .inl v4), (5, .inl v5), (6, .inl v6), (7, .inl v7), (8, .inl v8), (9, .inl (nf_M_runAt v1 v8))], [.inl (mm_w (v7 + 3)), .inr (.inr 408)], M106)
      refine mm_s1 rfl ?_
      refine nn_getr rfl (nn_c407 NN).1 (lf_13_0 L N (nn_c407 NN)) ?_
      refine mm_s1 rfl ?_
      refine mm_s1 rfl ?_
      refine mm_s1 rfl ?_
      show mm_Go (mm_run 3) mc_M_mergesTable _ (123, [(0, .inr (.inr 407)), (1, .inl v1), (2, .inl v2), (3, .inl v3), (4, .inl v4), (5, .inl v5), (6, .inl v6), (7, .inl v7), (8, .inl v8), (9, .inl (nf_M_runAt v1 v8))], [.inl (mm_w ((nf_M_runAt v1 v8) + 3)), .inr (.inr 408), .inl (mm_w (v7 + 3)), .inr (.inr 408)], M106)
      obtain ⟨b123, h⟩ := h
      refine mm_s1 rfl ⟨nn_bd (na_13_0 NN (nn_c407 NN)) b123, ?_⟩
      show mm_Go (mm_run 3) mc_M_mergesTable _ (124, [(0, .inr (.inr 407)), (1, .inl v1), (2, .inl v2), (3, .inl v3), (4, .inl v4), (5, .inl v5), (6, .inl v6), (7, .inl v7), (8, .inl v8), (9, .inl (nf_M_runAt v1 v8))], [.inl (nn_ri M106 408 (mm_w ((nf_M_runAt v1 v8) + 3))), .inl (mm_w (v7 + 3)), .inr (.inr 408)], M106)
      refine mm_s1 rfl ?_
      refine nn_getr rfl (nn_c407 NN).1 (lf_13_0 L N (nn_c407 NN)) ?_
      refine mm_s1 rfl ?_
      refine mm_s1 rfl ?_
      refine mm_s1 rfl ?_
      show mm_Go (mm_run 3) mc_M_mergesTable _ (132, [(0, .inr (.inr 407)), (1, .inl v1), (2, .inl v2), (3, .inl v3), (4, .inl v4), (5, .inl v5), (6, .inl v6), (7, .inl v7), (8, .inl v8), (9, .inl (nf_M_runAt v1 v8))], [.inl (mm_w (v7 + 3)), .inr (.inr 408), .inl (nn_ri M106 408 (mm_w ((nf_M_runAt v1 v8) + 3))), .inl (mm_w (v7 + 3)), .inr (.inr 408)], M106)
      obtain ⟨b132, h⟩ := h
      refine mm_s1 rfl ⟨nn_bd (na_13_0 NN (nn_c407 NN)) b132, ?_⟩
      show mm_Go (mm_run 3) mc_M_mergesTable _ (133, [(0, .inr (.inr 407)), (1, .inl v1), (2, .inl v2), (3, .inl v3), (4, .inl v4), (5, .inl v5), (6, .inl v6), (7, .inl v7), (8, .inl v8), (9, .inl (nf_M_runAt v1 v8))], [.inl (nn_ri M106 408 (mm_w (v7 + 3))), .inl (nn_ri M106 408 (mm_w ((nf_M_runAt v1 v8) + 3))), .inl (mm_w (v7 + 3)), .inr (.inr 408)], M106)
      refine mm_s1 rfl ⟨fun c133 => ?_, fun c133 => ?_⟩
      · show mm_Go (mm_run 3) mc_M_mergesTable _ (148, [(0, .inr (.inr 407)), (1, .inl v1), (2, .inl v2), (3, .inl v3), (4, .inl v4), (5, .inl v5), (6, .inl v6), (7, .inl v7), (8, .inl v8), (9, .inl (nf_M_runAt v1 v8))], [.inl (mm_w (v7 + 3)), .inr (.inr 408)], M106)
        replace h := h.1 c133
        refine mm_s1 rfl ?_
        refine nn_getr rfl (nn_c407 NN).1 (lf_13_0 L N (nn_c407 NN)) ?_
        refine mm_s1 rfl ?_
        refine mm_s1 rfl ?_
        refine mm_s1 rfl ?_
        show mm_Go (mm_run 3) mc_M_mergesTable _ (156, [(0, .inr (.inr 407)), (1, .inl v1), (2, .inl v2), (3, .inl v3), (4, .inl v4), (5, .inl v5), (6, .inl v6), (7, .inl v7), (8, .inl v8), (9, .inl (nf_M_runAt v1 v8))], [.inl (mm_w (v7 + 3)), .inr (.inr 408), .inl (mm_w (v7 + 3)), .inr (.inr 408)], M106)
        obtain ⟨b156, h⟩ := h
        refine mm_s1 rfl ⟨nn_bd (na_13_0 NN (nn_c407 NN)) b156, ?_⟩
        show mm_Go (mm_run 3) mc_M_mergesTable _ (157, [(0, .inr (.inr 407)), (1, .inl v1), (2, .inl v2), (3, .inl v3), (4, .inl v4), (5, .inl v5), (6, .inl v6), (7, .inl v7), (8, .inl v8), (9, .inl (nf_M_runAt v1 v8))], [.inl (nn_ri M106 408 (mm_w (v7 + 3))), .inl (mm_w (v7 + 3)), .inr (.inr 408)], M106)
        obtain ⟨b157, h⟩ := h
        refine mm_s1 rfl ⟨nn_bd (na_13_0 NN (nn_c407 NN)) b157, ?_⟩
        show mm_Go (mm_run 3) mc_M_mergesTable _ (158, [(0, .inr (.inr 407)), (1, .inl v1), (2, .inl v2), (3, .inl v3), (4, .inl v4), (5, .inl v5), (6, .inl v6), (7, .inl v7), (8, .inl v8), (9, .inl (nf_M_runAt v1 v8))], [], (nn_ui M106 408 (mm_w (v7 + 3)) (nn_ri M106 408 (mm_w (v7 + 3)))))
        have L : nn_L (nn_ui M106 408 (mm_w (v7 + 3)) (nn_ri M106 408 (mm_w (v7 + 3)))) := nn_L_ua L (congrArg Prod.fst (na_13_0 NN (nn_c407 NN))) (by decide)
        have N : (nn_ui M106 408 (mm_w (v7 + 3)) (nn_ri M106 408 (mm_w (v7 + 3)))).1 = n := N
        generalize e_M157 : (nn_ui M106 408 (mm_w (v7 + 3)) (nn_ri M106 408 (mm_w (v7 + 3)))) = M157 at L N ⊢
        replace h := h _ e_M157.symm
        show mm_Go (mm_run 3) mc_M_mergesTable _ (158, [(0, .inr (.inr 407)), (1, .inl v1), (2, .inl v2), (3, .inl v3), (4, .inl v4), (5, .inl v5), (6, .inl v6), (7, .inl v7), (8, .inl v8), (9, .inl (nf_M_runAt v1 v8))], [], M157)
        refine mm_s1 rfl ?_
        refine mm_s1 rfl ?_
        refine mm_s1 rfl ?_
        refine mm_s1 rfl ?_
        show mm_Go (mm_run 3) mc_M_mergesTable _ (164, [(0, .inr (.inr 407)), (1, .inl v1), (2, .inl v2), (3, .inl v3), (4, .inl v4), (5, .inl v5), (6, .inl v6), (7, .inl v7), (8, .inl v8), (9, .inl (nf_M_runAt v1 v8)), (10, .inl (mm_w (v7 + 4)))], [], M157)
        exact nn_go_ext (nn_xc rfl (nn_xc rfl (nn_xc rfl (nn_xc rfl (nn_xc rfl (nn_xc rfl (nn_xc rfl (nn_xc rfl (nn_xc rfl (nn_xc rfl (nn_xc rfl nn_xn))))))))))) (h n L N)
      · show mm_Go (mm_run 3) mc_M_mergesTable _ (136, [(0, .inr (.inr 407)), (1, .inl v1), (2, .inl v2), (3, .inl v3), (4, .inl v4), (5, .inl v5), (6, .inl v6), (7, .inl v7), (8, .inl v8), (9, .inl (nf_M_runAt v1 v8))], [.inl (mm_w (v7 + 3)), .inr (.inr 408)], M106)
        replace c133 := Int.not_le.mp c133
        replace h := h.2 c133
        refine mm_s1 rfl ?_
        refine nn_getr rfl (nn_c407 NN).1 (lf_13_0 L N (nn_c407 NN)) ?_
        refine mm_s1 rfl ?_
        refine mm_s1 rfl ?_
        refine mm_s1 rfl ?_
        show mm_Go (mm_run 3) mc_M_mergesTable _ (144, [(0, .inr (.inr 407)), (1, .inl v1), (2, .inl v2), (3, .inl v3), (4, .inl v4), (5, .inl v5), (6, .inl v6), (7, .inl v7), (8, .inl v8), (9, .inl (nf_M_runAt v1 v8))], [.inl (mm_w ((nf_M_runAt v1 v8) + 3)), .inr (.inr 408), .inl (mm_w (v7 + 3)), .inr (.inr 408)], M106)
        obtain ⟨b144, h⟩ := h
        refine mm_s1 rfl ⟨nn_bd (na_13_0 NN (nn_c407 NN)) b144, ?_⟩
        show mm_Go (mm_run 3) mc_M_mergesTable _ (145, [(0, .inr (.inr 407)), (1, .inl v1), (2, .inl v2), (3, .inl v3), (4, .inl v4), (5, .inl v5), (6, .inl v6), (7, .inl v7), (8, .inl v8), (9, .inl (nf_M_runAt v1 v8))], [.inl (nn_ri M106 408 (mm_w ((nf_M_runAt v1 v8) + 3))), .inl (mm_w (v7 + 3)), .inr (.inr 408)], M106)
        refine mm_s1 rfl ?_
        show mm_Go (mm_run 3) mc_M_mergesTable _ (157, [(0, .inr (.inr 407)), (1, .inl v1), (2, .inl v2), (3, .inl v3), (4, .inl v4), (5, .inl v5), (6, .inl v6), (7, .inl v7), (8, .inl v8), (9, .inl (nf_M_runAt v1 v8))], [.inl (nn_ri M106 408 (mm_w ((nf_M_runAt v1 v8) + 3))), .inl (mm_w (v7 + 3)), .inr (.inr 408)], M106)
        obtain ⟨b157, h⟩ := h
        refine mm_s1 rfl ⟨nn_bd (na_13_0 NN (nn_c407 NN)) b157, ?_⟩
        show mm_Go (mm_run 3) mc_M_mergesTable _ (158, [(0, .inr (.inr 407)), (1, .inl v1), (2, .inl v2), (3, .inl v3), (4, .inl v4), (5, .inl v5), (6, .inl v6), (7, .inl v7), (8, .inl v8), (9, .inl (nf_M_runAt v1 v8))], [], (nn_ui M106 408 (mm_w (v7 + 3)) (nn_ri M106 408 (mm_w ((nf_M_runAt v1 v8) + 3)))))
        have L : nn_L (nn_ui M106 408 (mm_w (v7 + 3)) (nn_ri M106 408 (mm_w ((nf_M_runAt v1 v8) + 3)))) := nn_L_ua L (congrArg Prod.fst (na_13_0 NN (nn_c407 NN))) (by decide)
        have N : (nn_ui M106 408 (mm_w (v7 + 3)) (nn_ri M106 408 (mm_w ((nf_M_runAt v1 v8) + 3)))).1 = n := N
        generalize e_M157 : (nn_ui M106 408 (mm_w (v7 + 3)) (nn_ri M106 408 (mm_w ((nf_M_runAt v1 v8) + 3)))) = M157 at L N ⊢
        replace h := h _ e_M157.symm
        show mm_Go (mm_run 3) mc_M_mergesTable _ (158, [(0, .inr (.inr 407)), (1, .inl v1), (2, .inl v2), (3, .inl v3), (4, .inl v4), (5, .inl v5), (6, .inl v6), (7, .inl v7), (8, .inl v8), (9, .inl (nf_M_runAt v1 v8))], [], M157)
        refine mm_s1 rfl ?_
        refine mm_s1 rfl ?_
        refine mm_s1 rfl ?_
        refine mm_s1 rfl ?_
        show mm_Go (mm_run 3) mc_M_mergesTable _ (164, [(0, .inr (.inr 407)), (1, .inl v1), (2, .inl v2), (3, .inl v3), (4, .inl v4), (5, .inl v5), (6, .inl v6), (7, .inl v7), (8, .inl v8), (9, .inl (nf_M_runAt v1 v8)), (10, .inl (mm_w (v7 + 4)))], [], M157)
        exact nn_go_ext (nn_xc rfl (nn_xc rfl (nn_xc rfl (nn_xc rfl (nn_xc rfl (nn_xc rfl (nn_xc rfl (nn_xc rfl (nn_xc rfl (nn_xc rfl (nn_xc rfl nn_xn))))))))))) (h n L N)
set_option maxRecDepth 20000 in
theorem ng_M_mergesTable_279 (v1 : Int) (v2 : Int) (v3 : Int) (v5 : Int) (v6 : Int) (v7 : Int) (v8 : Int) (v9 : Int) (M : mm_M) (R : mm_M → Prop) (h : (((mm_w ((mm_w (v7 + 4)) + 32)) ≤ v9 → nk_M_mergesTable_379 v1 v2 v8 (mm_w ((mm_w (v2 + v3)) - 1)) M R) ∧ (v9 < (mm_w ((mm_w (v7 + 4)) + 32)) → (((v5 ≠ 0) → ((0 : Int) ≤ v9 ∧ v9 < (32844 : Int))) ∧ ((v5 ≠ 0) ∧ (0 < (nn_ri M 408 v9)) → ((0 : Int) ≤ (mm_w (v9 + 32)) ∧ (mm_w (v9 + 32)) < (32844 : Int))) ∧ ((v5 ≠ 0) ∧ (0 < (nn_ri M 408 v9)) ∧ ((nn_ri M 408 (mm_w (v9 + 32))) = (-1)) ∧ (v6 ≠ (-1)) → ((0 : Int) ≤ v9 ∧ v9 < (32844 : Int))) ∧ ((v5 = 0 ∨ ((nn_ri M 408 v9) ≤ 0 ∨ ((nn_ri M 408 (mm_w (v9 + 32))) ≠ (-1) ∨ (v6 ≠ (-1) ∧ (v6 < (nn_ri M 408 v9)))))) → nk_M_mergesTable_346 v1 v2 v3 v5 v6 v7 v8 v9 M R) ∧ ((v5 ≠ 0 ∧ (0 < (nn_ri M 408 v9) ∧ ((nn_ri M 408 (mm_w (v9 + 32))) = (-1) ∧ (v6 = (-1) ∨ ((nn_ri M 408 v9) ≤ v6))))) → nk_M_mergesTable_338 v1 v2 v3 v5 v6 v7 v8 v9 M R))))) : nk_M_mergesTable_279 v1 v2 v3 v5 v6 v7 v8 v9 M R := by
  intro n L N 
  have NN := nn_L_n L N
  show mm_Go (mm_run 3) mc_M_mergesTable _ (279, [(0, .inr (.inr 407)), (1, .inl v1), (2, .inl v2), (3, .inl v3), (5, .inl v5), (6, .inl v6), (7, .inl v7), (8, .inl v8), (9, .inl v9)], [], M)
  refine mm_s1 rfl ?_
  refine mm_s1 rfl ?_
  refine mm_s1 rfl ?_
  refine mm_s1 rfl ?_
  refine mm_s1 rfl ?_
  show mm_Go (mm_run 3) mc_M_mergesTable _ (287, [(0, .inr (.inr 407)), (1, .inl v1), (2, .inl v2), (3, .inl v3), (5, .inl v5), (6, .inl v6), (7, .inl v7), (8, .inl v8), (9, .inl v9)], [.inl 32, .inl (mm_w (v7 + 4)), .inl v9], M)
  refine mm_s1 rfl ?_
  refine mm_s1 rfl ⟨fun c288 => ?_, fun c288 => ?_⟩
  · show mm_Go (mm_run 3) mc_M_mergesTable _ (372, [(0, .inr (.inr 407)), (1, .inl v1), (2, .inl v2), (3, .inl v3), (5, .inl v5), (6, .inl v6), (7, .inl v7), (8, .inl v8), (9, .inl v9)], [], M)
    replace h := h.1 c288
    refine mm_s1 rfl ?_
    refine mm_s1 rfl ?_
    refine mm_s1 rfl ?_
    refine mm_s1 rfl ?_
    refine mm_s1 rfl ?_
    show mm_Go (mm_run 3) mc_M_mergesTable _ (377, [(0, .inr (.inr 407)), (1, .inl v1), (2, .inl v2), (3, .inl v3), (5, .inl v5), (6, .inl v6), (7, .inl v7), (8, .inl v8), (9, .inl v9)], [.inl (mm_w ((mm_w (v2 + v3)) - 1))], M)
    refine mm_s1 rfl ?_
    show mm_Go (mm_run 3) mc_M_mergesTable _ (379, [(0, .inr (.inr 407)), (1, .inl v1), (2, .inl v2), (3, .inl v3), (5, .inl v5), (6, .inl v6), (7, .inl v7), (8, .inl v8), (9, .inl (mm_w ((mm_w (v2 + v3)) - 1)))], [], M)
    exact nn_go_ext (nn_xc rfl (nn_xc rfl (nn_xc rfl (nn_xc rfl (nn_xc rfl nn_xn))))) (h n L N)
  · show mm_Go (mm_run 3) mc_M_mergesTable _ (291, [(0, .inr (.inr 407)), (1, .inl v1), (2, .inl v2), (3, .inl v3), (5, .inl v5), (6, .inl v6), (7, .inl v7), (8, .inl v8), (9, .inl v9)], [], M)
    replace c288 := Int.not_le.mp c288
    replace h := h.2 c288
    refine mm_s1 rfl ?_
    refine mm_s1 rfl ⟨fun c293 => ?_, fun c293 => ?_⟩
    · show mm_Go (mm_run 3) mc_M_mergesTable _ (346, [(0, .inr (.inr 407)), (1, .inl v1), (2, .inl v2), (3, .inl v3), (5, .inl v5), (6, .inl v6), (7, .inl v7), (8, .inl v8), (9, .inl v9)], [], M)
      replace h := h.2.2.2.1 (Or.inl c293)
      exact nn_go_ext (nn_xc rfl (nn_xc rfl (nn_xc rfl (nn_xc rfl (nn_xc rfl (nn_xc rfl (nn_xc rfl (nn_xc rfl (nn_xc rfl nn_xn))))))))) (h n L N)
    · show mm_Go (mm_run 3) mc_M_mergesTable _ (296, [(0, .inr (.inr 407)), (1, .inl v1), (2, .inl v2), (3, .inl v3), (5, .inl v5), (6, .inl v6), (7, .inl v7), (8, .inl v8), (9, .inl v9)], [], M)
      refine mm_s1 rfl ?_
      refine nn_getr rfl (nn_c407 NN).1 (lf_13_0 L N (nn_c407 NN)) ?_
      refine mm_s1 rfl ?_
      have b302 := h.1 c293
      refine mm_s1 rfl ⟨nn_bd (na_13_0 NN (nn_c407 NN)) b302, ?_⟩
      show mm_Go (mm_run 3) mc_M_mergesTable _ (303, [(0, .inr (.inr 407)), (1, .inl v1), (2, .inl v2), (3, .inl v3), (5, .inl v5), (6, .inl v6), (7, .inl v7), (8, .inl v8), (9, .inl v9)], [.inl (nn_ri M 408 v9)], M)
      refine mm_s1 rfl ⟨fun c303 => ?_, fun c303 => ?_⟩
      · show mm_Go (mm_run 3) mc_M_mergesTable _ (346, [(0, .inr (.inr 407)), (1, .inl v1), (2, .inl v2), (3, .inl v3), (5, .inl v5), (6, .inl v6), (7, .inl v7), (8, .inl v8), (9, .inl v9)], [], M)
        replace h := h.2.2.2.1 (Or.inr (Or.inl c303))
        exact nn_go_ext (nn_xc rfl (nn_xc rfl (nn_xc rfl (nn_xc rfl (nn_xc rfl (nn_xc rfl (nn_xc rfl (nn_xc rfl (nn_xc rfl nn_xn))))))))) (h n L N)
      · show mm_Go (mm_run 3) mc_M_mergesTable _ (306, [(0, .inr (.inr 407)), (1, .inl v1), (2, .inl v2), (3, .inl v3), (5, .inl v5), (6, .inl v6), (7, .inl v7), (8, .inl v8), (9, .inl v9)], [], M)
        replace c303 := Int.not_le.mp c303
        refine mm_s1 rfl ?_
        refine nn_getr rfl (nn_c407 NN).1 (lf_13_0 L N (nn_c407 NN)) ?_
        refine mm_s1 rfl ?_
        refine mm_s1 rfl ?_
        refine mm_s1 rfl ?_
        show mm_Go (mm_run 3) mc_M_mergesTable _ (315, [(0, .inr (.inr 407)), (1, .inl v1), (2, .inl v2), (3, .inl v3), (5, .inl v5), (6, .inl v6), (7, .inl v7), (8, .inl v8), (9, .inl v9)], [.inl (mm_w (v9 + 32)), .inr (.inr 408)], M)
        have b315 := h.2.1 ⟨c293, c303⟩
        refine mm_s1 rfl ⟨nn_bd (na_13_0 NN (nn_c407 NN)) b315, ?_⟩
        show mm_Go (mm_run 3) mc_M_mergesTable _ (316, [(0, .inr (.inr 407)), (1, .inl v1), (2, .inl v2), (3, .inl v3), (5, .inl v5), (6, .inl v6), (7, .inl v7), (8, .inl v8), (9, .inl v9)], [.inl (nn_ri M 408 (mm_w (v9 + 32)))], M)
        refine mm_s1 rfl ?_
        refine mm_s1 rfl ⟨fun c317 => ?_, fun c317 => ?_⟩
        · show mm_Go (mm_run 3) mc_M_mergesTable _ (346, [(0, .inr (.inr 407)), (1, .inl v1), (2, .inl v2), (3, .inl v3), (5, .inl v5), (6, .inl v6), (7, .inl v7), (8, .inl v8), (9, .inl v9)], [], M)
          replace h := h.2.2.2.1 (Or.inr (Or.inr (Or.inl c317)))
          exact nn_go_ext (nn_xc rfl (nn_xc rfl (nn_xc rfl (nn_xc rfl (nn_xc rfl (nn_xc rfl (nn_xc rfl (nn_xc rfl (nn_xc rfl nn_xn))))))))) (h n L N)
        · show mm_Go (mm_run 3) mc_M_mergesTable _ (320, [(0, .inr (.inr 407)), (1, .inl v1), (2, .inl v2), (3, .inl v3), (5, .inl v5), (6, .inl v6), (7, .inl v7), (8, .inl v8), (9, .inl v9)], [], M)
          replace c317 := Decidable.not_not.mp c317
          refine mm_s1 rfl ?_
          refine mm_s1 rfl ?_
          refine mm_s1 rfl ⟨fun c323 => ?_, fun c323 => ?_⟩
          · show mm_Go (mm_run 3) mc_M_mergesTable _ (338, [(0, .inr (.inr 407)), (1, .inl v1), (2, .inl v2), (3, .inl v3), (5, .inl v5), (6, .inl v6), (7, .inl v7), (8, .inl v8), (9, .inl v9)], [], M)
            replace h := h.2.2.2.2 ⟨c293, ⟨c303, ⟨c317, (Or.inl c323)⟩⟩⟩
            exact nn_go_ext (nn_xc rfl (nn_xc rfl (nn_xc rfl (nn_xc rfl (nn_xc rfl (nn_xc rfl (nn_xc rfl (nn_xc rfl (nn_xc rfl nn_xn))))))))) (h n L N)
          · show mm_Go (mm_run 3) mc_M_mergesTable _ (326, [(0, .inr (.inr 407)), (1, .inl v1), (2, .inl v2), (3, .inl v3), (5, .inl v5), (6, .inl v6), (7, .inl v7), (8, .inl v8), (9, .inl v9)], [], M)
            refine mm_s1 rfl ?_
            refine nn_getr rfl (nn_c407 NN).1 (lf_13_0 L N (nn_c407 NN)) ?_
            refine mm_s1 rfl ?_
            have b332 := h.2.2.1 ⟨c293, c303, c317, c323⟩
            refine mm_s1 rfl ⟨nn_bd (na_13_0 NN (nn_c407 NN)) b332, ?_⟩
            show mm_Go (mm_run 3) mc_M_mergesTable _ (333, [(0, .inr (.inr 407)), (1, .inl v1), (2, .inl v2), (3, .inl v3), (5, .inl v5), (6, .inl v6), (7, .inl v7), (8, .inl v8), (9, .inl v9)], [.inl (nn_ri M 408 v9)], M)
            refine mm_s1 rfl ?_
            refine mm_s1 rfl ⟨fun c335 => ?_, fun c335 => ?_⟩
            · show mm_Go (mm_run 3) mc_M_mergesTable _ (346, [(0, .inr (.inr 407)), (1, .inl v1), (2, .inl v2), (3, .inl v3), (5, .inl v5), (6, .inl v6), (7, .inl v7), (8, .inl v8), (9, .inl v9)], [], M)
              replace h := h.2.2.2.1 (Or.inr (Or.inr (Or.inr ⟨c323, c335⟩)))
              exact nn_go_ext (nn_xc rfl (nn_xc rfl (nn_xc rfl (nn_xc rfl (nn_xc rfl (nn_xc rfl (nn_xc rfl (nn_xc rfl (nn_xc rfl nn_xn))))))))) (h n L N)
            · show mm_Go (mm_run 3) mc_M_mergesTable _ (338, [(0, .inr (.inr 407)), (1, .inl v1), (2, .inl v2), (3, .inl v3), (5, .inl v5), (6, .inl v6), (7, .inl v7), (8, .inl v8), (9, .inl v9)], [], M)
              replace c335 := Int.not_lt.mp c335
              replace h := h.2.2.2.2 ⟨c293, ⟨c303, ⟨c317, (Or.inr c335)⟩⟩⟩
              exact nn_go_ext (nn_xc rfl (nn_xc rfl (nn_xc rfl (nn_xc rfl (nn_xc rfl (nn_xc rfl (nn_xc rfl (nn_xc rfl (nn_xc rfl nn_xn))))))))) (h n L N)
set_option maxRecDepth 20000 in
theorem ng_M_mergesTable_164 (v1 : Int) (v2 : Int) (v3 : Int) (v4 : Int) (v5 : Int) (v6 : Int) (v7 : Int) (v8 : Int) (v9 : Int) (v10 : Int) (M : mm_M) (R : mm_M → Prop) (h : (((mm_w ((mm_w (v7 + 4)) + 32)) ≤ v10 → nk_M_mergesTable_40 v1 v2 v3 v4 v5 v6 v7 (mm_w (v8 + 1)) M R) ∧ (v10 < (mm_w ((mm_w (v7 + 4)) + 32)) → (((0 : Int) ≤ v10 ∧ v10 < (32844 : Int)) ∧ (((nn_ri M 408 v10) ≤ 0 → (((0 : Int) ≤ (mm_w ((mm_w (v10 - v7)) + v9)) ∧ (mm_w ((mm_w (v10 - v7)) + v9)) < (32844 : Int)) ∧ (((0 : Int) ≤ v10 ∧ v10 < (32844 : Int)) ∧ (∀ M208 : mm_M, M208 = nn_ui M 408 v10 (nn_ri M 408 (mm_w ((mm_w (v10 - v7)) + v9))) → (((0 : Int) ≤ (mm_w ((mm_w ((mm_w (v10 + 32)) - v7)) + v9)) ∧ (mm_w ((mm_w ((mm_w (v10 + 32)) - v7)) + v9)) < (32844 : Int)) ∧ (((0 : Int) ≤ (mm_w (v10 + 32)) ∧ (mm_w (v10 + 32)) < (32844 : Int)) ∧ (∀ M234 : mm_M, M234 = nn_ui M208 408 (mm_w (v10 + 32)) (nn_ri M208 408 (mm_w ((mm_w ((mm_w (v10 + 32)) - v7)) + v9))) → nk_M_mergesTable_164 v1 v2 v3 v4 v5 v6 v7 v8 v9 (mm_w (v10 + 1)) M234 R))))))) ∧ (0 < (nn_ri M 408 v10) → nk_M_mergesTable_164 v1 v2 v3 v4 v5 v6 v7 v8 v9 (mm_w (v10 + 1)) M R)))))) : nk_M_mergesTable_164 v1 v2 v3 v4 v5 v6 v7 v8 v9 v10 M R := by
  intro n L N 
  have NN := nn_L_n L N
  show mm_Go (mm_run 3) mc_M_mergesTable _ (164, [(0, .inr (.inr 407)), (1, .inl v1), (2, .inl v2), (3, .inl v3), (4, .inl v4), (5, .inl v5), (6, .inl v6), (7, .inl v7), (8, .inl v8), (9, .inl v9), (10, .inl v10)], [], M)
  refine mm_s1 rfl ?_
  refine mm_s1 rfl ?_
  refine mm_s1 rfl ?_
  refine mm_s1 rfl ?_
  refine mm_s1 rfl ?_
  show mm_Go (mm_run 3) mc_M_mergesTable _ (172, [(0, .inr (.inr 407)), (1, .inl v1), (2, .inl v2), (3, .inl v3), (4, .inl v4), (5, .inl v5), (6, .inl v6), (7, .inl v7), (8, .inl v8), (9, .inl v9), (10, .inl v10)], [.inl 32, .inl (mm_w (v7 + 4)), .inl v10], M)
  refine mm_s1 rfl ?_
  refine mm_s1 rfl ⟨fun c173 => ?_, fun c173 => ?_⟩
  · show mm_Go (mm_run 3) mc_M_mergesTable _ (241, [(0, .inr (.inr 407)), (1, .inl v1), (2, .inl v2), (3, .inl v3), (4, .inl v4), (5, .inl v5), (6, .inl v6), (7, .inl v7), (8, .inl v8), (9, .inl v9), (10, .inl v10)], [], M)
    replace h := h.1 c173
    refine mm_s1 rfl ?_
    show mm_Go (mm_run 3) mc_M_mergesTable _ (244, [(0, .inr (.inr 407)), (1, .inl v1), (2, .inl v2), (3, .inl v3), (4, .inl v4), (5, .inl v5), (6, .inl v6), (7, .inl v7), (8, .inl (mm_w (v8 + 1))), (9, .inl v9), (10, .inl v10)], [], M)
    refine mm_s1 rfl ?_
    show mm_Go (mm_run 3) mc_M_mergesTable _ (40, [(0, .inr (.inr 407)), (1, .inl v1), (2, .inl v2), (3, .inl v3), (4, .inl v4), (5, .inl v5), (6, .inl v6), (7, .inl v7), (8, .inl (mm_w (v8 + 1))), (9, .inl v9), (10, .inl v10)], [], M)
    exact nn_go_ext (nn_xc rfl (nn_xc rfl (nn_xc rfl (nn_xc rfl (nn_xc rfl (nn_xc rfl (nn_xc rfl (nn_xc rfl (nn_xc rfl nn_xn))))))))) (h n L N)
  · show mm_Go (mm_run 3) mc_M_mergesTable _ (176, [(0, .inr (.inr 407)), (1, .inl v1), (2, .inl v2), (3, .inl v3), (4, .inl v4), (5, .inl v5), (6, .inl v6), (7, .inl v7), (8, .inl v8), (9, .inl v9), (10, .inl v10)], [], M)
    replace c173 := Int.not_le.mp c173
    replace h := h.2 c173
    refine mm_s1 rfl ?_
    refine nn_getr rfl (nn_c407 NN).1 (lf_13_0 L N (nn_c407 NN)) ?_
    refine mm_s1 rfl ?_
    obtain ⟨b182, h⟩ := h
    refine mm_s1 rfl ⟨nn_bd (na_13_0 NN (nn_c407 NN)) b182, ?_⟩
    show mm_Go (mm_run 3) mc_M_mergesTable _ (183, [(0, .inr (.inr 407)), (1, .inl v1), (2, .inl v2), (3, .inl v3), (4, .inl v4), (5, .inl v5), (6, .inl v6), (7, .inl v7), (8, .inl v8), (9, .inl v9), (10, .inl v10)], [.inl (nn_ri M 408 v10)], M)
    refine mm_s1 rfl ⟨fun c183 => ?_, fun c183 => ?_⟩
    · show mm_Go (mm_run 3) mc_M_mergesTable _ (189, [(0, .inr (.inr 407)), (1, .inl v1), (2, .inl v2), (3, .inl v3), (4, .inl v4), (5, .inl v5), (6, .inl v6), (7, .inl v7), (8, .inl v8), (9, .inl v9), (10, .inl v10)], [], M)
      replace h := h.1 c183
      refine mm_s1 rfl ?_
      refine nn_getr rfl (nn_c407 NN).1 (lf_13_0 L N (nn_c407 NN)) ?_
      refine mm_s1 rfl ?_
      refine mm_s1 rfl ?_
      refine nn_getr rfl (nn_c407 NN).1 (lf_13_0 L N (nn_c407 NN)) ?_
      show mm_Go (mm_run 3) mc_M_mergesTable _ (199, [(0, .inr (.inr 407)), (1, .inl v1), (2, .inl v2), (3, .inl v3), (4, .inl v4), (5, .inl v5), (6, .inl v6), (7, .inl v7), (8, .inl v8), (9, .inl v9), (10, .inl v10)], [.inr (.inr 408), .inl v10, .inr (.inr 408)], M)
      refine mm_s1 rfl ?_
      refine mm_s1 rfl ?_
      refine mm_s1 rfl ?_
      refine mm_s1 rfl ?_
      refine mm_s1 rfl ?_
      show mm_Go (mm_run 3) mc_M_mergesTable _ (207, [(0, .inr (.inr 407)), (1, .inl v1), (2, .inl v2), (3, .inl v3), (4, .inl v4), (5, .inl v5), (6, .inl v6), (7, .inl v7), (8, .inl v8), (9, .inl v9), (10, .inl v10)], [.inl (mm_w ((mm_w (v10 - v7)) + v9)), .inr (.inr 408), .inl v10, .inr (.inr 408)], M)
      obtain ⟨b207, h⟩ := h
      refine mm_s1 rfl ⟨nn_bd (na_13_0 NN (nn_c407 NN)) b207, ?_⟩
      show mm_Go (mm_run 3) mc_M_mergesTable _ (208, [(0, .inr (.inr 407)), (1, .inl v1), (2, .inl v2), (3, .inl v3), (4, .inl v4), (5, .inl v5), (6, .inl v6), (7, .inl v7), (8, .inl v8), (9, .inl v9), (10, .inl v10)], [.inl (nn_ri M 408 (mm_w ((mm_w (v10 - v7)) + v9))), .inl v10, .inr (.inr 408)], M)
      obtain ⟨b208, h⟩ := h
      refine mm_s1 rfl ⟨nn_bd (na_13_0 NN (nn_c407 NN)) b208, ?_⟩
      show mm_Go (mm_run 3) mc_M_mergesTable _ (209, [(0, .inr (.inr 407)), (1, .inl v1), (2, .inl v2), (3, .inl v3), (4, .inl v4), (5, .inl v5), (6, .inl v6), (7, .inl v7), (8, .inl v8), (9, .inl v9), (10, .inl v10)], [], (nn_ui M 408 v10 (nn_ri M 408 (mm_w ((mm_w (v10 - v7)) + v9)))))
      have L : nn_L (nn_ui M 408 v10 (nn_ri M 408 (mm_w ((mm_w (v10 - v7)) + v9)))) := nn_L_ua L (congrArg Prod.fst (na_13_0 NN (nn_c407 NN))) (by decide)
      have N : (nn_ui M 408 v10 (nn_ri M 408 (mm_w ((mm_w (v10 - v7)) + v9)))).1 = n := N
      generalize e_M208 : (nn_ui M 408 v10 (nn_ri M 408 (mm_w ((mm_w (v10 - v7)) + v9)))) = M208 at L N ⊢
      replace h := h _ e_M208.symm
      show mm_Go (mm_run 3) mc_M_mergesTable _ (209, [(0, .inr (.inr 407)), (1, .inl v1), (2, .inl v2), (3, .inl v3), (4, .inl v4), (5, .inl v5), (6, .inl v6), (7, .inl v7), (8, .inl v8), (9, .inl v9), (10, .inl v10)], [], M208)
      refine mm_s1 rfl ?_
      refine nn_getr rfl (nn_c407 NN).1 (lf_13_0 L N (nn_c407 NN)) ?_
      refine mm_s1 rfl ?_
      refine mm_s1 rfl ?_
      refine mm_s1 rfl ?_
      show mm_Go (mm_run 3) mc_M_mergesTable _ (218, [(0, .inr (.inr 407)), (1, .inl v1), (2, .inl v2), (3, .inl v3), (4, .inl v4), (5, .inl v5), (6, .inl v6), (7, .inl v7), (8, .inl v8), (9, .inl v9), (10, .inl v10)], [.inl (mm_w (v10 + 32)), .inr (.inr 408)], M208)
      refine mm_s1 rfl ?_
      refine nn_getr rfl (nn_c407 NN).1 (lf_13_0 L N (nn_c407 NN)) ?_
      refine mm_s1 rfl ?_
      refine mm_s1 rfl ?_
      refine mm_s1 rfl ?_
      show mm_Go (mm_run 3) mc_M_mergesTable _ (227, [(0, .inr (.inr 407)), (1, .inl v1), (2, .inl v2), (3, .inl v3), (4, .inl v4), (5, .inl v5), (6, .inl v6), (7, .inl v7), (8, .inl v8), (9, .inl v9), (10, .inl v10)], [.inl (mm_w (v10 + 32)), .inr (.inr 408), .inl (mm_w (v10 + 32)), .inr (.inr 408)], M208)
      refine mm_s1 rfl ?_
      refine mm_s1 rfl ?_
      refine mm_s1 rfl ?_
      refine mm_s1 rfl ?_
      obtain ⟨b233, h⟩ := h
      refine mm_s1 rfl ⟨nn_bd (na_13_0 NN (nn_c407 NN)) b233, ?_⟩
      show mm_Go (mm_run 3) mc_M_mergesTable _ (234, [(0, .inr (.inr 407)), (1, .inl v1), (2, .inl v2), (3, .inl v3), (4, .inl v4), (5, .inl v5), (6, .inl v6), (7, .inl v7), (8, .inl v8), (9, .inl v9), (10, .inl v10)], [.inl (nn_ri M208 408 (mm_w ((mm_w ((mm_w (v10 + 32)) - v7)) + v9))), .inl (mm_w (v10 + 32)), .inr (.inr 408)], M208)
      obtain ⟨b234, h⟩ := h
      refine mm_s1 rfl ⟨nn_bd (na_13_0 NN (nn_c407 NN)) b234, ?_⟩
      show mm_Go (mm_run 3) mc_M_mergesTable _ (235, [(0, .inr (.inr 407)), (1, .inl v1), (2, .inl v2), (3, .inl v3), (4, .inl v4), (5, .inl v5), (6, .inl v6), (7, .inl v7), (8, .inl v8), (9, .inl v9), (10, .inl v10)], [], (nn_ui M208 408 (mm_w (v10 + 32)) (nn_ri M208 408 (mm_w ((mm_w ((mm_w (v10 + 32)) - v7)) + v9)))))
      have L : nn_L (nn_ui M208 408 (mm_w (v10 + 32)) (nn_ri M208 408 (mm_w ((mm_w ((mm_w (v10 + 32)) - v7)) + v9)))) := nn_L_ua L (congrArg Prod.fst (na_13_0 NN (nn_c407 NN))) (by decide)
      have N : (nn_ui M208 408 (mm_w (v10 + 32)) (nn_ri M208 408 (mm_w ((mm_w ((mm_w (v10 + 32)) - v7)) + v9)))).1 = n := N
      generalize e_M234 : (nn_ui M208 408 (mm_w (v10 + 32)) (nn_ri M208 408 (mm_w ((mm_w ((mm_w (v10 + 32)) - v7)) + v9)))) = M234 at L N ⊢
      replace h := h _ e_M234.symm
      show mm_Go (mm_run 3) mc_M_mergesTable _ (235, [(0, .inr (.inr 407)), (1, .inl v1), (2, .inl v2), (3, .inl v3), (4, .inl v4), (5, .inl v5), (6, .inl v6), (7, .inl v7), (8, .inl v8), (9, .inl v9), (10, .inl v10)], [], M234)
      refine mm_s1 rfl ?_
      show mm_Go (mm_run 3) mc_M_mergesTable _ (238, [(0, .inr (.inr 407)), (1, .inl v1), (2, .inl v2), (3, .inl v3), (4, .inl v4), (5, .inl v5), (6, .inl v6), (7, .inl v7), (8, .inl v8), (9, .inl v9), (10, .inl (mm_w (v10 + 1)))], [], M234)
      refine mm_s1 rfl ?_
      show mm_Go (mm_run 3) mc_M_mergesTable _ (164, [(0, .inr (.inr 407)), (1, .inl v1), (2, .inl v2), (3, .inl v3), (4, .inl v4), (5, .inl v5), (6, .inl v6), (7, .inl v7), (8, .inl v8), (9, .inl v9), (10, .inl (mm_w (v10 + 1)))], [], M234)
      exact nn_go_ext (nn_xc rfl (nn_xc rfl (nn_xc rfl (nn_xc rfl (nn_xc rfl (nn_xc rfl (nn_xc rfl (nn_xc rfl (nn_xc rfl (nn_xc rfl (nn_xc rfl nn_xn))))))))))) (h n L N)
    · show mm_Go (mm_run 3) mc_M_mergesTable _ (186, [(0, .inr (.inr 407)), (1, .inl v1), (2, .inl v2), (3, .inl v3), (4, .inl v4), (5, .inl v5), (6, .inl v6), (7, .inl v7), (8, .inl v8), (9, .inl v9), (10, .inl v10)], [], M)
      replace c183 := Int.not_le.mp c183
      replace h := h.2 c183
      refine mm_s1 rfl ?_
      show mm_Go (mm_run 3) mc_M_mergesTable _ (235, [(0, .inr (.inr 407)), (1, .inl v1), (2, .inl v2), (3, .inl v3), (4, .inl v4), (5, .inl v5), (6, .inl v6), (7, .inl v7), (8, .inl v8), (9, .inl v9), (10, .inl v10)], [], M)
      refine mm_s1 rfl ?_
      show mm_Go (mm_run 3) mc_M_mergesTable _ (238, [(0, .inr (.inr 407)), (1, .inl v1), (2, .inl v2), (3, .inl v3), (4, .inl v4), (5, .inl v5), (6, .inl v6), (7, .inl v7), (8, .inl v8), (9, .inl v9), (10, .inl (mm_w (v10 + 1)))], [], M)
      refine mm_s1 rfl ?_
      show mm_Go (mm_run 3) mc_M_mergesTable _ (164, [(0, .inr (.inr 407)), (1, .inl v1), (2, .inl v2), (3, .inl v3), (4, .inl v4), (5, .inl v5), (6, .inl v6), (7, .inl v7), (8, .inl v8), (9, .inl v9), (10, .inl (mm_w (v10 + 1)))], [], M)
      exact nn_go_ext (nn_xc rfl (nn_xc rfl (nn_xc rfl (nn_xc rfl (nn_xc rfl (nn_xc rfl (nn_xc rfl (nn_xc rfl (nn_xc rfl (nn_xc rfl (nn_xc rfl nn_xn))))))))))) (h n L N)
set_option maxRecDepth 20000 in
theorem ng_M_mergesTable_379 (v1 : Int) (v2 : Int) (v8 : Int) (v9 : Int) (M : mm_M) (R : mm_M → Prop) (h : ((v9 ≤ v2 → ((v8 ≠ 0 → nk_M_mergesTable_409 v1 M R) ∧ (v8 = 0 → (nr_M_tableGoes v1 v2 M (fun M406 => nk_M_mergesTable_409 v1 M406 R))))) ∧ (v2 < v9 → (nr_M_tableGoes v1 v9 M (fun M389 => nk_M_mergesTable_379 v1 v2 v8 (mm_w (v9 + (-1))) M389 R))))) : nk_M_mergesTable_379 v1 v2 v8 v9 M R := by
  intro n L N 
  have NN := nn_L_n L N
  show mm_Go (mm_run 3) mc_M_mergesTable _ (379, [(0, .inr (.inr 407)), (1, .inl v1), (2, .inl v2), (8, .inl v8), (9, .inl v9)], [], M)
  refine mm_s1 rfl ?_
  refine mm_s1 rfl ?_
  refine mm_s1 rfl ⟨fun c382 => ?_, fun c382 => ?_⟩
  · show mm_Go (mm_run 3) mc_M_mergesTable _ (398, [(0, .inr (.inr 407)), (1, .inl v1), (2, .inl v2), (8, .inl v8), (9, .inl v9)], [], M)
    replace h := h.1 c382
    refine mm_s1 rfl ?_
    refine mm_s1 rfl ⟨fun c400 => ?_, fun c400 => ?_⟩
    · show mm_Go (mm_run 3) mc_M_mergesTable _ (409, [(0, .inr (.inr 407)), (1, .inl v1), (2, .inl v2), (8, .inl v8), (9, .inl v9)], [], M)
      replace h := h.1 c400
      exact nn_go_ext (nn_xc rfl (nn_xc rfl nn_xn)) (h n L N)
    · show mm_Go (mm_run 3) mc_M_mergesTable _ (403, [(0, .inr (.inr 407)), (1, .inl v1), (2, .inl v2), (8, .inl v8), (9, .inl v9)], [], M)
      replace c400 := Decidable.not_not.mp c400
      replace h := h.2 c400
      refine mm_s1 rfl ?_
      refine mm_s1 rfl ?_
      refine mm_s1 rfl ?_
      refine mm_s1 rfl ⟨(nn_c407 NN).1, ?_⟩
      refine nn_call (D := 2) (by decide) (h n L N) ?_
      intro v M406 q; clear L N h
      obtain ⟨rfl, L, N, h⟩ := q
      show mm_Go (mm_run 3) mc_M_mergesTable _ (409, [(0, .inr (.inr 407)), (1, .inl v1), (2, .inl v2), (8, .inl v8), (9, .inl v9)], [], M406)
      exact nn_go_ext (nn_xc rfl (nn_xc rfl nn_xn)) (h n L N)
  · show mm_Go (mm_run 3) mc_M_mergesTable _ (385, [(0, .inr (.inr 407)), (1, .inl v1), (2, .inl v2), (8, .inl v8), (9, .inl v9)], [], M)
    replace c382 := Int.not_le.mp c382
    replace h := h.2 c382
    refine mm_s1 rfl ?_
    refine mm_s1 rfl ?_
    refine mm_s1 rfl ?_
    refine mm_s1 rfl ⟨(nn_c407 NN).1, ?_⟩
    refine nn_call (D := 2) (by decide) (h n L N) ?_
    intro v M389 q; clear L N h
    obtain ⟨rfl, L, N, h⟩ := q
    show mm_Go (mm_run 3) mc_M_mergesTable _ (392, [(0, .inr (.inr 407)), (1, .inl v1), (2, .inl v2), (8, .inl v8), (9, .inl v9)], [], M389)
    refine mm_s1 rfl ?_
    show mm_Go (mm_run 3) mc_M_mergesTable _ (395, [(0, .inr (.inr 407)), (1, .inl v1), (2, .inl v2), (8, .inl v8), (9, .inl (mm_w (v9 + (-1))))], [], M389)
    refine mm_s1 rfl ?_
    show mm_Go (mm_run 3) mc_M_mergesTable _ (379, [(0, .inr (.inr 407)), (1, .inl v1), (2, .inl v2), (8, .inl v8), (9, .inl (mm_w (v9 + (-1))))], [], M389)
    exact nn_go_ext (nn_xc rfl (nn_xc rfl (nn_xc rfl (nn_xc rfl (nn_xc rfl nn_xn))))) (h n L N)
set_option maxRecDepth 20000 in
theorem ng_M_mergesTable_346 (v1 : Int) (v2 : Int) (v3 : Int) (v5 : Int) (v6 : Int) (v7 : Int) (v8 : Int) (v9 : Int) (M : mm_M) (R : mm_M → Prop) (h : (((0 : Int) ≤ v9 ∧ v9 < (32844 : Int)) ∧ (((nn_ri M 408 v9) ≤ 0 → nk_M_mergesTable_279 v1 v2 v3 v5 v6 v7 (mm_w (v8 + 0)) (mm_w (v9 + 1)) M R) ∧ (0 < (nn_ri M 408 v9) → nk_M_mergesTable_279 v1 v2 v3 v5 v6 v7 (mm_w (v8 + 1)) (mm_w (v9 + 1)) M R)))) : nk_M_mergesTable_346 v1 v2 v3 v5 v6 v7 v8 v9 M R := by
  intro n L N 
  have NN := nn_L_n L N
  show mm_Go (mm_run 3) mc_M_mergesTable _ (346, [(0, .inr (.inr 407)), (1, .inl v1), (2, .inl v2), (3, .inl v3), (5, .inl v5), (6, .inl v6), (7, .inl v7), (8, .inl v8), (9, .inl v9)], [], M)
  refine mm_s1 rfl ?_
  refine mm_s1 rfl ?_
  refine nn_getr rfl (nn_c407 NN).1 (lf_13_0 L N (nn_c407 NN)) ?_
  refine mm_s1 rfl ?_
  obtain ⟨b354, h⟩ := h
  refine mm_s1 rfl ⟨nn_bd (na_13_0 NN (nn_c407 NN)) b354, ?_⟩
  show mm_Go (mm_run 3) mc_M_mergesTable _ (355, [(0, .inr (.inr 407)), (1, .inl v1), (2, .inl v2), (3, .inl v3), (5, .inl v5), (6, .inl v6), (7, .inl v7), (8, .inl v8), (9, .inl v9)], [.inl (nn_ri M 408 v9), .inl v8], M)
  refine mm_s1 rfl ⟨fun c355 => ?_, fun c355 => ?_⟩
  · show mm_Go (mm_run 3) mc_M_mergesTable _ (362, [(0, .inr (.inr 407)), (1, .inl v1), (2, .inl v2), (3, .inl v3), (5, .inl v5), (6, .inl v6), (7, .inl v7), (8, .inl v8), (9, .inl v9)], [.inl v8], M)
    replace h := h.1 c355
    refine mm_s1 rfl ?_
    refine mm_s1 rfl ?_
    refine mm_s1 rfl ?_
    show mm_Go (mm_run 3) mc_M_mergesTable _ (366, [(0, .inr (.inr 407)), (1, .inl v1), (2, .inl v2), (3, .inl v3), (5, .inl v5), (6, .inl v6), (7, .inl v7), (8, .inl (mm_w (v8 + 0))), (9, .inl v9)], [], M)
    refine mm_s1 rfl ?_
    show mm_Go (mm_run 3) mc_M_mergesTable _ (369, [(0, .inr (.inr 407)), (1, .inl v1), (2, .inl v2), (3, .inl v3), (5, .inl v5), (6, .inl v6), (7, .inl v7), (8, .inl (mm_w (v8 + 0))), (9, .inl (mm_w (v9 + 1)))], [], M)
    refine mm_s1 rfl ?_
    show mm_Go (mm_run 3) mc_M_mergesTable _ (279, [(0, .inr (.inr 407)), (1, .inl v1), (2, .inl v2), (3, .inl v3), (5, .inl v5), (6, .inl v6), (7, .inl v7), (8, .inl (mm_w (v8 + 0))), (9, .inl (mm_w (v9 + 1)))], [], M)
    exact nn_go_ext (nn_xc rfl (nn_xc rfl (nn_xc rfl (nn_xc rfl (nn_xc rfl (nn_xc rfl (nn_xc rfl (nn_xc rfl (nn_xc rfl nn_xn))))))))) (h n L N)
  · show mm_Go (mm_run 3) mc_M_mergesTable _ (358, [(0, .inr (.inr 407)), (1, .inl v1), (2, .inl v2), (3, .inl v3), (5, .inl v5), (6, .inl v6), (7, .inl v7), (8, .inl v8), (9, .inl v9)], [.inl v8], M)
    replace c355 := Int.not_le.mp c355
    replace h := h.2 c355
    refine mm_s1 rfl ?_
    refine mm_s1 rfl ?_
    show mm_Go (mm_run 3) mc_M_mergesTable _ (363, [(0, .inr (.inr 407)), (1, .inl v1), (2, .inl v2), (3, .inl v3), (5, .inl v5), (6, .inl v6), (7, .inl v7), (8, .inl v8), (9, .inl v9)], [.inl 1, .inl v8], M)
    refine mm_s1 rfl ?_
    refine mm_s1 rfl ?_
    show mm_Go (mm_run 3) mc_M_mergesTable _ (366, [(0, .inr (.inr 407)), (1, .inl v1), (2, .inl v2), (3, .inl v3), (5, .inl v5), (6, .inl v6), (7, .inl v7), (8, .inl (mm_w (v8 + 1))), (9, .inl v9)], [], M)
    refine mm_s1 rfl ?_
    show mm_Go (mm_run 3) mc_M_mergesTable _ (369, [(0, .inr (.inr 407)), (1, .inl v1), (2, .inl v2), (3, .inl v3), (5, .inl v5), (6, .inl v6), (7, .inl v7), (8, .inl (mm_w (v8 + 1))), (9, .inl (mm_w (v9 + 1)))], [], M)
    refine mm_s1 rfl ?_
    show mm_Go (mm_run 3) mc_M_mergesTable _ (279, [(0, .inr (.inr 407)), (1, .inl v1), (2, .inl v2), (3, .inl v3), (5, .inl v5), (6, .inl v6), (7, .inl v7), (8, .inl (mm_w (v8 + 1))), (9, .inl (mm_w (v9 + 1)))], [], M)
    exact nn_go_ext (nn_xc rfl (nn_xc rfl (nn_xc rfl (nn_xc rfl (nn_xc rfl (nn_xc rfl (nn_xc rfl (nn_xc rfl (nn_xc rfl nn_xn))))))))) (h n L N)
set_option maxRecDepth 20000 in
theorem ng_M_mergesTable_338 (v1 : Int) (v2 : Int) (v3 : Int) (v5 : Int) (v6 : Int) (v7 : Int) (v8 : Int) (v9 : Int) (M : mm_M) (R : mm_M → Prop) (h : (((0 : Int) ≤ v9 ∧ v9 < (32844 : Int)) ∧ (∀ M345 : mm_M, M345 = nn_ui M 408 v9 0 → nk_M_mergesTable_346 v1 v2 v3 v5 v6 v7 v8 v9 M345 R))) : nk_M_mergesTable_338 v1 v2 v3 v5 v6 v7 v8 v9 M R := by
  intro n L N 
  have NN := nn_L_n L N
  show mm_Go (mm_run 3) mc_M_mergesTable _ (338, [(0, .inr (.inr 407)), (1, .inl v1), (2, .inl v2), (3, .inl v3), (5, .inl v5), (6, .inl v6), (7, .inl v7), (8, .inl v8), (9, .inl v9)], [], M)
  refine mm_s1 rfl ?_
  refine nn_getr rfl (nn_c407 NN).1 (lf_13_0 L N (nn_c407 NN)) ?_
  refine mm_s1 rfl ?_
  refine mm_s1 rfl ?_
  obtain ⟨b345, h⟩ := h
  refine mm_s1 rfl ⟨nn_bd (na_13_0 NN (nn_c407 NN)) b345, ?_⟩
  show mm_Go (mm_run 3) mc_M_mergesTable _ (346, [(0, .inr (.inr 407)), (1, .inl v1), (2, .inl v2), (3, .inl v3), (5, .inl v5), (6, .inl v6), (7, .inl v7), (8, .inl v8), (9, .inl v9)], [], (nn_ui M 408 v9 0))
  have L : nn_L (nn_ui M 408 v9 0) := nn_L_ua L (congrArg Prod.fst (na_13_0 NN (nn_c407 NN))) (by decide)
  have N : (nn_ui M 408 v9 0).1 = n := N
  generalize e_M345 : (nn_ui M 408 v9 0) = M345 at L N ⊢
  replace h := h _ e_M345.symm
  show mm_Go (mm_run 3) mc_M_mergesTable _ (346, [(0, .inr (.inr 407)), (1, .inl v1), (2, .inl v2), (3, .inl v3), (5, .inl v5), (6, .inl v6), (7, .inl v7), (8, .inl v8), (9, .inl v9)], [], M345)
  exact nn_go_ext (nn_xc rfl (nn_xc rfl (nn_xc rfl (nn_xc rfl (nn_xc rfl (nn_xc rfl (nn_xc rfl (nn_xc rfl (nn_xc rfl nn_xn))))))))) (h n L N)
set_option maxRecDepth 20000 in
theorem ng_M_mergesTable_409 (v1 : Int) (M : mm_M) (R : mm_M → Prop) (h : (((0 : Int) ≤ (mm_w (v1 + 23)) ∧ (mm_w (v1 + 23)) < (32844 : Int)) ∧ (((0 : Int) ≤ (mm_w (v1 + 23)) ∧ (mm_w (v1 + 23)) < (32844 : Int)) ∧ (∀ M421 : mm_M, M421 = nn_ui M 408 (mm_w (v1 + 23)) (mm_w ((nn_ri M 408 (mm_w (v1 + 23))) + 1)) → R M421)))) : nk_M_mergesTable_409 v1 M R := by
  intro n L N 
  have NN := nn_L_n L N
  show mm_Go (mm_run 3) mc_M_mergesTable _ (409, [(0, .inr (.inr 407)), (1, .inl v1)], [], M)
  refine mm_s1 rfl ?_
  refine nn_getr rfl (nn_c407 NN).1 (lf_13_0 L N (nn_c407 NN)) ?_
  refine mm_s1 rfl ?_
  refine mm_s1 rfl ?_
  refine mm_s1 rfl ?_
  show mm_Go (mm_run 3) mc_M_mergesTable _ (417, [(0, .inr (.inr 407)), (1, .inl v1)], [.inl (mm_w (v1 + 23)), .inr (.inr 408)], M)
  refine mm_s1 rfl ?_
  obtain ⟨b418, h⟩ := h
  refine mm_s1 rfl ⟨nn_bd (na_13_0 NN (nn_c407 NN)) b418, ?_⟩
  show mm_Go (mm_run 3) mc_M_mergesTable _ (419, [(0, .inr (.inr 407)), (1, .inl v1)], [.inl (nn_ri M 408 (mm_w (v1 + 23))), .inl (mm_w (v1 + 23)), .inr (.inr 408)], M)
  refine mm_s1 rfl ?_
  refine mm_s1 rfl ?_
  obtain ⟨b421, h⟩ := h
  refine mm_s1 rfl ⟨nn_bd (na_13_0 NN (nn_c407 NN)) b421, ?_⟩
  show mm_Go (mm_run 3) mc_M_mergesTable _ (422, [(0, .inr (.inr 407)), (1, .inl v1)], [], (nn_ui M 408 (mm_w (v1 + 23)) (mm_w ((nn_ri M 408 (mm_w (v1 + 23))) + 1))))
  have L : nn_L (nn_ui M 408 (mm_w (v1 + 23)) (mm_w ((nn_ri M 408 (mm_w (v1 + 23))) + 1))) := nn_L_ua L (congrArg Prod.fst (na_13_0 NN (nn_c407 NN))) (by decide)
  have N : (nn_ui M 408 (mm_w (v1 + 23)) (mm_w ((nn_ri M 408 (mm_w (v1 + 23))) + 1))).1 = n := N
  generalize e_M421 : (nn_ui M 408 (mm_w (v1 + 23)) (mm_w ((nn_ri M 408 (mm_w (v1 + 23))) + 1))) = M421 at L N ⊢
  replace h := h _ e_M421.symm
  show mm_Go (mm_run 3) mc_M_mergesTable _ (422, [(0, .inr (.inr 407)), (1, .inl v1)], [], M421)
  exact mm_s1 rfl ⟨rfl, L, N, h⟩
