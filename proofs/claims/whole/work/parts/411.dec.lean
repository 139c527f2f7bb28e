/-! methods walked by program (wip/whole/dec.py) -/
def nr_LI_repair (v1 : Int) (M : mm_M) (R : Int → mm_M → Prop) : Prop := ∀ n, nn_L M → M.1 = n → mm_run 4 mi_LI_repair [.inr (.inr 1), .inl v1] M (nw_I n R)
set_option maxRecDepth 20000 in
theorem ng_LI_repair (v1 : Int) (M : mm_M) (R : Int → mm_M → Prop) (h : (nr_Store_find 2 v1 M (fun r5 M5 => ((r5 ≠ 0 → (nr_Pile_repairRuns (r5 + 8) 5 M5 (fun r28 M28 => R r28 M28))) ∧ (r5 = 0 → R (-1) M5))))) : nr_LI_repair v1 M R := by
  intro n L N 
  have NN := nn_L_n L N
  show mm_Go (mm_run 3) mc_LI_repair _ (0, [(0, .inr (.inr 1)), (1, .inl v1)], [], M)
  refine mm_s1 rfl ?_
  refine nn_getr rfl (nn_c1 NN).1 (lf_1_0 L N (nn_c1 NN)) ?_
  refine mm_s1 rfl ?_
  refine mm_s1 rfl ⟨(nc_1_0 NN (nn_c1 NN)).1, ?_⟩
  refine nn_call (D := 1) (by decide) (h n L N (nc_1_0 NN (nn_c1 NN))) ?_
  intro v M5 q; clear L N h
  obtain ⟨r5, rfl, q5, L, N, h⟩ := q
  show mm_Go (mm_run 3) mc_LI_repair _ (8, [(0, .inr (.inr 1)), (1, .inl v1)], [.inr (.inr r5)], M5)
  refine mm_s1 rfl ?_
  show mm_Go (mm_run 3) mc_LI_repair _ (9, [(0, .inr (.inr 1)), (1, .inl v1), (2, .inr (.inr r5))], [], M5)
  refine mm_s1 rfl ?_
  refine mm_s1 rfl ⟨fun c10 => ?_, fun c10 => ?_⟩
  · show mm_Go (mm_run 3) mc_LI_repair _ (17, [(0, .inr (.inr 1)), (1, .inl v1), (2, .inr (.inr r5))], [], M5)
    replace h := h.1 c10
    refine mm_s1 rfl ?_
    refine nn_getr rfl (Or.resolve_left q5 c10).1 (lf_5_3 L N (Or.resolve_left q5 c10)) ?_
    refine mm_s1 rfl ?_
    refine nn_getr rfl (nn_c1 NN).1 (lf_1_0 L N (nn_c1 NN)) ?_
    refine nn_getr rfl (nc_1_0 NN (nn_c1 NN)).1 (lf_9_1 L N (nc_1_0 NN (nn_c1 NN))) ?_
    show mm_Go (mm_run 3) mc_LI_repair _ (28, [(0, .inr (.inr 1)), (1, .inl v1), (2, .inr (.inr r5))], [.inr (.inr 5), .inr (.inr (r5 + 8))], M5)
    refine mm_s1 rfl ⟨(nc_5_3 NN (Or.resolve_left q5 c10)).1, ?_⟩
    refine nn_call (D := 3) (by decide) (h n L N (nc_5_3 NN (Or.resolve_left q5 c10)) (nc_9_1 NN (nc_1_0 NN (nn_c1 NN)))) ?_
    intro v M28 q; clear L N h
    obtain ⟨r28, rfl, L, N, h⟩ := q
    show mm_Go (mm_run 3) mc_LI_repair _ (31, [(0, .inr (.inr 1)), (1, .inl v1), (2, .inr (.inr r5))], [.inl r28], M28)
    exact mm_s1 rfl ⟨_, rfl, L, N, h⟩
  · show mm_Go (mm_run 3) mc_LI_repair _ (13, [(0, .inr (.inr 1)), (1, .inl v1), (2, .inr (.inr r5))], [], M5)
    replace c10 := Decidable.not_not.mp c10
    replace h := h.2 c10
    refine mm_s1 rfl ?_
    refine mm_s1 rfl ?_
    show mm_Go (mm_run 3) mc_LI_repair _ (31, [(0, .inr (.inr 1)), (1, .inl v1), (2, .inr (.inr r5))], [.inl (-1)], M5)
    exact mm_s1 rfl ⟨_, rfl, L, N, h⟩
def nr_LI_open (v1 : Int) (v2 : Int) (v3 : Int) (M : mm_M) (R : Int → mm_M → Prop) : Prop := ∀ n, nn_L M → M.1 = n → mm_run 4 mi_LI_open [.inr (.inr 1), .inl v1, .inl v2, .inl v3] M (nw_I n R)
set_option maxRecDepth 20000 in
theorem ng_LI_open (v1 : Int) (v2 : Int) (v3 : Int) (M : mm_M) (R : Int → mm_M → Prop) (h : (nr_Store_findBuilt 2 v1 M (fun r5 M5 => ((r5 ≠ 0 → (nr_Store_opened 2 r5 v2 v3 M5 (fun r27 M27 => R r27 M27))) ∧ (r5 = 0 → R (-1) M5))))) : nr_LI_open v1 v2 v3 M R := by
  intro n L N 
  have NN := nn_L_n L N
  show mm_Go (mm_run 3) mc_LI_open _ (0, [(0, .inr (.inr 1)), (1, .inl v1), (2, .inl v2), (3, .inl v3)], [], M)
  refine mm_s1 rfl ?_
  refine nn_getr rfl (nn_c1 NN).1 (lf_1_0 L N (nn_c1 NN)) ?_
  refine mm_s1 rfl ?_
  refine mm_s1 rfl ⟨(nc_1_0 NN (nn_c1 NN)).1, ?_⟩
  refine nn_call (D := 1) (by decide) (h n L N (nc_1_0 NN (nn_c1 NN))) ?_
  intro v M5 q; clear L N h
  obtain ⟨r5, rfl, q5, L, N, h⟩ := q
  show mm_Go (mm_run 3) mc_LI_open _ (8, [(0, .inr (.inr 1)), (1, .inl v1), (2, .inl v2), (3, .inl v3)], [.inr (.inr r5)], M5)
  refine mm_s1 rfl ?_
  show mm_Go (mm_run 3) mc_LI_open _ (10, [(0, .inr (.inr 1)), (1, .inl v1), (2, .inl v2), (3, .inl v3), (4, .inr (.inr r5))], [], M5)
  refine mm_s1 rfl ?_
  refine mm_s1 rfl ⟨fun c12 => ?_, fun c12 => ?_⟩
  · show mm_Go (mm_run 3) mc_LI_open _ (19, [(0, .inr (.inr 1)), (1, .inl v1), (2, .inl v2), (3, .inl v3), (4, .inr (.inr r5))], [], M5)
    replace h := h.1 c12
    refine mm_s1 rfl ?_
    refine nn_getr rfl (nn_c1 NN).1 (lf_1_0 L N (nn_c1 NN)) ?_
    refine mm_s1 rfl ?_
    refine mm_s1 rfl ?_
    refine mm_s1 rfl ?_
    show mm_Go (mm_run 3) mc_LI_open _ (27, [(0, .inr (.inr 1)), (1, .inl v1), (2, .inl v2), (3, .inl v3), (4, .inr (.inr r5))], [.inl v3, .inl v2, .inr (.inr r5), .inr (.inr 2)], M5)
    refine mm_s1 rfl ⟨(nc_1_0 NN (nn_c1 NN)).1, ?_⟩
    refine nn_call (D := 3) (by decide) (h n L N (nc_1_0 NN (nn_c1 NN)) (Or.resolve_left q5 c12)) ?_
    intro v M27 q; clear L N h
    obtain ⟨r27, rfl, L, N, h⟩ := q
    show mm_Go (mm_run 3) mc_LI_open _ (30, [(0, .inr (.inr 1)), (1, .inl v1), (2, .inl v2), (3, .inl v3), (4, .inr (.inr r5))], [.inl r27], M27)
    exact mm_s1 rfl ⟨_, rfl, L, N, h⟩
  · show mm_Go (mm_run 3) mc_LI_open _ (15, [(0, .inr (.inr 1)), (1, .inl v1), (2, .inl v2), (3, .inl v3), (4, .inr (.inr r5))], [], M5)
    replace c12 := Decidable.not_not.mp c12
    replace h := h.2 c12
    refine mm_s1 rfl ?_
    refine mm_s1 rfl ?_
    show mm_Go (mm_run 3) mc_LI_open _ (30, [(0, .inr (.inr 1)), (1, .inl v1), (2, .inl v2), (3, .inl v3), (4, .inr (.inr r5))], [.inl (-1)], M5)
    exact mm_s1 rfl ⟨_, rfl, L, N, h⟩
def nr_LI_entry (v1 : Int) (v2 : Int) (v3 : Int) (v4 : Int) (M : mm_M) (R : Int → mm_M → Prop) : Prop := ∀ n, nn_L M → M.1 = n → mm_run 4 mi_LI_entry [.inr (.inr 1), .inl v1, .inl v2, .inl v3, .inl v4] M (nw_I n R)
set_option maxRecDepth 20000 in
theorem ng_LI_entry (v1 : Int) (v2 : Int) (v3 : Int) (v4 : Int) (M : mm_M) (R : Int → mm_M → Prop) (h : (nr_Store_find 2 v1 M (fun r5 M5 => ((r5 = 0 → R (-2) M5) ∧ (r5 ≠ 0 → ((0 ≤ v3 → ((v2 ≠ (-1) → (((0 ≤ v2) ∧ (v2 < (nn_rf M5 (r5 + 8) 5)) → (nc_Pile_sizeOf (r5 + 8) v2 M5)) ∧ ((0 ≤ v2) ∧ (v2 < (nn_rf M5 (r5 + 8) 5)) ∧ (v3 < (nf_Pile_sizeOf (r5 + 8) v2 M5)) → ((0 : Int) ≤ v2 ∧ v2 < (25 : Int))) ∧ ((0 ≤ v2) ∧ (v2 < (nn_rf M5 (r5 + 8) 5)) ∧ (v3 < (nf_Pile_sizeOf (r5 + 8) v2 M5)) → ((0 : Int) ≤ (mm_w ((nn_ri M5 (r5 + 10) v2) + v3)) ∧ (mm_w ((nn_ri M5 (r5 + 10) v2) + v3)) < (144 : Int))) ∧ ((0 ≤ v2) ∧ (v2 < (nn_rf M5 (r5 + 8) 5)) ∧ (v3 < (nf_Pile_sizeOf (r5 + 8) v2 M5)) → ((0 : Int) ≤ v2 ∧ v2 < (24 : Int))) ∧ ((v2 < 0 ∨ ((nn_rf M5 (r5 + 8) 5) ≤ v2 ∨ ((nf_Pile_sizeOf (r5 + 8) v2 M5) ≤ v3))) → R (-2) M5) ∧ ((0 ≤ v2 ∧ (v2 < (nn_rf M5 (r5 + 8) 5) ∧ (v3 < (nf_Pile_sizeOf (r5 + 8) v2 M5)))) → (nr_LI_toldEntry (nn_ri M5 (r5 + 9) (mm_w ((nn_ri M5 (r5 + 10) v2) + v3))) 5 (nn_ri M5 (r5 + 12) v2) v4 M5 (fun r135 M135 => R r135 M135))))) ∧ (v2 = (-1) → (((nn_rf M5 (r5 + 4) 1) ≤ v3 → R (-2) M5) ∧ (v3 < (nn_rf M5 (r5 + 4) 1) → (((0 : Int) ≤ v3 ∧ v3 < ((mm_kd (r5 + 5)).2 : Int)) ∧ (nr_LI_toldEntry (nn_ri M5 (r5 + 5) v3) 5 (nn_rf M5 5 6) v4 M5 (fun r67 M67 => R r67 M67)))))))) ∧ (v3 < 0 → R (-2) M5))))))) : nr_LI_entry v1 v2 v3 v4 M R := by
  intro n L N 
  have NN := nn_L_n L N
  show mm_Go (mm_run 3) mc_LI_entry _ (0, [(0, .inr (.inr 1)), (1, .inl v1), (2, .inl v2), (3, .inl v3), (4, .inl v4)], [], M)
  refine mm_s1 rfl ?_
  refine nn_getr rfl (nn_c1 NN).1 (lf_1_0 L N (nn_c1 NN)) ?_
  refine mm_s1 rfl ?_
  refine mm_s1 rfl ⟨(nc_1_0 NN (nn_c1 NN)).1, ?_⟩
  refine nn_call (D := 1) (by decide) (h n L N (nc_1_0 NN (nn_c1 NN))) ?_
  intro v M5 q; clear L N h
  obtain ⟨r5, rfl, q5, L, N, h⟩ := q
  show mm_Go (mm_run 3) mc_LI_entry _ (8, [(0, .inr (.inr 1)), (1, .inl v1), (2, .inl v2), (3, .inl v3), (4, .inl v4)], [.inr (.inr r5)], M5)
  refine mm_s1 rfl ?_
  show mm_Go (mm_run 3) mc_LI_entry _ (10, [(0, .inr (.inr 1)), (1, .inl v1), (2, .inl v2), (3, .inl v3), (4, .inl v4), (5, .inr (.inr r5))], [], M5)
  refine mm_s1 rfl ?_
  refine mm_s1 rfl ⟨fun c12 => ?_, fun c12 => ?_⟩
  · show mm_Go (mm_run 3) mc_LI_entry _ (19, [(0, .inr (.inr 1)), (1, .inl v1), (2, .inl v2), (3, .inl v3), (4, .inl v4), (5, .inr (.inr r5))], [], M5)
    replace h := h.1 c12
    refine mm_s1 rfl ?_
    exact mm_s1 rfl ⟨_, rfl, L, N, h⟩
  · show mm_Go (mm_run 3) mc_LI_entry _ (15, [(0, .inr (.inr 1)), (1, .inl v1), (2, .inl v2), (3, .inl v3), (4, .inl v4), (5, .inr (.inr r5))], [], M5)
    replace h := h.2 c12
    refine mm_s1 rfl ?_
    refine mm_s1 rfl ⟨fun c16 => ?_, fun c16 => ?_⟩
    · show mm_Go (mm_run 3) mc_LI_entry _ (22, [(0, .inr (.inr 1)), (1, .inl v1), (2, .inl v2), (3, .inl v3), (4, .inl v4), (5, .inr (.inr r5))], [], M5)
      replace h := h.1 c16
      refine mm_s1 rfl ?_
      refine nn_getr rfl (nn_c1 NN).1 (lf_1_0 L N (nn_c1 NN)) ?_
      refine nn_getr rfl (nc_1_0 NN (nn_c1 NN)).1 (lf_9_1 L N (nc_1_0 NN (nn_c1 NN))) ?_
      refine mm_s1 rfl ?_
      show mm_Go (mm_run 3) mc_LI_entry _ (31, [(0, .inr (.inr 1)), (1, .inl v1), (2, .inl v2), (3, .inl v3), (4, .inl v4), (5, .inr (.inr r5)), (6, .inr (.inr 5))], [], M5)
      refine mm_s1 rfl ?_
      refine mm_s1 rfl ?_
      refine mm_s1 rfl ⟨fun c33 => ?_, fun c33 => ?_⟩
      · show mm_Go (mm_run 3) mc_LI_entry _ (76, [(0, .inr (.inr 1)), (1, .inl v1), (2, .inl v2), (3, .inl v3), (4, .inl v4), (5, .inr (.inr r5)), (6, .inr (.inr 5))], [], M5)
        replace h := h.1 c33
        refine mm_s1 rfl ?_
        refine nn_getr rfl (Or.resolve_left q5 c12).1 (lf_5_3 L N (Or.resolve_left q5 c12)) ?_
        refine mm_s1 rfl ?_
        show mm_Go (mm_run 3) mc_LI_entry _ (83, [(0, .inr (.inr 1)), (1, .inl v1), (2, .inl v2), (3, .inl v3), (4, .inl v4), (5, .inr (.inr r5)), (6, .inr (.inr 5)), (7, .inr (.inr (r5 + 8)))], [], M5)
        refine mm_s1 rfl ?_
        refine mm_s1 rfl ⟨fun c84 => ?_, fun c84 => ?_⟩
        · show mm_Go (mm_run 3) mc_LI_entry _ (106, [(0, .inr (.inr 1)), (1, .inl v1), (2, .inl v2), (3, .inl v3), (4, .inl v4), (5, .inr (.inr r5)), (6, .inr (.inr 5)), (7, .inr (.inr (r5 + 8)))], [], M5)
          refine mm_s1 rfl ?_
          replace h := h.2.2.2.2.1 (Or.inl c84)
          exact mm_s1 rfl ⟨_, rfl, L, N, h⟩
        · show mm_Go (mm_run 3) mc_LI_entry _ (87, [(0, .inr (.inr 1)), (1, .inl v1), (2, .inl v2), (3, .inl v3), (4, .inl v4), (5, .inr (.inr r5)), (6, .inr (.inr 5)), (7, .inr (.inr (r5 + 8)))], [], M5)
          replace c84 := Int.not_lt.mp c84
          refine mm_s1 rfl ?_
          refine mm_s1 rfl ?_
          refine mm_s1 rfl ⟨(nc_5_3 NN (Or.resolve_left q5 c12)).1, ?_⟩
          show mm_Go (mm_run 3) mc_LI_entry _ (93, [(0, .inr (.inr 1)), (1, .inl v1), (2, .inl v2), (3, .inl v3), (4, .inl v4), (5, .inr (.inr r5)), (6, .inr (.inr 5)), (7, .inr (.inr (r5 + 8)))], [.inl (nn_rf M5 (r5 + 8) 5), .inl v2], M5)
          refine mm_s1 rfl ⟨fun c93 => ?_, fun c93 => ?_⟩
          · show mm_Go (mm_run 3) mc_LI_entry _ (106, [(0, .inr (.inr 1)), (1, .inl v1), (2, .inl v2), (3, .inl v3), (4, .inl v4), (5, .inr (.inr r5)), (6, .inr (.inr 5)), (7, .inr (.inr (r5 + 8)))], [], M5)
            refine mm_s1 rfl ?_
            replace h := h.2.2.2.2.1 (Or.inr (Or.inl c93))
            exact mm_s1 rfl ⟨_, rfl, L, N, h⟩
          · show mm_Go (mm_run 3) mc_LI_entry _ (96, [(0, .inr (.inr 1)), (1, .inl v1), (2, .inl v2), (3, .inl v3), (4, .inl v4), (5, .inr (.inr r5)), (6, .inr (.inr 5)), (7, .inr (.inr (r5 + 8)))], [], M5)
            replace c93 := Int.not_le.mp c93
            refine mm_s1 rfl ?_
            refine mm_s1 rfl ?_
            refine mm_s1 rfl ?_
            have b100 := h.1 ⟨c84, c93⟩
            refine mm_s1 rfl ⟨(nc_5_3 NN (Or.resolve_left q5 c12)).1, ?_⟩
            refine np_Pile_sizeOf (by decide) L N (nc_5_3 NN (Or.resolve_left q5 c12)) b100 ?_
            show mm_Go (mm_run 3) mc_LI_entry _ (103, [(0, .inr (.inr 1)), (1, .inl v1), (2, .inl v2), (3, .inl v3), (4, .inl v4), (5, .inr (.inr r5)), (6, .inr (.inr 5)), (7, .inr (.inr (r5 + 8)))], [.inl (nf_Pile_sizeOf (r5 + 8) v2 M5), .inl v3], M5)
            refine mm_s1 rfl ⟨fun c103 => ?_, fun c103 => ?_⟩
            · show mm_Go (mm_run 3) mc_LI_entry _ (109, [(0, .inr (.inr 1)), (1, .inl v1), (2, .inl v2), (3, .inl v3), (4, .inl v4), (5, .inr (.inr r5)), (6, .inr (.inr 5)), (7, .inr (.inr (r5 + 8)))], [], M5)
              refine mm_s1 rfl ?_
              refine nn_getr rfl (nc_5_3 NN (Or.resolve_left q5 c12)).1 (lf_6_0 L N (nc_5_3 NN (Or.resolve_left q5 c12))) ?_
              refine mm_s1 rfl ?_
              refine nn_getr rfl (nc_5_3 NN (Or.resolve_left q5 c12)).1 (lf_6_1 L N (nc_5_3 NN (Or.resolve_left q5 c12))) ?_
              refine mm_s1 rfl ?_
              show mm_Go (mm_run 3) mc_LI_entry _ (120, [(0, .inr (.inr 1)), (1, .inl v1), (2, .inl v2), (3, .inl v3), (4, .inl v4), (5, .inr (.inr r5)), (6, .inr (.inr 5)), (7, .inr (.inr (r5 + 8)))], [.inl v2, .inr (.inr (r5 + 10)), .inr (.inr (r5 + 9))], M5)
              have b120 := h.2.1 ⟨c84, c93, c103⟩
              refine mm_s1 rfl ⟨nn_bd (na_6_1 NN (nc_5_3 NN (Or.resolve_left q5 c12))) b120, ?_⟩
              show mm_Go (mm_run 3) mc_LI_entry _ (121, [(0, .inr (.inr 1)), (1, .inl v1), (2, .inl v2), (3, .inl v3), (4, .inl v4), (5, .inr (.inr r5)), (6, .inr (.inr 5)), (7, .inr (.inr (r5 + 8)))], [.inl (nn_ri M5 (r5 + 10) v2), .inr (.inr (r5 + 9))], M5)
              refine mm_s1 rfl ?_
              refine mm_s1 rfl ?_
              have b123 := h.2.2.1 ⟨c84, c93, c103⟩
              refine mm_s1 rfl ⟨nn_bd (na_6_0 NN (nc_5_3 NN (Or.resolve_left q5 c12))) b123, ?_⟩
              show mm_Go (mm_run 3) mc_LI_entry _ (124, [(0, .inr (.inr 1)), (1, .inl v1), (2, .inl v2), (3, .inl v3), (4, .inl v4), (5, .inr (.inr r5)), (6, .inr (.inr 5)), (7, .inr (.inr (r5 + 8)))], [.inr (.inl (nn_ri M5 (r5 + 9) (mm_w ((nn_ri M5 (r5 + 10) v2) + v3))))], M5)
              refine mm_s1 rfl ?_
              refine mm_s1 rfl ?_
              refine nn_getr rfl (nc_5_3 NN (Or.resolve_left q5 c12)).1 (lf_6_3 L N (nc_5_3 NN (Or.resolve_left q5 c12))) ?_
              refine mm_s1 rfl ?_
              have b132 := h.2.2.2.1 ⟨c84, c93, c103⟩
              refine mm_s1 rfl ⟨nn_bd (na_6_3 NN (nc_5_3 NN (Or.resolve_left q5 c12))) b132, ?_⟩
              show mm_Go (mm_run 3) mc_LI_entry _ (133, [(0, .inr (.inr 1)), (1, .inl v1), (2, .inl v2), (3, .inl v3), (4, .inl v4), (5, .inr (.inr r5)), (6, .inr (.inr 5)), (7, .inr (.inr (r5 + 8)))], [.inl (nn_ri M5 (r5 + 12) v2), .inr (.inr 5), .inr (.inl (nn_ri M5 (r5 + 9) (mm_w ((nn_ri M5 (r5 + 10) v2) + v3))))], M5)
              refine mm_s1 rfl ?_
              replace h := h.2.2.2.2.2 ⟨c84, ⟨c93, c103⟩⟩
              refine mm_s1 rfl ⟨trivial, ?_⟩
              refine nn_call (D := 3) (by decide) (h n L N (nc_9_1 NN (nc_1_0 NN (nn_c1 NN)))) ?_
              intro v M135 q; clear L N h
              obtain ⟨r135, rfl, L, N, h⟩ := q
              show mm_Go (mm_run 3) mc_LI_entry _ (138, [(0, .inr (.inr 1)), (1, .inl v1), (2, .inl v2), (3, .inl v3), (4, .inl v4), (5, .inr (.inr r5)), (6, .inr (.inr 5)), (7, .inr (.inr (r5 + 8)))], [.inl r135], M135)
              exact mm_s1 rfl ⟨_, rfl, L, N, h⟩
            · show mm_Go (mm_run 3) mc_LI_entry _ (106, [(0, .inr (.inr 1)), (1, .inl v1), (2, .inl v2), (3, .inl v3), (4, .inl v4), (5, .inr (.inr r5)), (6, .inr (.inr 5)), (7, .inr (.inr (r5 + 8)))], [], M5)
              replace c103 := Int.not_lt.mp c103
              refine mm_s1 rfl ?_
              replace h := h.2.2.2.2.1 (Or.inr (Or.inr c103))
              exact mm_s1 rfl ⟨_, rfl, L, N, h⟩
      · show mm_Go (mm_run 3) mc_LI_entry _ (36, [(0, .inr (.inr 1)), (1, .inl v1), (2, .inl v2), (3, .inl v3), (4, .inl v4), (5, .inr (.inr r5)), (6, .inr (.inr 5))], [], M5)
        replace c33 := Decidable.not_not.mp c33
        replace h := h.2 c33
        refine mm_s1 rfl ?_
        refine mm_s1 rfl ?_
        refine nn_getr rfl (Or.resolve_left q5 c12).1 (lf_5_1 L N (Or.resolve_left q5 c12)) ?_
        refine mm_s1 rfl ⟨(nc_5_1 NN (Or.resolve_left q5 c12)).1, ?_⟩
        show mm_Go (mm_run 3) mc_LI_entry _ (45, [(0, .inr (.inr 1)), (1, .inl v1), (2, .inl v2), (3, .inl v3), (4, .inl v4), (5, .inr (.inr r5)), (6, .inr (.inr 5))], [.inl (nn_rf M5 (r5 + 4) 1), .inl v3], M5)
        refine mm_s1 rfl ⟨fun c45 => ?_, fun c45 => ?_⟩
        · show mm_Go (mm_run 3) mc_LI_entry _ (73, [(0, .inr (.inr 1)), (1, .inl v1), (2, .inl v2), (3, .inl v3), (4, .inl v4), (5, .inr (.inr r5)), (6, .inr (.inr 5))], [], M5)
          replace h := h.1 c45
          refine mm_s1 rfl ?_
          exact mm_s1 rfl ⟨_, rfl, L, N, h⟩
        · show mm_Go (mm_run 3) mc_LI_entry _ (48, [(0, .inr (.inr 1)), (1, .inl v1), (2, .inl v2), (3, .inl v3), (4, .inl v4), (5, .inr (.inr r5)), (6, .inr (.inr 5))], [], M5)
          replace c45 := Int.not_le.mp c45
          replace h := h.2 c45
          refine mm_s1 rfl ?_
          refine nn_getr rfl (Or.resolve_left q5 c12).1 (lf_5_1 L N (Or.resolve_left q5 c12)) ?_
          refine nn_getr rfl (nc_5_1 NN (Or.resolve_left q5 c12)).1 (lf_4_0 L N (nc_5_1 NN (Or.resolve_left q5 c12))) ?_
          refine mm_s1 rfl ?_
          obtain ⟨b57, h⟩ := h
          refine mm_s1 rfl ⟨⟨(nc_4_0 NN (nc_5_1 NN (Or.resolve_left q5 c12))).1, b57⟩, ?_⟩
          show mm_Go (mm_run 3) mc_LI_entry _ (58, [(0, .inr (.inr 1)), (1, .inl v1), (2, .inl v2), (3, .inl v3), (4, .inl v4), (5, .inr (.inr r5)), (6, .inr (.inr 5))], [.inr (.inl (nn_ri M5 (r5 + 5) v3))], M5)
          refine mm_s1 rfl ?_
          refine mm_s1 rfl ?_
          refine mm_s1 rfl ⟨(nc_9_1 NN (nc_1_0 NN (nn_c1 NN))).1, ?_⟩
          show mm_Go (mm_run 3) mc_LI_entry _ (65, [(0, .inr (.inr 1)), (1, .inl v1), (2, .inl v2), (3, .inl v3), (4, .inl v4), (5, .inr (.inr r5)), (6, .inr (.inr 5))], [.inl (nn_rf M5 5 6), .inr (.inr 5), .inr (.inl (nn_ri M5 (r5 + 5) v3))], M5)
          refine mm_s1 rfl ?_
          refine mm_s1 rfl ⟨trivial, ?_⟩
          refine nn_call (D := 3) (by decide) (h n L N (nc_9_1 NN (nc_1_0 NN (nn_c1 NN)))) ?_
          intro v M67 q; clear L N h
          obtain ⟨r67, rfl, L, N, h⟩ := q
          show mm_Go (mm_run 3) mc_LI_entry _ (70, [(0, .inr (.inr 1)), (1, .inl v1), (2, .inl v2), (3, .inl v3), (4, .inl v4), (5, .inr (.inr r5)), (6, .inr (.inr 5))], [.inl r67], M67)
          refine mm_s1 rfl ?_
          show mm_Go (mm_run 3) mc_LI_entry _ (75, [(0, .inr (.inr 1)), (1, .inl v1), (2, .inl v2), (3, .inl v3), (4, .inl v4), (5, .inr (.inr r5)), (6, .inr (.inr 5))], [.inl r67], M67)
          exact mm_s1 rfl ⟨_, rfl, L, N, h⟩
    · show mm_Go (mm_run 3) mc_LI_entry _ (19, [(0, .inr (.inr 1)), (1, .inl v1), (2, .inl v2), (3, .inl v3), (4, .inl v4), (5, .inr (.inr r5))], [], M5)
      replace c16 := Int.not_le.mp c16
      replace h := h.2 c16
      refine mm_s1 rfl ?_
      exact mm_s1 rfl ⟨_, rfl, L, N, h⟩
def nr_LI_value (v1 : Int) (v2 : Int) (v3 : Int) (v4 : Int) (v5 : Int) (M : mm_M) (R : Int → mm_M → Prop) : Prop := ∀ n, nn_L M → M.1 = n → mm_run 4 mi_LI_value [.inr (.inr 1), .inl v1, .inl v2, .inl v3, .inl v4, .inl v5] M (nw_I n R)
set_option maxRecDepth 20000 in
theorem ng_LI_value (v1 : Int) (v2 : Int) (v3 : Int) (v4 : Int) (v5 : Int) (M : mm_M) (R : Int → mm_M → Prop) (h : (nr_Store_find 2 v1 M (fun r5 M5 => (((r5 = 0 ∨ ((nf_LI_isNumber v2) = 0 ∨ ((nf_LI_isNumber v3) = 0 ∨ ((nf_LI_isNumber v4) = 0 ∨ ((nf_LI_isNumber v5) = 0))))) → R (-1) M5) ∧ ((r5 ≠ 0 ∧ ((nf_LI_isNumber v2) ≠ 0 ∧ ((nf_LI_isNumber v3) ≠ 0 ∧ ((nf_LI_isNumber v4) ≠ 0 ∧ ((nf_LI_isNumber v5) ≠ 0))))) → (nr_Rule_valueOf (r5 + 1) (nf_LI_packed v2 v3 v4 v5) M5 (fun r61 M61 => R r61 M61))))))) : nr_LI_value v1 v2 v3 v4 v5 M R := by
  intro n L N 
  have NN := nn_L_n L N
  show mm_Go (mm_run 3) mc_LI_value _ (0, [(0, .inr (.inr 1)), (1, .inl v1), (2, .inl v2), (3, .inl v3), (4, .inl v4), (5, .inl v5)], [], M)
  refine mm_s1 rfl ?_
  refine nn_getr rfl (nn_c1 NN).1 (lf_1_0 L N (nn_c1 NN)) ?_
  refine mm_s1 rfl ?_
  refine mm_s1 rfl ⟨(nc_1_0 NN (nn_c1 NN)).1, ?_⟩
  refine nn_call (D := 1) (by decide) (h n L N (nc_1_0 NN (nn_c1 NN))) ?_
  intro v M5 q; clear L N h
  obtain ⟨r5, rfl, q5, L, N, h⟩ := q
  show mm_Go (mm_run 3) mc_LI_value _ (8, [(0, .inr (.inr 1)), (1, .inl v1), (2, .inl v2), (3, .inl v3), (4, .inl v4), (5, .inl v5)], [.inr (.inr r5)], M5)
  refine mm_s1 rfl ?_
  show mm_Go (mm_run 3) mc_LI_value _ (10, [(0, .inr (.inr 1)), (1, .inl v1), (2, .inl v2), (3, .inl v3), (4, .inl v4), (5, .inl v5), (6, .inr (.inr r5))], [], M5)
  refine mm_s1 rfl ?_
  refine mm_s1 rfl ⟨fun c12 => ?_, fun c12 => ?_⟩
  · show mm_Go (mm_run 3) mc_LI_value _ (45, [(0, .inr (.inr 1)), (1, .inl v1), (2, .inl v2), (3, .inl v3), (4, .inl v4), (5, .inl v5), (6, .inr (.inr r5))], [], M5)
    refine mm_s1 rfl ?_
    replace h := h.1 (Or.inl c12)
    exact mm_s1 rfl ⟨_, rfl, L, N, h⟩
  · show mm_Go (mm_run 3) mc_LI_value _ (15, [(0, .inr (.inr 1)), (1, .inl v1), (2, .inl v2), (3, .inl v3), (4, .inl v4), (5, .inl v5), (6, .inr (.inr r5))], [], M5)
    refine mm_s1 rfl ?_
    refine mm_s1 rfl ⟨trivial, ?_⟩
    refine np_LI_isNumber (by decide) L N ?_
    show mm_Go (mm_run 3) mc_LI_value _ (19, [(0, .inr (.inr 1)), (1, .inl v1), (2, .inl v2), (3, .inl v3), (4, .inl v4), (5, .inl v5), (6, .inr (.inr r5))], [.inl (nf_LI_isNumber v2)], M5)
    refine mm_s1 rfl ⟨fun c19 => ?_, fun c19 => ?_⟩
    · show mm_Go (mm_run 3) mc_LI_value _ (45, [(0, .inr (.inr 1)), (1, .inl v1), (2, .inl v2), (3, .inl v3), (4, .inl v4), (5, .inl v5), (6, .inr (.inr r5))], [], M5)
      refine mm_s1 rfl ?_
      replace h := h.1 (Or.inr (Or.inl c19))
      exact mm_s1 rfl ⟨_, rfl, L, N, h⟩
    · show mm_Go (mm_run 3) mc_LI_value _ (22, [(0, .inr (.inr 1)), (1, .inl v1), (2, .inl v2), (3, .inl v3), (4, .inl v4), (5, .inl v5), (6, .inr (.inr r5))], [], M5)
      refine mm_s1 rfl ?_
      refine mm_s1 rfl ⟨trivial, ?_⟩
      refine np_LI_isNumber (by decide) L N ?_
      show mm_Go (mm_run 3) mc_LI_value _ (26, [(0, .inr (.inr 1)), (1, .inl v1), (2, .inl v2), (3, .inl v3), (4, .inl v4), (5, .inl v5), (6, .inr (.inr r5))], [.inl (nf_LI_isNumber v3)], M5)
      refine mm_s1 rfl ⟨fun c26 => ?_, fun c26 => ?_⟩
      · show mm_Go (mm_run 3) mc_LI_value _ (45, [(0, .inr (.inr 1)), (1, .inl v1), (2, .inl v2), (3, .inl v3), (4, .inl v4), (5, .inl v5), (6, .inr (.inr r5))], [], M5)
        refine mm_s1 rfl ?_
        replace h := h.1 (Or.inr (Or.inr (Or.inl c26)))
        exact mm_s1 rfl ⟨_, rfl, L, N, h⟩
      · show mm_Go (mm_run 3) mc_LI_value _ (29, [(0, .inr (.inr 1)), (1, .inl v1), (2, .inl v2), (3, .inl v3), (4, .inl v4), (5, .inl v5), (6, .inr (.inr r5))], [], M5)
        refine mm_s1 rfl ?_
        refine mm_s1 rfl ⟨trivial, ?_⟩
        refine np_LI_isNumber (by decide) L N ?_
        show mm_Go (mm_run 3) mc_LI_value _ (34, [(0, .inr (.inr 1)), (1, .inl v1), (2, .inl v2), (3, .inl v3), (4, .inl v4), (5, .inl v5), (6, .inr (.inr r5))], [.inl (nf_LI_isNumber v4)], M5)
        refine mm_s1 rfl ⟨fun c34 => ?_, fun c34 => ?_⟩
        · show mm_Go (mm_run 3) mc_LI_value _ (45, [(0, .inr (.inr 1)), (1, .inl v1), (2, .inl v2), (3, .inl v3), (4, .inl v4), (5, .inl v5), (6, .inr (.inr r5))], [], M5)
          refine mm_s1 rfl ?_
          replace h := h.1 (Or.inr (Or.inr (Or.inr (Or.inl c34))))
          exact mm_s1 rfl ⟨_, rfl, L, N, h⟩
        · show mm_Go (mm_run 3) mc_LI_value _ (37, [(0, .inr (.inr 1)), (1, .inl v1), (2, .inl v2), (3, .inl v3), (4, .inl v4), (5, .inl v5), (6, .inr (.inr r5))], [], M5)
          refine mm_s1 rfl ?_
          refine mm_s1 rfl ⟨trivial, ?_⟩
          refine np_LI_isNumber (by decide) L N ?_
          show mm_Go (mm_run 3) mc_LI_value _ (42, [(0, .inr (.inr 1)), (1, .inl v1), (2, .inl v2), (3, .inl v3), (4, .inl v4), (5, .inl v5), (6, .inr (.inr r5))], [.inl (nf_LI_isNumber v5)], M5)
          refine mm_s1 rfl ⟨fun c42 => ?_, fun c42 => ?_⟩
          · show mm_Go (mm_run 3) mc_LI_value _ (47, [(0, .inr (.inr 1)), (1, .inl v1), (2, .inl v2), (3, .inl v3), (4, .inl v4), (5, .inl v5), (6, .inr (.inr r5))], [], M5)
            refine mm_s1 rfl ?_
            refine nn_getr rfl (Or.resolve_left q5 c12).1 (lf_5_0 L N (Or.resolve_left q5 c12)) ?_
            refine mm_s1 rfl ?_
            refine mm_s1 rfl ?_
            refine mm_s1 rfl ?_
            show mm_Go (mm_run 3) mc_LI_value _ (56, [(0, .inr (.inr 1)), (1, .inl v1), (2, .inl v2), (3, .inl v3), (4, .inl v4), (5, .inl v5), (6, .inr (.inr r5))], [.inl v4, .inl v3, .inl v2, .inr (.inr (r5 + 1))], M5)
            refine mm_s1 rfl ?_
            refine mm_s1 rfl ⟨trivial, ?_⟩
            refine np_LI_packed (by decide) L N ?_
            show mm_Go (mm_run 3) mc_LI_value _ (61, [(0, .inr (.inr 1)), (1, .inl v1), (2, .inl v2), (3, .inl v3), (4, .inl v4), (5, .inl v5), (6, .inr (.inr r5))], [.inl (nf_LI_packed v2 v3 v4 v5), .inr (.inr (r5 + 1))], M5)
            replace h := h.2 ⟨c12, ⟨c19, ⟨c26, ⟨c34, c42⟩⟩⟩⟩
            refine mm_s1 rfl ⟨(nc_5_0 NN (Or.resolve_left q5 c12)).1, ?_⟩
            refine nn_call (D := 3) (by decide) (h n L N (nc_5_0 NN (Or.resolve_left q5 c12))) ?_
            intro v M61 q; clear L N h
            obtain ⟨r61, rfl, L, N, h⟩ := q
            show mm_Go (mm_run 3) mc_LI_value _ (64, [(0, .inr (.inr 1)), (1, .inl v1), (2, .inl v2), (3, .inl v3), (4, .inl v4), (5, .inl v5), (6, .inr (.inr r5))], [.inl r61], M61)
            exact mm_s1 rfl ⟨_, rfl, L, N, h⟩
          · show mm_Go (mm_run 3) mc_LI_value _ (45, [(0, .inr (.inr 1)), (1, .inl v1), (2, .inl v2), (3, .inl v3), (4, .inl v4), (5, .inl v5), (6, .inr (.inr r5))], [], M5)
            replace c42 := Decidable.not_not.mp c42
            refine mm_s1 rfl ?_
            replace h := h.1 (Or.inr (Or.inr (Or.inr (Or.inr c42))))
            exact mm_s1 rfl ⟨_, rfl, L, N, h⟩
def nr_Cost_goAlong (v0 : Nat) (v1 : Nat) (v2 : Int) (v3 : Int) (v4 : Nat) (M : mm_M) (R : mm_M → Prop) : Prop := ∀ n, nn_L M → M.1 = n → nn_C 2 v0 n → nn_C 5 v1 n → nn_C 10 v4 n → mm_run 4 mi_Cost_goAlong [.inr (.inr v0), .inr (.inr v1), .inl v2, .inl v3, .inr (.inr v4)] M (nw_V n R)
def nk_Cost_goAlong_33 (v0 : Nat) (v1 : Nat) (v2 : Int) (v3 : Int) (v4 : Nat) (v5 : Int) (M : mm_M) (R : mm_M → Prop) : Prop := ∀ n, nn_L M → M.1 = n → nn_C 2 v0 n → nn_C 5 v1 n → nn_C 10 v4 n → mm_Go (mm_run 3) mc_Cost_goAlong (nw_V n R) (33, [(0, .inr (.inr v0)), (1, .inr (.inr v1)), (2, .inl v2), (3, .inl v3), (4, .inr (.inr v4)), (5, .inl v5)], [], M)
def nk_Cost_goAlong_83 (v0 : Nat) (v2 : Int) (v3 : Int) (v4 : Nat) (v5 : Nat) (v6 : Int) (M : mm_M) (R : mm_M → Prop) : Prop := ∀ n, nn_L M → M.1 = n → nn_C 2 v0 n → nn_C 10 v4 n → nn_C 6 v5 n → mm_Go (mm_run 3) mc_Cost_goAlong (nw_V n R) (83, [(0, .inr (.inr v0)), (2, .inl v2), (3, .inl v3), (4, .inr (.inr v4)), (5, .inr (.inr v5)), (6, .inl v6)], [], M)
def nk_Cost_goAlong_103 (v0 : Nat) (v2 : Int) (v3 : Int) (v4 : Nat) (v5 : Nat) (v6 : Int) (v7 : Int) (M : mm_M) (R : mm_M → Prop) : Prop := ∀ n, nn_L M → M.1 = n → nn_C 2 v0 n → nn_C 10 v4 n → nn_C 6 v5 n → mm_Go (mm_run 3) mc_Cost_goAlong (nw_V n R) (103, [(0, .inr (.inr v0)), (2, .inl v2), (3, .inl v3), (4, .inr (.inr v4)), (5, .inr (.inr v5)), (6, .inl v6), (7, .inl v7)], [], M)
set_option maxRecDepth 20000 in
theorem ng_Cost_goAlong (v0 : Nat) (v1 : Nat) (v2 : Int) (v3 : Int) (v4 : Nat) (M : mm_M) (R : mm_M → Prop) (h : (∀ M2 : mm_M, M2 = nn_uf M v0 0 1 → (∀ M7 : mm_M, M7 = nn_uf M2 v0 1 0 → (∀ M12 : mm_M, M12 = nn_uf M7 v0 2 0 → (∀ M17 : mm_M, M17 = nn_uf M12 v0 3 0 → (∀ M22 : mm_M, M22 = nn_uf M17 v0 4 0 → (∀ M27 : mm_M, M27 = nn_uf M22 v0 5 0 → nk_Cost_goAlong_33 v0 v1 v2 v3 v4 0 M27 R))))))) : nr_Cost_goAlong v0 v1 v2 v3 v4 M R := by
  intro n L N C0 C1 C4
  have NN := nn_L_n L N
  show mm_Go (mm_run 3) mc_Cost_goAlong _ (0, [(0, .inr (.inr v0)), (1, .inr (.inr v1)), (2, .inl v2), (3, .inl v3), (4, .inr (.inr v4))], [], M)
  refine mm_s1 rfl ?_
  refine mm_s1 rfl ?_
  refine mm_s1 rfl ⟨⟨C0.1, (Or.inr rfl)⟩, ?_⟩
  show mm_Go (mm_run 3) mc_Cost_goAlong _ (5, [(0, .inr (.inr v0)), (1, .inr (.inr v1)), (2, .inl v2), (3, .inl v3), (4, .inr (.inr v4))], [], (nn_uf M v0 0 1))
  have L : nn_L (nn_uf M v0 0 1) := nn_L_up L C0.1 rfl
  have N : (nn_uf M v0 0 1).1 = n := N
  generalize e_M2 : (nn_uf M v0 0 1) = M2 at L N ⊢
  replace h := h _ e_M2.symm
  show mm_Go (mm_run 3) mc_Cost_goAlong _ (5, [(0, .inr (.inr v0)), (1, .inr (.inr v1)), (2, .inl v2), (3, .inl v3), (4, .inr (.inr v4))], [], M2)
  refine mm_s1 rfl ?_
  refine mm_s1 rfl ?_
  refine mm_s1 rfl ⟨C0.1, ?_⟩
  show mm_Go (mm_run 3) mc_Cost_goAlong _ (10, [(0, .inr (.inr v0)), (1, .inr (.inr v1)), (2, .inl v2), (3, .inl v3), (4, .inr (.inr v4))], [], (nn_uf M2 v0 1 0))
  have L : nn_L (nn_uf M2 v0 1 0) := nn_L_up L C0.1 rfl
  have N : (nn_uf M2 v0 1 0).1 = n := N
  generalize e_M7 : (nn_uf M2 v0 1 0) = M7 at L N ⊢
  replace h := h _ e_M7.symm
  show mm_Go (mm_run 3) mc_Cost_goAlong _ (10, [(0, .inr (.inr v0)), (1, .inr (.inr v1)), (2, .inl v2), (3, .inl v3), (4, .inr (.inr v4))], [], M7)
  refine mm_s1 rfl ?_
  refine mm_s1 rfl ?_
  refine mm_s1 rfl ⟨C0.1, ?_⟩
  show mm_Go (mm_run 3) mc_Cost_goAlong _ (15, [(0, .inr (.inr v0)), (1, .inr (.inr v1)), (2, .inl v2), (3, .inl v3), (4, .inr (.inr v4))], [], (nn_uf M7 v0 2 0))
  have L : nn_L (nn_uf M7 v0 2 0) := nn_L_up L C0.1 rfl
  have N : (nn_uf M7 v0 2 0).1 = n := N
  generalize e_M12 : (nn_uf M7 v0 2 0) = M12 at L N ⊢
  replace h := h _ e_M12.symm
  show mm_Go (mm_run 3) mc_Cost_goAlong _ (15, [(0, .inr (.inr v0)), (1, .inr (.inr v1)), (2, .inl v2), (3, .inl v3), (4, .inr (.inr v4))], [], M12)
  refine mm_s1 rfl ?_
  refine mm_s1 rfl ?_
  refine mm_s1 rfl ⟨C0.1, ?_⟩
  show mm_Go (mm_run 3) mc_Cost_goAlong _ (20, [(0, .inr (.inr v0)), (1, .inr (.inr v1)), (2, .inl v2), (3, .inl v3), (4, .inr (.inr v4))], [], (nn_uf M12 v0 3 0))
  have L : nn_L (nn_uf M12 v0 3 0) := nn_L_up L C0.1 rfl
  have N : (nn_uf M12 v0 3 0).1 = n := N
  generalize e_M17 : (nn_uf M12 v0 3 0) = M17 at L N ⊢
  replace h := h _ e_M17.symm
  show mm_Go (mm_run 3) mc_Cost_goAlong _ (20, [(0, .inr (.inr v0)), (1, .inr (.inr v1)), (2, .inl v2), (3, .inl v3), (4, .inr (.inr v4))], [], M17)
  refine mm_s1 rfl ?_
  refine mm_s1 rfl ?_
  refine mm_s1 rfl ⟨C0.1, ?_⟩
  show mm_Go (mm_run 3) mc_Cost_goAlong _ (25, [(0, .inr (.inr v0)), (1, .inr (.inr v1)), (2, .inl v2), (3, .inl v3), (4, .inr (.inr v4))], [], (nn_uf M17 v0 4 0))
  have L : nn_L (nn_uf M17 v0 4 0) := nn_L_up L C0.1 rfl
  have N : (nn_uf M17 v0 4 0).1 = n := N
  generalize e_M22 : (nn_uf M17 v0 4 0) = M22 at L N ⊢
  replace h := h _ e_M22.symm
  show mm_Go (mm_run 3) mc_Cost_goAlong _ (25, [(0, .inr (.inr v0)), (1, .inr (.inr v1)), (2, .inl v2), (3, .inl v3), (4, .inr (.inr v4))], [], M22)
  refine mm_s1 rfl ?_
  refine mm_s1 rfl ?_
  refine mm_s1 rfl ⟨C0.1, ?_⟩
  show mm_Go (mm_run 3) mc_Cost_goAlong _ (30, [(0, .inr (.inr v0)), (1, .inr (.inr v1)), (2, .inl v2), (3, .inl v3), (4, .inr (.inr v4))], [], (nn_uf M22 v0 5 0))
  have L : nn_L (nn_uf M22 v0 5 0) := nn_L_up L C0.1 rfl
  have N : (nn_uf M22 v0 5 0).1 = n := N
  generalize e_M27 : (nn_uf M22 v0 5 0) = M27 at L N ⊢
  replace h := h _ e_M27.symm
  show mm_Go (mm_run 3) mc_Cost_goAlong _ (30, [(0, .inr (.inr v0)), (1, .inr (.inr v1)), (2, .inl v2), (3, .inl v3), (4, .inr (.inr v4))], [], M27)
  refine mm_s1 rfl ?_
  refine mm_s1 rfl ?_
  show mm_Go (mm_run 3) mc_Cost_goAlong _ (33, [(0, .inr (.inr v0)), (1, .inr (.inr v1)), (2, .inl v2), (3, .inl v3), (4, .inr (.inr v4)), (5, .inl 0)], [], M27)
  exact nn_go_ext (nn_xc rfl (nn_xc rfl (nn_xc rfl (nn_xc rfl (nn_xc rfl (nn_xc rfl nn_xn)))))) (h n L N C0 C1 C4)
set_option maxRecDepth 20000 in
theorem ng_Cost_goAlong_33 (v0 : Nat) (v1 : Nat) (v2 : Int) (v3 : Int) (v4 : Nat) (v5 : Int) (M : mm_M) (R : mm_M → Prop) (h : (((nn_rf M (v1 + 4) 1) ≤ v5 → nk_Cost_goAlong_83 v0 v2 v3 v4 (v1 + 8) 0 M R) ∧ (v5 < (nn_rf M (v1 + 4) 1) → (((0 : Int) ≤ v5 ∧ v5 < ((mm_kd (v1 + 5)).2 : Int)) ∧ (nr_Cost_judge v0 (nn_ri M (v1 + 5) v5) v2 v3 v4 (nn_rf M v4 6) M (fun M65 => nk_Cost_goAlong_33 v0 v1 v2 v3 v4 (mm_w (v5 + 1)) M65 R)))))) : nk_Cost_goAlong_33 v0 v1 v2 v3 v4 v5 M R := by
  intro n L N C0 C1 C4
  have NN := nn_L_n L N
  show mm_Go (mm_run 3) mc_Cost_goAlong _ (33, [(0, .inr (.inr v0)), (1, .inr (.inr v1)), (2, .inl v2), (3, .inl v3), (4, .inr (.inr v4)), (5, .inl v5)], [], M)
  refine mm_s1 rfl ?_
  refine mm_s1 rfl ?_
  refine nn_getr rfl C1.1 (lf_5_1 L N C1) ?_
  refine mm_s1 rfl ⟨(nc_5_1 NN C1).1, ?_⟩
  show mm_Go (mm_run 3) mc_Cost_goAlong _ (42, [(0, .inr (.inr v0)), (1, .inr (.inr v1)), (2, .inl v2), (3, .inl v3), (4, .inr (.inr v4)), (5, .inl v5)], [.inl (nn_rf M (v1 + 4) 1), .inl v5], M)
  refine mm_s1 rfl ⟨fun c42 => ?_, fun c42 => ?_⟩
  · show mm_Go (mm_run 3) mc_Cost_goAlong _ (74, [(0, .inr (.inr v0)), (1, .inr (.inr v1)), (2, .inl v2), (3, .inl v3), (4, .inr (.inr v4)), (5, .inl v5)], [], M)
    replace h := h.1 c42
    refine mm_s1 rfl ?_
    refine nn_getr rfl C1.1 (lf_5_3 L N C1) ?_
    refine mm_s1 rfl ?_
    show mm_Go (mm_run 3) mc_Cost_goAlong _ (80, [(0, .inr (.inr v0)), (1, .inr (.inr v1)), (2, .inl v2), (3, .inl v3), (4, .inr (.inr v4)), (5, .inr (.inr (v1 + 8)))], [], M)
    refine mm_s1 rfl ?_
    refine mm_s1 rfl ?_
    show mm_Go (mm_run 3) mc_Cost_goAlong _ (83, [(0, .inr (.inr v0)), (1, .inr (.inr v1)), (2, .inl v2), (3, .inl v3), (4, .inr (.inr v4)), (5, .inr (.inr (v1 + 8))), (6, .inl 0)], [], M)
    exact nn_go_ext (nn_xc rfl (nn_xc rfl (nn_xc rfl (nn_xc rfl (nn_xc rfl (nn_xc rfl nn_xn)))))) (h n L N C0 C4 (nc_5_3 NN C1))
  · show mm_Go (mm_run 3) mc_Cost_goAlong _ (45, [(0, .inr (.inr v0)), (1, .inr (.inr v1)), (2, .inl v2), (3, .inl v3), (4, .inr (.inr v4)), (5, .inl v5)], [], M)
    replace c42 := Int.not_le.mp c42
    replace h := h.2 c42
    refine mm_s1 rfl ?_
    refine mm_s1 rfl ?_
    refine nn_getr rfl C1.1 (lf_5_1 L N C1) ?_
    refine nn_getr rfl (nc_5_1 NN C1).1 (lf_4_0 L N (nc_5_1 NN C1)) ?_
    refine mm_s1 rfl ?_
    show mm_Go (mm_run 3) mc_Cost_goAlong _ (55, [(0, .inr (.inr v0)), (1, .inr (.inr v1)), (2, .inl v2), (3, .inl v3), (4, .inr (.inr v4)), (5, .inl v5)], [.inl v5, .inr (.inr (v1 + 5)), .inr (.inr v0)], M)
    obtain ⟨b55, h⟩ := h
    refine mm_s1 rfl ⟨⟨(nc_4_0 NN (nc_5_1 NN C1)).1, b55⟩, ?_⟩
    show mm_Go (mm_run 3) mc_Cost_goAlong _ (56, [(0, .inr (.inr v0)), (1, .inr (.inr v1)), (2, .inl v2), (3, .inl v3), (4, .inr (.inr v4)), (5, .inl v5)], [.inr (.inl (nn_ri M (v1 + 5) v5)), .inr (.inr v0)], M)
    refine mm_s1 rfl ?_
    refine mm_s1 rfl ?_
    refine mm_s1 rfl ?_
    refine mm_s1 rfl ?_
    refine mm_s1 rfl ⟨C4.1, ?_⟩
    show mm_Go (mm_run 3) mc_Cost_goAlong _ (65, [(0, .inr (.inr v0)), (1, .inr (.inr v1)), (2, .inl v2), (3, .inl v3), (4, .inr (.inr v4)), (5, .inl v5)], [.inl (nn_rf M v4 6), .inr (.inr v4), .inl v3, .inl v2, .inr (.inl (nn_ri M (v1 + 5) v5)), .inr (.inr v0)], M)
    refine mm_s1 rfl ⟨C0.1, ?_⟩
    refine nn_call (D := 3) (by decide) (h n L N C0 C4) ?_
    intro v M65 q; clear L N h
    obtain ⟨rfl, L, N, h⟩ := q
    show mm_Go (mm_run 3) mc_Cost_goAlong _ (68, [(0, .inr (.inr v0)), (1, .inr (.inr v1)), (2, .inl v2), (3, .inl v3), (4, .inr (.inr v4)), (5, .inl v5)], [], M65)
    refine mm_s1 rfl ?_
    show mm_Go (mm_run 3) mc_Cost_goAlong _ (71, [(0, .inr (.inr v0)), (1, .inr (.inr v1)), (2, .inl v2), (3, .inl v3), (4, .inr (.inr v4)), (5, .inl (mm_w (v5 + 1)))], [], M65)
    refine mm_s1 rfl ?_
    show mm_Go (mm_run 3) mc_Cost_goAlong _ (33, [(0, .inr (.inr v0)), (1, .inr (.inr v1)), (2, .inl v2), (3, .inl v3), (4, .inr (.inr v4)), (5, .inl (mm_w (v5 + 1)))], [], M65)
    exact nn_go_ext (nn_xc rfl (nn_xc rfl (nn_xc rfl (nn_xc rfl (nn_xc rfl (nn_xc rfl nn_xn)))))) (h n L N C0 C1 C4)
set_option maxRecDepth 20000 in
theorem ng_Cost_goAlong_83 (v0 : Nat) (v2 : Int) (v3 : Int) (v4 : Nat) (v5 : Nat) (v6 : Int) (M : mm_M) (R : mm_M → Prop) (h : (((nn_rf M v5 5) ≤ v6 → R M) ∧ (v6 < (nn_rf M v5 5) → (((0 : Int) ≤ v6 ∧ v6 < (25 : Int)) ∧ nk_Cost_goAlong_103 v0 v2 v3 v4 v5 v6 (nn_ri M (v5 + 2) v6) M R)))) : nk_Cost_goAlong_83 v0 v2 v3 v4 v5 v6 M R := by
  intro n L N C0 C4 C5
  have NN := nn_L_n L N
  show mm_Go (mm_run 3) mc_Cost_goAlong _ (83, [(0, .inr (.inr v0)), (2, .inl v2), (3, .inl v3), (4, .inr (.inr v4)), (5, .inr (.inr v5)), (6, .inl v6)], [], M)
  refine mm_s1 rfl ?_
  refine mm_s1 rfl ?_
  refine mm_s1 rfl ⟨C5.1, ?_⟩
  show mm_Go (mm_run 3) mc_Cost_goAlong _ (90, [(0, .inr (.inr v0)), (2, .inl v2), (3, .inl v3), (4, .inr (.inr v4)), (5, .inr (.inr v5)), (6, .inl v6)], [.inl (nn_rf M v5 5), .inl v6], M)
  refine mm_s1 rfl ⟨fun c90 => ?_, fun c90 => ?_⟩
  · show mm_Go (mm_run 3) mc_Cost_goAlong _ (154, [(0, .inr (.inr v0)), (2, .inl v2), (3, .inl v3), (4, .inr (.inr v4)), (5, .inr (.inr v5)), (6, .inl v6)], [], M)
    replace h := h.1 c90
    exact mm_s1 rfl ⟨rfl, L, N, h⟩
  · show mm_Go (mm_run 3) mc_Cost_goAlong _ (93, [(0, .inr (.inr v0)), (2, .inl v2), (3, .inl v3), (4, .inr (.inr v4)), (5, .inr (.inr v5)), (6, .inl v6)], [], M)
    replace c90 := Int.not_le.mp c90
    replace h := h.2 c90
    refine mm_s1 rfl ?_
    refine nn_getr rfl C5.1 (lf_6_1 L N C5) ?_
    refine mm_s1 rfl ?_
    obtain ⟨b100, h⟩ := h
    refine mm_s1 rfl ⟨nn_bd (na_6_1 NN C5) b100, ?_⟩
    show mm_Go (mm_run 3) mc_Cost_goAlong _ (101, [(0, .inr (.inr v0)), (2, .inl v2), (3, .inl v3), (4, .inr (.inr v4)), (5, .inr (.inr v5)), (6, .inl v6)], [.inl (nn_ri M (v5 + 2) v6)], M)
    refine mm_s1 rfl ?_
    show mm_Go (mm_run 3) mc_Cost_goAlong _ (103, [(0, .inr (.inr v0)), (2, .inl v2), (3, .inl v3), (4, .inr (.inr v4)), (5, .inr (.inr v5)), (6, .inl v6), (7, .inl (nn_ri M (v5 + 2) v6))], [], M)
    exact nn_go_ext (nn_xc rfl (nn_xc rfl (nn_xc rfl (nn_xc rfl (nn_xc rfl (nn_xc rfl (nn_xc rfl nn_xn))))))) (h n L N C0 C4 C5)
set_option maxRecDepth 20000 in
theorem ng_Cost_goAlong_103 (v0 : Nat) (v2 : Int) (v3 : Int) (v4 : Nat) (v5 : Nat) (v6 : Int) (v7 : Int) (M : mm_M) (R : mm_M → Prop) (h : (((0 : Int) ≤ (mm_w (v6 + 1)) ∧ (mm_w (v6 + 1)) < (25 : Int)) ∧ (((nn_ri M (v5 + 2) (mm_w (v6 + 1))) ≤ v7 → nk_Cost_goAlong_83 v0 v2 v3 v4 v5 (mm_w (v6 + 1)) M R) ∧ (v7 < (nn_ri M (v5 + 2) (mm_w (v6 + 1))) → (((0 : Int) ≤ v7 ∧ v7 < (144 : Int)) ∧ (((0 : Int) ≤ v6 ∧ v6 < (24 : Int)) ∧ (nr_Cost_judge v0 (nn_ri M (v5 + 1) v7) v2 v3 v4 (nn_ri M (v5 + 4) v6) M (fun M139 => nk_Cost_goAlong_103 v0 v2 v3 v4 v5 v6 (mm_w (v7 + 1)) M139 R)))))))) : nk_Cost_goAlong_103 v0 v2 v3 v4 v5 v6 v7 M R := by
  intro n L N C0 C4 C5
  have NN := nn_L_n L N
  show mm_Go (mm_run 3) mc_Cost_goAlong _ (103, [(0, .inr (.inr v0)), (2, .inl v2), (3, .inl v3), (4, .inr (.inr v4)), (5, .inr (.inr v5)), (6, .inl v6), (7, .inl v7)], [], M)
  refine mm_s1 rfl ?_
  refine mm_s1 rfl ?_
  refine nn_getr rfl C5.1 (lf_6_1 L N C5) ?_
  refine mm_s1 rfl ?_
  refine mm_s1 rfl ?_
  show mm_Go (mm_run 3) mc_Cost_goAlong _ (113, [(0, .inr (.inr v0)), (2, .inl v2), (3, .inl v3), (4, .inr (.inr v4)), (5, .inr (.inr v5)), (6, .inl v6), (7, .inl v7)], [.inl 1, .inl v6, .inr (.inr (v5 + 2)), .inl v7], M)
  refine mm_s1 rfl ?_
  obtain ⟨b114, h⟩ := h
  refine mm_s1 rfl ⟨nn_bd (na_6_1 NN C5) b114, ?_⟩
  show mm_Go (mm_run 3) mc_Cost_goAlong _ (115, [(0, .inr (.inr v0)), (2, .inl v2), (3, .inl v3), (4, .inr (.inr v4)), (5, .inr (.inr v5)), (6, .inl v6), (7, .inl v7)], [.inl (nn_ri M (v5 + 2) (mm_w (v6 + 1))), .inl v7], M)
  refine mm_s1 rfl ⟨fun c115 => ?_, fun c115 => ?_⟩
  · show mm_Go (mm_run 3) mc_Cost_goAlong _ (148, [(0, .inr (.inr v0)), (2, .inl v2), (3, .inl v3), (4, .inr (.inr v4)), (5, .inr (.inr v5)), (6, .inl v6), (7, .inl v7)], [], M)
    replace h := h.1 c115
    refine mm_s1 rfl ?_
    show mm_Go (mm_run 3) mc_Cost_goAlong _ (151, [(0, .inr (.inr v0)), (2, .inl v2), (3, .inl v3), (4, .inr (.inr v4)), (5, .inr (.inr v5)), (6, .inl (mm_w (v6 + 1))), (7, .inl v7)], [], M)
    refine mm_s1 rfl ?_
    show mm_Go (mm_run 3) mc_Cost_goAlong _ (83, [(0, .inr (.inr v0)), (2, .inl v2), (3, .inl v3), (4, .inr (.inr v4)), (5, .inr (.inr v5)), (6, .inl (mm_w (v6 + 1))), (7, .inl v7)], [], M)
    exact nn_go_ext (nn_xc rfl (nn_xc rfl (nn_xc rfl (nn_xc rfl (nn_xc rfl (nn_xc rfl nn_xn)))))) (h n L N C0 C4 C5)
  · show mm_Go (mm_run 3) mc_Cost_goAlong _ (118, [(0, .inr (.inr v0)), (2, .inl v2), (3, .inl v3), (4, .inr (.inr v4)), (5, .inr (.inr v5)), (6, .inl v6), (7, .inl v7)], [], M)
    replace c115 := Int.not_le.mp c115
    replace h := h.2 c115
    refine mm_s1 rfl ?_
    refine mm_s1 rfl ?_
    refine nn_getr rfl C5.1 (lf_6_0 L N C5) ?_
    refine mm_s1 rfl ?_
    obtain ⟨b126, h⟩ := h
    refine mm_s1 rfl ⟨nn_bd (na_6_0 NN C5) b126, ?_⟩
    show mm_Go (mm_run 3) mc_Cost_goAlong _ (127, [(0, .inr (.inr v0)), (2, .inl v2), (3, .inl v3), (4, .inr (.inr v4)), (5, .inr (.inr v5)), (6, .inl v6), (7, .inl v7)], [.inr (.inl (nn_ri M (v5 + 1) v7)), .inr (.inr v0)], M)
    refine mm_s1 rfl ?_
    refine mm_s1 rfl ?_
    refine mm_s1 rfl ?_
    refine mm_s1 rfl ?_
    refine nn_getr rfl C5.1 (lf_6_3 L N C5) ?_
    show mm_Go (mm_run 3) mc_Cost_goAlong _ (136, [(0, .inr (.inr v0)), (2, .inl v2), (3, .inl v3), (4, .inr (.inr v4)), (5, .inr (.inr v5)), (6, .inl v6), (7, .inl v7)], [.inr (.inr (v5 + 4)), .inr (.inr v4), .inl v3, .inl v2, .inr (.inl (nn_ri M (v5 + 1) v7)), .inr (.inr v0)], M)
    refine mm_s1 rfl ?_
    obtain ⟨b138, h⟩ := h
    refine mm_s1 rfl ⟨nn_bd (na_6_3 NN C5) b138, ?_⟩
    show mm_Go (mm_run 3) mc_Cost_goAlong _ (139, [(0, .inr (.inr v0)), (2, .inl v2), (3, .inl v3), (4, .inr (.inr v4)), (5, .inr (.inr v5)), (6, .inl v6), (7, .inl v7)], [.inl (nn_ri M (v5 + 4) v6), .inr (.inr v4), .inl v3, .inl v2, .inr (.inl (nn_ri M (v5 + 1) v7)), .inr (.inr v0)], M)
    refine mm_s1 rfl ⟨C0.1, ?_⟩
    refine nn_call (D := 3) (by decide) (h n L N C0 C4) ?_
    intro v M139 q; clear L N h
    obtain ⟨rfl, L, N, h⟩ := q
    show mm_Go (mm_run 3) mc_Cost_goAlong _ (142, [(0, .inr (.inr v0)), (2, .inl v2), (3, .inl v3), (4, .inr (.inr v4)), (5, .inr (.inr v5)), (6, .inl v6), (7, .inl v7)], [], M139)
    refine mm_s1 rfl ?_
    show mm_Go (mm_run 3) mc_Cost_goAlong _ (145, [(0, .inr (.inr v0)), (2, .inl v2), (3, .inl v3), (4, .inr (.inr v4)), (5, .inr (.inr v5)), (6, .inl v6), (7, .inl (mm_w (v7 + 1)))], [], M139)
    refine mm_s1 rfl ?_
    show mm_Go (mm_run 3) mc_Cost_goAlong _ (103, [(0, .inr (.inr v0)), (2, .inl v2), (3, .inl v3), (4, .inr (.inr v4)), (5, .inr (.inr v5)), (6, .inl v6), (7, .inl (mm_w (v7 + 1)))], [], M139)
    exact nn_go_ext (nn_xc rfl (nn_xc rfl (nn_xc rfl (nn_xc rfl (nn_xc rfl (nn_xc rfl (nn_xc rfl nn_xn))))))) (h n L N C0 C4 C5)
def nr_Index_begin (v0 : Nat) (v1 : Nat) (M : mm_M) (R : mm_M → Prop) : Prop := ∀ n, nn_L M → M.1 = n → nn_C 5 v0 n → nn_C 10 v1 n → mm_run 4 mi_Index_begin [.inr (.inr v0), .inr (.inr v1)] M (nw_V n R)
def nk_Index_begin_68 (v0 : Nat) (v1 : Nat) (v2 : Int) (M : mm_M) (R : mm_M → Prop) : Prop := ∀ n, nn_L M → M.1 = n → nn_C 5 v0 n → nn_C 10 v1 n → mm_Go (mm_run 3) mc_Index_begin (nw_V n R) (68, [(0, .inr (.inr v0)), (1, .inr (.inr v1)), (2, .inl v2)], [], M)
set_option maxRecDepth 20000 in
theorem ng_Index_begin (v0 : Nat) (v1 : Nat) (M : mm_M) (R : mm_M → Prop) (h : (((nn_rf M v1 6) ≠ 0 → (∀ M13 : mm_M, M13 = nn_uf M v0 5 1 → (∀ M21 : mm_M, M21 = nn_uf M13 v0 8 (nn_rf M13 v1 6) → (((nn_rf M21 v0 5) ≠ 2 → (∀ M39 : mm_M, M39 = nn_uf M21 v0 9 0 → (∀ M47 : mm_M, M47 = nn_uf M39 (v0 + 4) 1 0 → (∀ M55 : mm_M, M55 = nn_uf M47 (v0 + 6) 1 0 → (∀ M63 : mm_M, M63 = nn_uf M55 (v0 + 8) 5 0 → nk_Index_begin_68 v0 v1 0 M63 R))))) ∧ ((nn_rf M21 v0 5) = 2 → (∀ M39 : mm_M, M39 = nn_uf M21 v0 9 32 → (∀ M47 : mm_M, M47 = nn_uf M39 (v0 + 4) 1 0 → (∀ M55 : mm_M, M55 = nn_uf M47 (v0 + 6) 1 0 → (∀ M63 : mm_M, M63 = nn_uf M55 (v0 + 8) 5 0 → nk_Index_begin_68 v0 v1 0 M63 R))))))))) ∧ ((nn_rf M v1 6) = 0 → (∀ M13 : mm_M, M13 = nn_uf M v0 5 2 → (∀ M21 : mm_M, M21 = nn_uf M13 v0 8 (nn_rf M13 v1 6) → (((nn_rf M21 v0 5) ≠ 2 → (∀ M39 : mm_M, M39 = nn_uf M21 v0 9 0 → (∀ M47 : mm_M, M47 = nn_uf M39 (v0 + 4) 1 0 → (∀ M55 : mm_M, M55 = nn_uf M47 (v0 + 6) 1 0 → (∀ M63 : mm_M, M63 = nn_uf M55 (v0 + 8) 5 0 → nk_Index_begin_68 v0 v1 0 M63 R))))) ∧ ((nn_rf M21 v0 5) = 2 → (∀ M39 : mm_M, M39 = nn_uf M21 v0 9 32 → (∀ M47 : mm_M, M47 = nn_uf M39 (v0 + 4) 1 0 → (∀ M55 : mm_M, M55 = nn_uf M47 (v0 + 6) 1 0 → (∀ M63 : mm_M, M63 = nn_uf M55 (v0 + 8) 5 0 → nk_Index_begin_68 v0 v1 0 M63 R))))))))))) : nr_Index_begin v0 v1 M R := by
  intro n L N C0 C1
  have NN := nn_L_n L N
  show mm_Go (mm_run 3) mc_Index_begin _ (0, [(0, .inr (.inr v0)), (1, .inr (.inr v1))], [], M)
  refine mm_s1 rfl ?_
  refine mm_s1 rfl ?_
  refine mm_s1 rfl ⟨C1.1, ?_⟩
  show mm_Go (mm_run 3) mc_Index_begin _ (5, [(0, .inr (.inr v0)), (1, .inr (.inr v1))], [.inl (nn_rf M v1 6), .inr (.inr v0)], M)
  refine mm_s1 rfl ⟨fun c5 => ?_, fun c5 => ?_⟩
  · show mm_Go (mm_run 3) mc_Index_begin _ (12, [(0, .inr (.inr v0)), (1, .inr (.inr v1))], [.inr (.inr v0)], M)
    replace h := h.1 c5
    refine mm_s1 rfl ?_
    refine mm_s1 rfl ⟨C0.1, ?_⟩
    show mm_Go (mm_run 3) mc_Index_begin _ (16, [(0, .inr (.inr v0)), (1, .inr (.inr v1))], [], (nn_uf M v0 5 1))
    have L : nn_L (nn_uf M v0 5 1) := nn_L_up L C0.1 rfl
    have N : (nn_uf M v0 5 1).1 = n := N
    generalize e_M13 : (nn_uf M v0 5 1) = M13 at L N ⊢
    replace h := h _ e_M13.symm
    show mm_Go (mm_run 3) mc_Index_begin _ (16, [(0, .inr (.inr v0)), (1, .inr (.inr v1))], [], M13)
    refine mm_s1 rfl ?_
    refine mm_s1 rfl ?_
    refine mm_s1 rfl ⟨C1.1, ?_⟩
    show mm_Go (mm_run 3) mc_Index_begin _ (21, [(0, .inr (.inr v0)), (1, .inr (.inr v1))], [.inl (nn_rf M13 v1 6), .inr (.inr v0)], M13)
    refine mm_s1 rfl ⟨C0.1, ?_⟩
    show mm_Go (mm_run 3) mc_Index_begin _ (24, [(0, .inr (.inr v0)), (1, .inr (.inr v1))], [], (nn_uf M13 v0 8 (nn_rf M13 v1 6)))
    have L : nn_L (nn_uf M13 v0 8 (nn_rf M13 v1 6)) := nn_L_up L C0.1 rfl
    have N : (nn_uf M13 v0 8 (nn_rf M13 v1 6)).1 = n := N
    generalize e_M21 : (nn_uf M13 v0 8 (nn_rf M13 v1 6)) = M21 at L N ⊢
    replace h := h _ e_M21.symm
    show mm_Go (mm_run 3) mc_Index_begin _ (24, [(0, .inr (.inr v0)), (1, .inr (.inr v1))], [], M21)
    refine mm_s1 rfl ?_
    refine mm_s1 rfl ?_
    refine mm_s1 rfl ⟨C0.1, ?_⟩
    show mm_Go (mm_run 3) mc_Index_begin _ (29, [(0, .inr (.inr v0)), (1, .inr (.inr v1))], [.inl (nn_rf M21 v0 5), .inr (.inr v0)], M21)
    refine mm_s1 rfl ?_
    refine mm_s1 rfl ⟨fun c30 => ?_, fun c30 => ?_⟩
    · show mm_Go (mm_run 3) mc_Index_begin _ (38, [(0, .inr (.inr v0)), (1, .inr (.inr v1))], [.inr (.inr v0)], M21)
      replace h := h.1 c30
      refine mm_s1 rfl ?_
      refine mm_s1 rfl ⟨C0.1, ?_⟩
      show mm_Go (mm_run 3) mc_Index_begin _ (42, [(0, .inr (.inr v0)), (1, .inr (.inr v1))], [], (nn_uf M21 v0 9 0))
      have L : nn_L (nn_uf M21 v0 9 0) := nn_L_up L C0.1 rfl
      have N : (nn_uf M21 v0 9 0).1 = n := N
      generalize e_M39 : (nn_uf M21 v0 9 0) = M39 at L N ⊢
      replace h := h _ e_M39.symm
      show mm_Go (mm_run 3) mc_Index_begin _ (42, [(0, .inr (.inr v0)), (1, .inr (.inr v1))], [], M39)
      refine mm_s1 rfl ?_
      refine nn_getr rfl C0.1 (lf_5_1 L N C0) ?_
      refine mm_s1 rfl ?_
      refine mm_s1 rfl ⟨(nc_5_1 NN C0).1, ?_⟩
      show mm_Go (mm_run 3) mc_Index_begin _ (50, [(0, .inr (.inr v0)), (1, .inr (.inr v1))], [], (nn_uf M39 (v0 + 4) 1 0))
      have L : nn_L (nn_uf M39 (v0 + 4) 1 0) := nn_L_up L (nc_5_1 NN C0).1 rfl
      have N : (nn_uf M39 (v0 + 4) 1 0).1 = n := N
      generalize e_M47 : (nn_uf M39 (v0 + 4) 1 0) = M47 at L N ⊢
      replace h := h _ e_M47.symm
      show mm_Go (mm_run 3) mc_Index_begin _ (50, [(0, .inr (.inr v0)), (1, .inr (.inr v1))], [], M47)
      refine mm_s1 rfl ?_
      refine nn_getr rfl C0.1 (lf_5_2 L N C0) ?_
      refine mm_s1 rfl ?_
      refine mm_s1 rfl ⟨(nc_5_2 NN C0).1, ?_⟩
      show mm_Go (mm_run 3) mc_Index_begin _ (58, [(0, .inr (.inr v0)), (1, .inr (.inr v1))], [], (nn_uf M47 (v0 + 6) 1 0))
      have L : nn_L (nn_uf M47 (v0 + 6) 1 0) := nn_L_up L (nc_5_2 NN C0).1 rfl
      have N : (nn_uf M47 (v0 + 6) 1 0).1 = n := N
      generalize e_M55 : (nn_uf M47 (v0 + 6) 1 0) = M55 at L N ⊢
      replace h := h _ e_M55.symm
      show mm_Go (mm_run 3) mc_Index_begin _ (58, [(0, .inr (.inr v0)), (1, .inr (.inr v1))], [], M55)
      refine mm_s1 rfl ?_
      refine nn_getr rfl C0.1 (lf_5_3 L N C0) ?_
      refine mm_s1 rfl ?_
      refine mm_s1 rfl ⟨(nc_5_3 NN C0).1, ?_⟩
      show mm_Go (mm_run 3) mc_Index_begin _ (66, [(0, .inr (.inr v0)), (1, .inr (.inr v1))], [], (nn_uf M55 (v0 + 8) 5 0))
      have L : nn_L (nn_uf M55 (v0 + 8) 5 0) := nn_L_up L (nc_5_3 NN C0).1 rfl
      have N : (nn_uf M55 (v0 + 8) 5 0).1 = n := N
      generalize e_M63 : (nn_uf M55 (v0 + 8) 5 0) = M63 at L N ⊢
      replace h := h _ e_M63.symm
      show mm_Go (mm_run 3) mc_Index_begin _ (66, [(0, .inr (.inr v0)), (1, .inr (.inr v1))], [], M63)
      refine mm_s1 rfl ?_
      refine mm_s1 rfl ?_
      show mm_Go (mm_run 3) mc_Index_begin _ (68, [(0, .inr (.inr v0)), (1, .inr (.inr v1)), (2, .inl 0)], [], M63)
      exact nn_go_ext (nn_xc rfl (nn_xc rfl (nn_xc rfl nn_xn))) (h n L N C0 C1)
    · show mm_Go (mm_run 3) mc_Index_begin _ (33, [(0, .inr (.inr v0)), (1, .inr (.inr v1))], [.inr (.inr v0)], M21)
      replace c30 := Decidable.not_not.mp c30
      replace h := h.2 c30
      refine mm_s1 rfl ?_
      refine mm_s1 rfl ?_
      show mm_Go (mm_run 3) mc_Index_begin _ (39, [(0, .inr (.inr v0)), (1, .inr (.inr v1))], [.inl 32, .inr (.inr v0)], M21)
      refine mm_s1 rfl ⟨C0.1, ?_⟩
      show mm_Go (mm_run 3) mc_Index_begin _ (42, [(0, .inr (.inr v0)), (1, .inr (.inr v1))], [], (nn_uf M21 v0 9 32))
      have L : nn_L (nn_uf M21 v0 9 32) := nn_L_up L C0.1 rfl
      have N : (nn_uf M21 v0 9 32).1 = n := N
      generalize e_M39 : (nn_uf M21 v0 9 32) = M39 at L N ⊢
      replace h := h _ e_M39.symm
      show mm_Go (mm_run 3) mc_Index_begin _ (42, [(0, .inr (.inr v0)), (1, .inr (.inr v1))], [], M39)
      refine mm_s1 rfl ?_
      refine nn_getr rfl C0.1 (lf_5_1 L N C0) ?_
      refine mm_s1 rfl ?_
      refine mm_s1 rfl ⟨(nc_5_1 NN C0).1, ?_⟩
      show mm_Go (mm_run 3) mc_Index_begin _ (50, [(0, .inr (.inr v0)), (1, .inr (.inr v1))], [], (nn_uf M39 (v0 + 4) 1 0))
      have L : nn_L (nn_uf M39 (v0 + 4) 1 0) := nn_L_up L (nc_5_1 NN C0).1 rfl
      have N : (nn_uf M39 (v0 + 4) 1 0).1 = n := N
      generalize e_M47 : (nn_uf M39 (v0 + 4) 1 0) = M47 at L N ⊢
      replace h := h _ e_M47.symm
      show mm_Go (mm_run 3) mc_Index_begin _ (50, [(0, .inr (.inr v0)), (1, .inr (.inr v1))], [], M47)
      refine mm_s1 rfl ?_
      refine nn_getr rfl C0.1 (lf_5_2 L N C0) ?_
      refine mm_s1 rfl ?_
      refine mm_s1 rfl ⟨(nc_5_2 NN C0).1, ?_⟩
      show mm_Go (mm_run 3) mc_Index_begin _ (58, [(0, .inr (.inr v0)), (1, .inr (.inr v1))], [], (nn_uf M47 (v0 + 6) 1 0))
      have L : nn_L (nn_uf M47 (v0 + 6) 1 0) := nn_L_up L (nc_5_2 NN C0).1 rfl
      have N : (nn_uf M47 (v0 + 6) 1 0).1 = n := N
      generalize e_M55 : (nn_uf M47 (v0 + 6) 1 0) = M55 at L N ⊢
      replace h := h _ e_M55.symm
      show mm_Go (mm_run 3) mc_Index_begin _ (58, [(0, .inr (.inr v0)), (1, .inr (.inr v1))], [], M55)
      refine mm_s1 rfl ?_
      refine nn_getr rfl C0.1 (lf_5_3 L N C0) ?_
      refine mm_s1 rfl ?_
      refine mm_s1 rfl ⟨(nc_5_3 NN C0).1, ?_⟩
      show mm_Go (mm_run 3) mc_Index_begin _ (66, [(0, .inr (.inr v0)), (1, .inr (.inr v1))], [], (nn_uf M55 (v0 + 8) 5 0))
      have L : nn_L (nn_uf M55 (v0 + 8) 5 0) := nn_L_up L (nc_5_3 NN C0).1 rfl
      have N : (nn_uf M55 (v0 + 8) 5 0).1 = n := N
      generalize e_M63 : (nn_uf M55 (v0 + 8) 5 0) = M63 at L N ⊢
      replace h := h _ e_M63.symm
      show mm_Go (mm_run 3) mc_Index_begin _ (66, [(0, .inr (.inr v0)), (1, .inr (.inr v1))], [], M63)
      refine mm_s1 rfl ?_
      refine mm_s1 rfl ?_
      show mm_Go (mm_run 3) mc_Index_begin _ (68, [(0, .inr (.inr v0)), (1, .inr (.inr v1)), (2, .inl 0)], [], M63)
      exact nn_go_ext (nn_xc rfl (nn_xc rfl (nn_xc rfl nn_xn))) (h n L N C0 C1)
  · show mm_Go (mm_run 3) mc_Index_begin _ (8, [(0, .inr (.inr v0)), (1, .inr (.inr v1))], [.inr (.inr v0)], M)
    replace c5 := Decidable.not_not.mp c5
    replace h := h.2 c5
    refine mm_s1 rfl ?_
    refine mm_s1 rfl ?_
    show mm_Go (mm_run 3) mc_Index_begin _ (13, [(0, .inr (.inr v0)), (1, .inr (.inr v1))], [.inl 2, .inr (.inr v0)], M)
    refine mm_s1 rfl ⟨C0.1, ?_⟩
    show mm_Go (mm_run 3) mc_Index_begin _ (16, [(0, .inr (.inr v0)), (1, .inr (.inr v1))], [], (nn_uf M v0 5 2))
    have L : nn_L (nn_uf M v0 5 2) := nn_L_up L C0.1 rfl
    have N : (nn_uf M v0 5 2).1 = n := N
    generalize e_M13 : (nn_uf M v0 5 2) = M13 at L N ⊢
    replace h := h _ e_M13.symm
    show mm_Go (mm_run 3) mc_Index_begin _ (16, [(0, .inr (.inr v0)), (1, .inr (.inr v1))], [], M13)
    refine mm_s1 rfl ?_
    refine mm_s1 rfl ?_
    refine mm_s1 rfl ⟨C1.1, ?_⟩
    show mm_Go (mm_run 3) mc_Index_begin _ (21, [(0, .inr (.inr v0)), (1, .inr (.inr v1))], [.inl (nn_rf M13 v1 6), .inr (.inr v0)], M13)
    refine mm_s1 rfl ⟨C0.1, ?_⟩
    show mm_Go (mm_run 3) mc_Index_begin _ (24, [(0, .inr (.inr v0)), (1, .inr (.inr v1))], [], (nn_uf M13 v0 8 (nn_rf M13 v1 6)))
    have L : nn_L (nn_uf M13 v0 8 (nn_rf M13 v1 6)) := nn_L_up L C0.1 rfl
    have N : (nn_uf M13 v0 8 (nn_rf M13 v1 6)).1 = n := N
    generalize e_M21 : (nn_uf M13 v0 8 (nn_rf M13 v1 6)) = M21 at L N ⊢
    replace h := h _ e_M21.symm
    show mm_Go (mm_run 3) mc_Index_begin _ (24, [(0, .inr (.inr v0)), (1, .inr (.inr v1))], [], M21)
    refine mm_s1 rfl ?_
    refine mm_s1 rfl ?_
    refine mm_s1 rfl ⟨C0.1, ?_⟩
    show mm_Go (mm_run 3) mc_Index_begin _ (29, [(0, .inr (.inr v0)), (1, .inr (.inr v1))], [.inl (nn_rf M21 v0 5), .inr (.inr v0)], M21)
    refine mm_s1 rfl ?_
    refine mm_s1 rfl ⟨fun c30 => ?_, fun c30 => ?_⟩
    · show mm_Go (mm_run 3) mc_Index_begin _ (38, [(0, .inr (.inr v0)), (1, .inr (.inr v1))], [.inr (.inr v0)], M21)
      replace h := h.1 c30
      refine mm_s1 rfl ?_
      refine mm_s1 rfl ⟨C0.1, ?_⟩
      show mm_Go (mm_run 3) mc_Index_begin _ (42, [(0, .inr (.inr v0)), (1, .inr (.inr v1))], [], (nn_uf M21 v0 9 0))
      have L : nn_L (nn_uf M21 v0 9 0) := nn_L_up L C0.1 rfl
      have N : (nn_uf M21 v0 9 0).1 = n := N
      generalize e_M39 : (nn_uf M21 v0 9 0) = M39 at L N ⊢
      replace h := h _ e_M39.symm
      show mm_Go (mm_run 3) mc_Index_begin _ (42, [(0, .inr (.inr v0)), (1, .inr (.inr v1))], [], M39)
      refine mm_s1 rfl ?_
      refine nn_getr rfl C0.1 (lf_5_1 L N C0) ?_
      refine mm_s1 rfl ?_
      refine mm_s1 rfl ⟨(nc_5_1 NN C0).1, ?_⟩
      show mm_Go (mm_run 3) mc_Index_begin _ (50, [(0, .inr (.inr v0)), (1, .inr (.inr v1))], [], (nn_uf M39 (v0 + 4) 1 0))
      have L : nn_L (nn_uf M39 (v0 + 4) 1 0) := nn_L_up L (nc_5_1 NN C0).1 rfl
      have N : (nn_uf M39 (v0 + 4) 1 0).1 = n := N
      generalize e_M47 : (nn_uf M39 (v0 + 4) 1 0) = M47 at L N ⊢
      replace h := h _ e_M47.symm
      show mm_Go (mm_run 3) mc_Index_begin _ (50, [(0, .inr (.inr v0)), (1, .inr (.inr v1))], [], M47)
      refine mm_s1 rfl ?_
      refine nn_getr rfl C0.1 (lf_5_2 L N C0) ?_
      refine mm_s1 rfl ?_
      refine mm_s1 rfl ⟨(nc_5_2 NN C0).1, ?_⟩
      show mm_Go (mm_run 3) mc_Index_begin _ (58, [(0, .inr (.inr v0)), (1, .inr (.inr v1))], [], (nn_uf M47 (v0 + 6) 1 0))
      have L : nn_L (nn_uf M47 (v0 + 6) 1 0) := nn_L_up L (nc_5_2 NN C0).1 rfl
      have N : (nn_uf M47 (v0 + 6) 1 0).1 = n := N
      generalize e_M55 : (nn_uf M47 (v0 + 6) 1 0) = M55 at L N ⊢
      replace h := h _ e_M55.symm
      show mm_Go (mm_run 3) mc_Index_begin _ (58, [(0, .inr (.inr v0)), (1, .inr (.inr v1))], [], M55)
      refine mm_s1 rfl ?_
      refine nn_getr rfl C0.1 (lf_5_3 L N C0) ?_
      refine mm_s1 rfl ?_
      refine mm_s1 rfl ⟨(nc_5_3 NN C0).1, ?_⟩
      show mm_Go (mm_run 3) mc_Index_begin _ (66, [(0, .inr (.inr v0)), (1, .inr (.inr v1))], [], (nn_uf M55 (v0 + 8) 5 0))
      have L : nn_L (nn_uf M55 (v0 + 8) 5 0) := nn_L_up L (nc_5_3 NN C0).1 rfl
      have N : (nn_uf M55 (v0 + 8) 5 0).1 = n := N
      generalize e_M63 : (nn_uf M55 (v0 + 8) 5 0) = M63 at L N ⊢
      replace h := h _ e_M63.symm
      show mm_Go (mm_run 3) mc_Index_begin _ (66, [(0, .inr (.inr v0)), (1, .inr (.inr v1))], [], M63)
      refine mm_s1 rfl ?_
      refine mm_s1 rfl ?_
      show mm_Go (mm_run 3) mc_Index_begin _ (68, [(0, .inr (.inr v0)), (1, .inr (.inr v1)), (2, .inl 0)], [], M63)
      exact nn_go_ext (nn_xc rfl (nn_xc rfl (nn_xc rfl nn_xn))) (h n L N C0 C1)
    · show mm_Go (mm_run 3) mc_Index_begin _ (33, [(0, .inr (.inr v0)), (1, .inr (.inr v1))], [.inr (.inr v0)], M21)
      replace c30 := Decidable.not_not.mp c30
      replace h := h.2 c30
      refine mm_s1 rfl ?_
      refine mm_s1 rfl ?_
      show mm_Go (mm_run 3) mc_Index_begin _ (39, [(0, .inr (.inr v0)), (1, .inr (.inr v1))], [.inl 32, .inr (.inr v0)], M21)
      refine mm_s1 rfl ⟨C0.1, ?_⟩
      show mm_Go (mm_run 3) mc_Index_begin _ (42, [(0, .inr (.inr v0)), (1, .inr (.inr v1))], [], (nn_uf M21 v0 9 32))
      have L : nn_L (nn_uf M21 v0 9 32) := nn_L_up L C0.1 rfl
      have N : (nn_uf M21 v0 9 32).1 = n := N
      generalize e_M39 : (nn_uf M21 v0 9 32) = M39 at L N ⊢
      replace h := h _ e_M39.symm
      show mm_Go (mm_run 3) mc_Index_begin _ (42, [(0, .inr (.inr v0)), (1, .inr (.inr v1))], [], M39)
      refine mm_s1 rfl ?_
      refine nn_getr rfl C0.1 (lf_5_1 L N C0) ?_
      refine mm_s1 rfl ?_
      refine mm_s1 rfl ⟨(nc_5_1 NN C0).1, ?_⟩
      show mm_Go (mm_run 3) mc_Index_begin _ (50, [(0, .inr (.inr v0)), (1, .inr (.inr v1))], [], (nn_uf M39 (v0 + 4) 1 0))
      have L : nn_L (nn_uf M39 (v0 + 4) 1 0) := nn_L_up L (nc_5_1 NN C0).1 rfl
      have N : (nn_uf M39 (v0 + 4) 1 0).1 = n := N
      generalize e_M47 : (nn_uf M39 (v0 + 4) 1 0) = M47 at L N ⊢
      replace h := h _ e_M47.symm
      show mm_Go (mm_run 3) mc_Index_begin _ (50, [(0, .inr (.inr v0)), (1, .inr (.inr v1))], [], M47)
      refine mm_s1 rfl ?_
      refine nn_getr rfl C0.1 (lf_5_2 L N C0) ?_
      refine mm_s1 rfl ?_
      refine mm_s1 rfl ⟨(nc_5_2 NN C0).1, ?_⟩
      show mm_Go (mm_run 3) mc_Index_begin _ (58, [(0, .inr (.inr v0)), (1, .inr (.inr v1))], [], (nn_uf M47 (v0 + 6) 1 0))
      have L : nn_L (nn_uf M47 (v0 + 6) 1 0) := nn_L_up L (nc_5_2 NN C0).1 rfl
      have N : (nn_uf M47 (v0 + 6) 1 0).1 = n := N
      generalize e_M55 : (nn_uf M47 (v0 + 6) 1 0) = M55 at L N ⊢
      replace h := h _ e_M55.symm
      show mm_Go (mm_run 3) mc_Index_begin _ (58, [(0, .inr (.inr v0)), (1, .inr (.inr v1))], [], M55)
      refine mm_s1 rfl ?_
      refine nn_getr rfl C0.1 (lf_5_3 L N C0) ?_
      refine mm_s1 rfl ?_
      refine mm_s1 rfl ⟨(nc_5_3 NN C0).1, ?_⟩
      show mm_Go (mm_run 3) mc_Index_begin _ (66, [(0, .inr (.inr v0)), (1, .inr (.inr v1))], [], (nn_uf M55 (v0 + 8) 5 0))
      have L : nn_L (nn_uf M55 (v0 + 8) 5 0) := nn_L_up L (nc_5_3 NN C0).1 rfl
      have N : (nn_uf M55 (v0 + 8) 5 0).1 = n := N
      generalize e_M63 : (nn_uf M55 (v0 + 8) 5 0) = M63 at L N ⊢
      replace h := h _ e_M63.symm
      show mm_Go (mm_run 3) mc_Index_begin _ (66, [(0, .inr (.inr v0)), (1, .inr (.inr v1))], [], M63)
      refine mm_s1 rfl ?_
      refine mm_s1 rfl ?_
      show mm_Go (mm_run 3) mc_Index_begin _ (68, [(0, .inr (.inr v0)), (1, .inr (.inr v1)), (2, .inl 0)], [], M63)
      exact nn_go_ext (nn_xc rfl (nn_xc rfl (nn_xc rfl nn_xn))) (h n L N C0 C1)
set_option maxRecDepth 20000 in
theorem ng_Index_begin_68 (v0 : Nat) (v1 : Nat) (v2 : Int) (M : mm_M) (R : mm_M → Prop) (h : ((32 ≤ v2 → R M) ∧ (v2 < 32 → ((nc_Versions_isThere (v1 + 4) v2 M) ∧ (((nf_Versions_isThere (v1 + 4) v2 M) = 0 → (((0 : Int) ≤ v2 ∧ v2 < (32 : Int)) ∧ (∀ M110 : mm_M, M110 = nn_ui M (v0 + 14) v2 (-1) → nk_Index_begin_68 v0 v1 (mm_w (v2 + 1)) M110 R))) ∧ ((nf_Versions_isThere (v1 + 4) v2 M) ≠ 0 → (((0 : Int) ≤ v2 ∧ v2 < (32 : Int)) ∧ (nr_Rule_valueOf (v0 + 1) (nn_ri M (v1 + 5) v2) M (fun r103 M103 => (((0 : Int) ≤ v2 ∧ v2 < (32 : Int)) ∧ (∀ M110 : mm_M, M110 = nn_ui M103 (v0 + 14) v2 r103 → nk_Index_begin_68 v0 v1 (mm_w (v2 + 1)) M110 R))))))))))) : nk_Index_begin_68 v0 v1 v2 M R := by
  intro n L N C0 C1
  have NN := nn_L_n L N
  show mm_Go (mm_run 3) mc_Index_begin _ (68, [(0, .inr (.inr v0)), (1, .inr (.inr v1)), (2, .inl v2)], [], M)
  refine mm_s1 rfl ?_
  refine mm_s1 rfl ?_
  refine mm_s1 rfl ⟨fun c71 => ?_, fun c71 => ?_⟩
  · show mm_Go (mm_run 3) mc_Index_begin _ (117, [(0, .inr (.inr v0)), (1, .inr (.inr v1)), (2, .inl v2)], [], M)
    replace h := h.1 c71
    exact mm_s1 rfl ⟨rfl, L, N, h⟩
  · show mm_Go (mm_run 3) mc_Index_begin _ (74, [(0, .inr (.inr v0)), (1, .inr (.inr v1)), (2, .inl v2)], [], M)
    replace c71 := Int.not_le.mp c71
    replace h := h.2 c71
    refine mm_s1 rfl ?_
    refine nn_getr rfl C0.1 (lf_5_4 L N C0) ?_
    refine mm_s1 rfl ?_
    refine mm_s1 rfl ?_
    refine nn_getr rfl C1.1 (lf_10_1 L N C1) ?_
    show mm_Go (mm_run 3) mc_Index_begin _ (83, [(0, .inr (.inr v0)), (1, .inr (.inr v1)), (2, .inl v2)], [.inr (.inr (v1 + 4)), .inl v2, .inr (.inr (v0 + 14))], M)
    refine mm_s1 rfl ?_
    obtain ⟨b84, h⟩ := h
    refine mm_s1 rfl ⟨(nc_10_1 NN C1).1, ?_⟩
    refine np_Versions_isThere (by decide) L N (nc_10_1 NN C1) b84 ?_
    show mm_Go (mm_run 3) mc_Index_begin _ (87, [(0, .inr (.inr v0)), (1, .inr (.inr v1)), (2, .inl v2)], [.inl (nf_Versions_isThere (v1 + 4) v2 M), .inl v2, .inr (.inr (v0 + 14))], M)
    refine mm_s1 rfl ⟨fun c87 => ?_, fun c87 => ?_⟩
    · show mm_Go (mm_run 3) mc_Index_begin _ (109, [(0, .inr (.inr v0)), (1, .inr (.inr v1)), (2, .inl v2)], [.inl v2, .inr (.inr (v0 + 14))], M)
      replace h := h.1 c87
      refine mm_s1 rfl ?_
      obtain ⟨b110, h⟩ := h
      refine mm_s1 rfl ⟨nn_bd (na_5_4 NN C0) b110, ?_⟩
      show mm_Go (mm_run 3) mc_Index_begin _ (111, [(0, .inr (.inr v0)), (1, .inr (.inr v1)), (2, .inl v2)], [], (nn_ui M (v0 + 14) v2 (-1)))
      have L : nn_L (nn_ui M (v0 + 14) v2 (-1)) := nn_L_ua L (congrArg Prod.fst (na_5_4 NN C0)) (by decide)
      have N : (nn_ui M (v0 + 14) v2 (-1)).1 = n := N
      generalize e_M110 : (nn_ui M (v0 + 14) v2 (-1)) = M110 at L N ⊢
      replace h := h _ e_M110.symm
      show mm_Go (mm_run 3) mc_Index_begin _ (111, [(0, .inr (.inr v0)), (1, .inr (.inr v1)), (2, .inl v2)], [], M110)
      refine mm_s1 rfl ?_
      show mm_Go (mm_run 3) mc_Index_begin _ (114, [(0, .inr (.inr v0)), (1, .inr (.inr v1)), (2, .inl (mm_w (v2 + 1)))], [], M110)
      refine mm_s1 rfl ?_
      show mm_Go (mm_run 3) mc_Index_begin _ (68, [(0, .inr (.inr v0)), (1, .inr (.inr v1)), (2, .inl (mm_w (v2 + 1)))], [], M110)
      exact nn_go_ext (nn_xc rfl (nn_xc rfl (nn_xc rfl nn_xn))) (h n L N C0 C1)
    · show mm_Go (mm_run 3) mc_Index_begin _ (90, [(0, .inr (.inr v0)), (1, .inr (.inr v1)), (2, .inl v2)], [.inl v2, .inr (.inr (v0 + 14))], M)
      replace h := h.2 c87
      refine mm_s1 rfl ?_
      refine nn_getr rfl C0.1 (lf_5_0 L N C0) ?_
      refine mm_s1 rfl ?_
      refine nn_getr rfl C1.1 (lf_10_1 L N C1) ?_
      refine nn_getr rfl (nc_10_1 NN C1).1 (lf_12_0 L N (nc_10_1 NN C1)) ?_
      show mm_Go (mm_run 3) mc_Index_begin _ (101, [(0, .inr (.inr v0)), (1, .inr (.inr v1)), (2, .inl v2)], [.inr (.inr (v1 + 5)), .inr (.inr (v0 + 1)), .inl v2, .inr (.inr (v0 + 14))], M)
      refine mm_s1 rfl ?_
      obtain ⟨b102, h⟩ := h
      refine mm_s1 rfl ⟨nn_bd (na_12_0 NN (nc_10_1 NN C1)) b102, ?_⟩
      show mm_Go (mm_run 3) mc_Index_begin _ (103, [(0, .inr (.inr v0)), (1, .inr (.inr v1)), (2, .inl v2)], [.inl (nn_ri M (v1 + 5) v2), .inr (.inr (v0 + 1)), .inl v2, .inr (.inr (v0 + 14))], M)
      refine mm_s1 rfl ⟨(nc_5_0 NN C0).1, ?_⟩
      refine nn_call (D := 3) (by decide) (h n L N (nc_5_0 NN C0)) ?_
      intro v M103 q; clear L N h
      obtain ⟨r103, rfl, L, N, h⟩ := q
      show mm_Go (mm_run 3) mc_Index_begin _ (106, [(0, .inr (.inr v0)), (1, .inr (.inr v1)), (2, .inl v2)], [.inl r103, .inl v2, .inr (.inr (v0 + 14))], M103)
      refine mm_s1 rfl ?_
      show mm_Go (mm_run 3) mc_Index_begin _ (110, [(0, .inr (.inr v0)), (1, .inr (.inr v1)), (2, .inl v2)], [.inl r103, .inl v2, .inr (.inr (v0 + 14))], M103)
      obtain ⟨b110, h⟩ := h
      refine mm_s1 rfl ⟨nn_bd (na_5_4 NN C0) b110, ?_⟩
      show mm_Go (mm_run 3) mc_Index_begin _ (111, [(0, .inr (.inr v0)), (1, .inr (.inr v1)), (2, .inl v2)], [], (nn_ui M103 (v0 + 14) v2 r103))
      have L : nn_L (nn_ui M103 (v0 + 14) v2 r103) := nn_L_ua L (congrArg Prod.fst (na_5_4 NN C0)) (by decide)
      have N : (nn_ui M103 (v0 + 14) v2 r103).1 = n := N
      generalize e_M110 : (nn_ui M103 (v0 + 14) v2 r103) = M110 at L N ⊢
      replace h := h _ e_M110.symm
      show mm_Go (mm_run 3) mc_Index_begin _ (111, [(0, .inr (.inr v0)), (1, .inr (.inr v1)), (2, .inl v2)], [], M110)
      refine mm_s1 rfl ?_
      show mm_Go (mm_run 3) mc_Index_begin _ (114, [(0, .inr (.inr v0)), (1, .inr (.inr v1)), (2, .inl (mm_w (v2 + 1)))], [], M110)
      refine mm_s1 rfl ?_
      show mm_Go (mm_run 3) mc_Index_begin _ (68, [(0, .inr (.inr v0)), (1, .inr (.inr v1)), (2, .inl (mm_w (v2 + 1)))], [], M110)
      exact nn_go_ext (nn_xc rfl (nn_xc rfl (nn_xc rfl nn_xn))) (h n L N C0 C1)
def nr_Index_take (v0 : Nat) (v1 : Int) (v2 : Int) (v3 : Int) (M : mm_M) (R : mm_M → Prop) : Prop := ∀ n, nn_L M → M.1 = n → nn_C 5 v0 n → mm_run 4 mi_Index_take [.inr (.inr v0), .inl v1, .inl v2, .inl v3] M (nw_V n R)
set_option maxRecDepth 20000 in
theorem ng_Index_take (v0 : Nat) (v1 : Int) (v2 : Int) (v3 : Int) (M : mm_M) (R : mm_M → Prop) (h : ((v2 ≠ (-1) → (nr_Rule_valueOf (v0 + 1) v2 M (fun r14 M14 => (((0 : Int) ≤ v1 ∧ v1 < (32 : Int)) ∧ (∀ M26 : mm_M, M26 = nn_ui M14 (v0 + 14) v1 r14 → ((r14 = (-1) → R M26) ∧ (r14 ≠ (-1) → (nr_Entries_add (v0 + 4) (nf_LI_entryOf r14 v1 v3) M26 (fun M44 => R M44))))))))) ∧ (v2 = (-1) → (((0 : Int) ≤ v1 ∧ v1 < (32 : Int)) ∧ (∀ M26 : mm_M, M26 = nn_ui M (v0 + 14) v1 (-1) → R M26))))) : nr_Index_take v0 v1 v2 v3 M R := by
  intro n L N C0
  have NN := nn_L_n L N
  show mm_Go (mm_run 3) mc_Index_take _ (0, [(0, .inr (.inr v0)), (1, .inl v1), (2, .inl v2), (3, .inl v3)], [], M)
  refine mm_s1 rfl ?_
  refine mm_s1 rfl ?_
  refine mm_s1 rfl ⟨fun c2 => ?_, fun c2 => ?_⟩
  · show mm_Go (mm_run 3) mc_Index_take _ (9, [(0, .inr (.inr v0)), (1, .inl v1), (2, .inl v2), (3, .inl v3)], [], M)
    replace h := h.1 c2
    refine mm_s1 rfl ?_
    refine nn_getr rfl C0.1 (lf_5_0 L N C0) ?_
    refine mm_s1 rfl ?_
    refine mm_s1 rfl ⟨(nc_5_0 NN C0).1, ?_⟩
    refine nn_call (D := 3) (by decide) (h n L N (nc_5_0 NN C0)) ?_
    intro v M14 q; clear L N h
    obtain ⟨r14, rfl, L, N, h⟩ := q
    show mm_Go (mm_run 3) mc_Index_take _ (17, [(0, .inr (.inr v0)), (1, .inl v1), (2, .inl v2), (3, .inl v3)], [.inl r14], M14)
    refine mm_s1 rfl ?_
    show mm_Go (mm_run 3) mc_Index_take _ (19, [(0, .inr (.inr v0)), (1, .inl v1), (2, .inl v2), (3, .inl v3), (4, .inl r14)], [], M14)
    refine mm_s1 rfl ?_
    refine nn_getr rfl C0.1 (lf_5_4 L N C0) ?_
    refine mm_s1 rfl ?_
    refine mm_s1 rfl ?_
    obtain ⟨b26, h⟩ := h
    refine mm_s1 rfl ⟨nn_bd (na_5_4 NN C0) b26, ?_⟩
    show mm_Go (mm_run 3) mc_Index_take _ (27, [(0, .inr (.inr v0)), (1, .inl v1), (2, .inl v2), (3, .inl v3), (4, .inl r14)], [], (nn_ui M14 (v0 + 14) v1 r14))
    have L : nn_L (nn_ui M14 (v0 + 14) v1 r14) := nn_L_ua L (congrArg Prod.fst (na_5_4 NN C0)) (by decide)
    have N : (nn_ui M14 (v0 + 14) v1 r14).1 = n := N
    generalize e_M26 : (nn_ui M14 (v0 + 14) v1 r14) = M26 at L N ⊢
    replace h := h _ e_M26.symm
    show mm_Go (mm_run 3) mc_Index_take _ (27, [(0, .inr (.inr v0)), (1, .inl v1), (2, .inl v2), (3, .inl v3), (4, .inl r14)], [], M26)
    refine mm_s1 rfl ?_
    refine mm_s1 rfl ?_
    refine mm_s1 rfl ⟨fun c30 => ?_, fun c30 => ?_⟩
    · show mm_Go (mm_run 3) mc_Index_take _ (47, [(0, .inr (.inr v0)), (1, .inl v1), (2, .inl v2), (3, .inl v3), (4, .inl r14)], [], M26)
      replace h := h.1 c30
      exact mm_s1 rfl ⟨rfl, L, N, h⟩
    · show mm_Go (mm_run 3) mc_Index_take _ (33, [(0, .inr (.inr v0)), (1, .inl v1), (2, .inl v2), (3, .inl v3), (4, .inl r14)], [], M26)
      replace h := h.2 c30
      refine mm_s1 rfl ?_
      refine nn_getr rfl C0.1 (lf_5_1 L N C0) ?_
      refine mm_s1 rfl ?_
      refine mm_s1 rfl ?_
      refine mm_s1 rfl ?_
      show mm_Go (mm_run 3) mc_Index_take _ (41, [(0, .inr (.inr v0)), (1, .inl v1), (2, .inl v2), (3, .inl v3), (4, .inl r14)], [.inl v3, .inl v1, .inl r14, .inr (.inr (v0 + 4))], M26)
      refine mm_s1 rfl ⟨trivial, ?_⟩
      refine np_LI_entryOf (by decide) L N ?_
      show mm_Go (mm_run 3) mc_Index_take _ (44, [(0, .inr (.inr v0)), (1, .inl v1), (2, .inl v2), (3, .inl v3), (4, .inl r14)], [.inr (.inl (nf_LI_entryOf r14 v1 v3)), .inr (.inr (v0 + 4))], M26)
      refine mm_s1 rfl ⟨(nc_5_1 NN C0).1, ?_⟩
      refine nn_call (D := 1) (by decide) (h n L N (nc_5_1 NN C0)) ?_
      intro v M44 q; clear L N h
      obtain ⟨rfl, L, N, h⟩ := q
      show mm_Go (mm_run 3) mc_Index_take _ (47, [(0, .inr (.inr v0)), (1, .inl v1), (2, .inl v2), (3, .inl v3), (4, .inl r14)], [], M44)
      exact mm_s1 rfl ⟨rfl, L, N, h⟩
  · show mm_Go (mm_run 3) mc_Index_take _ (5, [(0, .inr (.inr v0)), (1, .inl v1), (2, .inl v2), (3, .inl v3)], [], M)
    replace c2 := Decidable.not_not.mp c2
    replace h := h.2 c2
    refine mm_s1 rfl ?_
    refine mm_s1 rfl ?_
    show mm_Go (mm_run 3) mc_Index_take _ (17, [(0, .inr (.inr v0)), (1, .inl v1), (2, .inl v2), (3, .inl v3)], [.inl (-1)], M)
    refine mm_s1 rfl ?_
    show mm_Go (mm_run 3) mc_Index_take _ (19, [(0, .inr (.inr v0)), (1, .inl v1), (2, .inl v2), (3, .inl v3), (4, .inl (-1))], [], M)
    refine mm_s1 rfl ?_
    refine nn_getr rfl C0.1 (lf_5_4 L N C0) ?_
    refine mm_s1 rfl ?_
    refine mm_s1 rfl ?_
    obtain ⟨b26, h⟩ := h
    refine mm_s1 rfl ⟨nn_bd (na_5_4 NN C0) b26, ?_⟩
    show mm_Go (mm_run 3) mc_Index_take _ (27, [(0, .inr (.inr v0)), (1, .inl v1), (2, .inl v2), (3, .inl v3), (4, .inl (-1))], [], (nn_ui M (v0 + 14) v1 (-1)))
    have L : nn_L (nn_ui M (v0 + 14) v1 (-1)) := nn_L_ua L (congrArg Prod.fst (na_5_4 NN C0)) (by decide)
    have N : (nn_ui M (v0 + 14) v1 (-1)).1 = n := N
    generalize e_M26 : (nn_ui M (v0 + 14) v1 (-1)) = M26 at L N ⊢
    replace h := h _ e_M26.symm
    show mm_Go (mm_run 3) mc_Index_take _ (27, [(0, .inr (.inr v0)), (1, .inl v1), (2, .inl v2), (3, .inl v3), (4, .inl (-1))], [], M26)
    refine mm_s1 rfl ?_
    refine mm_s1 rfl ?_
    refine mm_s1 rfl ⟨fun _ => ?_, fun c => absurd (show (-1 : Int) = -1 by decide) c⟩
    show mm_Go (mm_run 3) mc_Index_take _ (47, [(0, .inr (.inr v0)), (1, .inl v1), (2, .inl v2), (3, .inl v3), (4, .inl (-1))], [], M26)
    exact mm_s1 rfl ⟨rfl, L, N, h⟩
def nr_Index_waste (v0 : Nat) (v1 : Nat) (M : mm_M) (R : Int → mm_M → Prop) : Prop := ∀ n, nn_L M → M.1 = n → nn_C 5 v0 n → nn_C 12 v1 n → mm_run 4 mi_Index_waste [.inr (.inr v0), .inr (.inr v1)] M (nw_I n R)
def nk_Index_waste_8 (v0 : Nat) (v1 : Nat) (v2 : Int) (v3 : Int) (M : mm_M) (R : Int → mm_M → Prop) : Prop := ∀ n, nn_L M → M.1 = n → nn_C 5 v0 n → nn_C 12 v1 n → mm_Go (mm_run 3) mc_Index_waste (nw_I n R) (8, [(0, .inr (.inr v0)), (1, .inr (.inr v1)), (2, .inl v2), (3, .inl v3)], [], M)
set_option maxRecDepth 20000 in
theorem ng_Index_waste (v0 : Nat) (v1 : Nat) (M : mm_M) (R : Int → mm_M → Prop) (h : (nr_Index_stale v0 v1 M (fun r2 M2 => nk_Index_waste_8 v0 v1 r2 0 M2 R))) : nr_Index_waste v0 v1 M R := by
  intro n L N C0 C1
  have NN := nn_L_n L N
  show mm_Go (mm_run 3) mc_Index_waste _ (0, [(0, .inr (.inr v0)), (1, .inr (.inr v1))], [], M)
  refine mm_s1 rfl ?_
  refine mm_s1 rfl ?_
  refine mm_s1 rfl ⟨C0.1, ?_⟩
  refine nn_call (D := 3) (by decide) (h n L N C0 C1) ?_
  intro v M2 q; clear L N h
  obtain ⟨r2, rfl, L, N, h⟩ := q
  show mm_Go (mm_run 3) mc_Index_waste _ (5, [(0, .inr (.inr v0)), (1, .inr (.inr v1))], [.inl r2], M2)
  refine mm_s1 rfl ?_
  show mm_Go (mm_run 3) mc_Index_waste _ (6, [(0, .inr (.inr v0)), (1, .inr (.inr v1)), (2, .inl r2)], [], M2)
  refine mm_s1 rfl ?_
  refine mm_s1 rfl ?_
  show mm_Go (mm_run 3) mc_Index_waste _ (8, [(0, .inr (.inr v0)), (1, .inr (.inr v1)), (2, .inl r2), (3, .inl 0)], [], M2)
  exact nn_go_ext (nn_xc rfl (nn_xc rfl (nn_xc rfl (nn_xc rfl nn_xn)))) (h n L N C0 C1)
set_option maxRecDepth 20000 in
theorem ng_Index_waste_8 (v0 : Nat) (v1 : Nat) (v2 : Int) (v3 : Int) (M : mm_M) (R : Int → mm_M → Prop) (h : ((nc_Pile_size (v0 + 8) M) ∧ (((nf_Pile_size (v0 + 8) M) ≤ v3 → R v2 M) ∧ (v3 < (nf_Pile_size (v0 + 8) M) → (((0 : Int) ≤ v3 ∧ v3 < (144 : Int)) ∧ ((nc_LI_isStale (nn_ri M (v0 + 9) v3) v1 M) ∧ (((nf_LI_isStale (nn_ri M (v0 + 9) v3) v1 M) ≠ 0 → nk_Index_waste_8 v0 v1 v2 (mm_w (v3 + 1)) M R) ∧ ((nf_LI_isStale (nn_ri M (v0 + 9) v3) v1 M) = 0 → (nr_Index_isAhead v0 v3 M (fun r37 M37 => ((r37 = 0 → nk_Index_waste_8 v0 v1 v2 (mm_w (v3 + 1)) M37 R) ∧ (r37 ≠ 0 → nk_Index_waste_8 v0 v1 (mm_w (v2 + 1)) (mm_w (v3 + 1)) M37 R)))))))))))) : nk_Index_waste_8 v0 v1 v2 v3 M R := by
  intro n L N C0 C1
  have NN := nn_L_n L N
  show mm_Go (mm_run 3) mc_Index_waste _ (8, [(0, .inr (.inr v0)), (1, .inr (.inr v1)), (2, .inl v2), (3, .inl v3)], [], M)
  refine mm_s1 rfl ?_
  refine mm_s1 rfl ?_
  refine nn_getr rfl C0.1 (lf_5_3 L N C0) ?_
  obtain ⟨b13, h⟩ := h
  refine mm_s1 rfl ⟨(nc_5_3 NN C0).1, ?_⟩
  refine np_Pile_size (by decide) L N (nc_5_3 NN C0) b13 ?_
  show mm_Go (mm_run 3) mc_Index_waste _ (16, [(0, .inr (.inr v0)), (1, .inr (.inr v1)), (2, .inl v2), (3, .inl v3)], [.inl (nf_Pile_size (v0 + 8) M), .inl v3], M)
  refine mm_s1 rfl ⟨fun c16 => ?_, fun c16 => ?_⟩
  · show mm_Go (mm_run 3) mc_Index_waste _ (52, [(0, .inr (.inr v0)), (1, .inr (.inr v1)), (2, .inl v2), (3, .inl v3)], [], M)
    replace h := h.1 c16
    refine mm_s1 rfl ?_
    exact mm_s1 rfl ⟨_, rfl, L, N, h⟩
  · show mm_Go (mm_run 3) mc_Index_waste _ (19, [(0, .inr (.inr v0)), (1, .inr (.inr v1)), (2, .inl v2), (3, .inl v3)], [], M)
    replace c16 := Int.not_le.mp c16
    replace h := h.2 c16
    refine mm_s1 rfl ?_
    refine nn_getr rfl C0.1 (lf_5_3 L N C0) ?_
    refine nn_getr rfl (nc_5_3 NN C0).1 (lf_6_0 L N (nc_5_3 NN C0)) ?_
    refine mm_s1 rfl ?_
    obtain ⟨b27, h⟩ := h
    refine mm_s1 rfl ⟨nn_bd (na_6_0 NN (nc_5_3 NN C0)) b27, ?_⟩
    show mm_Go (mm_run 3) mc_Index_waste _ (28, [(0, .inr (.inr v0)), (1, .inr (.inr v1)), (2, .inl v2), (3, .inl v3)], [.inr (.inl (nn_ri M (v0 + 9) v3))], M)
    refine mm_s1 rfl ?_
    obtain ⟨b29, h⟩ := h
    refine mm_s1 rfl ⟨trivial, ?_⟩
    refine np_LI_isStale (by decide) L N C1 b29 ?_
    show mm_Go (mm_run 3) mc_Index_waste _ (32, [(0, .inr (.inr v0)), (1, .inr (.inr v1)), (2, .inl v2), (3, .inl v3)], [.inl (nf_LI_isStale (nn_ri M (v0 + 9) v3) v1 M)], M)
    refine mm_s1 rfl ⟨fun c32 => ?_, fun c32 => ?_⟩
    · show mm_Go (mm_run 3) mc_Index_waste _ (46, [(0, .inr (.inr v0)), (1, .inr (.inr v1)), (2, .inl v2), (3, .inl v3)], [], M)
      replace h := h.1 c32
      refine mm_s1 rfl ?_
      show mm_Go (mm_run 3) mc_Index_waste _ (49, [(0, .inr (.inr v0)), (1, .inr (.inr v1)), (2, .inl v2), (3, .inl (mm_w (v3 + 1)))], [], M)
      refine mm_s1 rfl ?_
      show mm_Go (mm_run 3) mc_Index_waste _ (8, [(0, .inr (.inr v0)), (1, .inr (.inr v1)), (2, .inl v2), (3, .inl (mm_w (v3 + 1)))], [], M)
      exact nn_go_ext (nn_xc rfl (nn_xc rfl (nn_xc rfl (nn_xc rfl nn_xn)))) (h n L N C0 C1)
    · show mm_Go (mm_run 3) mc_Index_waste _ (35, [(0, .inr (.inr v0)), (1, .inr (.inr v1)), (2, .inl v2), (3, .inl v3)], [], M)
      replace c32 := Decidable.not_not.mp c32
      replace h := h.2 c32
      refine mm_s1 rfl ?_
      refine mm_s1 rfl ?_
      refine mm_s1 rfl ⟨C0.1, ?_⟩
      refine nn_call (D := 1) (by decide) (h n L N C0) ?_
      intro v M37 q; clear L N h
      obtain ⟨r37, rfl, q37, L, N, h⟩ := q
      show mm_Go (mm_run 3) mc_Index_waste _ (40, [(0, .inr (.inr v0)), (1, .inr (.inr v1)), (2, .inl v2), (3, .inl v3)], [.inl r37], M37)
      refine mm_s1 rfl ⟨fun c40 => ?_, fun c40 => ?_⟩
      · show mm_Go (mm_run 3) mc_Index_waste _ (46, [(0, .inr (.inr v0)), (1, .inr (.inr v1)), (2, .inl v2), (3, .inl v3)], [], M37)
        replace h := h.1 c40
        refine mm_s1 rfl ?_
        show mm_Go (mm_run 3) mc_Index_waste _ (49, [(0, .inr (.inr v0)), (1, .inr (.inr v1)), (2, .inl v2), (3, .inl (mm_w (v3 + 1)))], [], M37)
        refine mm_s1 rfl ?_
        show mm_Go (mm_run 3) mc_Index_waste _ (8, [(0, .inr (.inr v0)), (1, .inr (.inr v1)), (2, .inl v2), (3, .inl (mm_w (v3 + 1)))], [], M37)
        exact nn_go_ext (nn_xc rfl (nn_xc rfl (nn_xc rfl (nn_xc rfl nn_xn)))) (h n L N C0 C1)
      · show mm_Go (mm_run 3) mc_Index_waste _ (43, [(0, .inr (.inr v0)), (1, .inr (.inr v1)), (2, .inl v2), (3, .inl v3)], [], M37)
        replace h := h.2 c40
        refine mm_s1 rfl ?_
        show mm_Go (mm_run 3) mc_Index_waste _ (46, [(0, .inr (.inr v0)), (1, .inr (.inr v1)), (2, .inl (mm_w (v2 + 1))), (3, .inl v3)], [], M37)
        refine mm_s1 rfl ?_
        show mm_Go (mm_run 3) mc_Index_waste _ (49, [(0, .inr (.inr v0)), (1, .inr (.inr v1)), (2, .inl (mm_w (v2 + 1))), (3, .inl (mm_w (v3 + 1)))], [], M37)
        refine mm_s1 rfl ?_
        show mm_Go (mm_run 3) mc_Index_waste _ (8, [(0, .inr (.inr v0)), (1, .inr (.inr v1)), (2, .inl (mm_w (v2 + 1))), (3, .inl (mm_w (v3 + 1)))], [], M37)
        exact nn_go_ext (nn_xc rfl (nn_xc rfl (nn_xc rfl (nn_xc rfl nn_xn)))) (h n L N C0 C1)
def nr_Pile_mergeLevels (v0 : Nat) (v1 : Int) (v2 : Int) (v3 : Nat) (M : mm_M) (R : mm_M → Prop) : Prop := ∀ n, nn_L M → M.1 = n → nn_C 6 v0 n → nn_C 10 v3 n → mm_run 4 mi_Pile_mergeLevels [.inr (.inr v0), .inl v1, .inl v2, .inr (.inr v3)] M (nw_V n R)
def nk_Pile_mergeLevels_20 (v0 : Nat) (v1 : Int) (v2 : Int) (v3 : Nat) (v4 : Int) (v5 : Int) (M : mm_M) (R : mm_M → Prop) : Prop := ∀ n, nn_L M → M.1 = n → nn_C 6 v0 n → nn_C 10 v3 n → mm_Go (mm_run 3) mc_Pile_mergeLevels (nw_V n R) (20, [(0, .inr (.inr v0)), (1, .inl v1), (2, .inl v2), (3, .inr (.inr v3)), (4, .inl v4), (5, .inl v5)], [], M)
set_option maxRecDepth 20000 in
theorem ng_Pile_mergeLevels (v0 : Nat) (v1 : Int) (v2 : Int) (v3 : Nat) (M : mm_M) (R : mm_M → Prop) (h : (nr_LI_alike (v0 + 3) (nn_rf M v0 5) v1 M (fun r9 M9 => nk_Pile_mergeLevels_20 v0 v1 v2 v3 r9 (nn_rf M9 v0 5) M9 R))) : nr_Pile_mergeLevels v0 v1 v2 v3 M R := by
  intro n L N C0 C3
  have NN := nn_L_n L N
  show mm_Go (mm_run 3) mc_Pile_mergeLevels _ (0, [(0, .inr (.inr v0)), (1, .inl v1), (2, .inl v2), (3, .inr (.inr v3))], [], M)
  refine mm_s1 rfl ?_
  refine nn_getr rfl C0.1 (lf_6_2 L N C0) ?_
  refine mm_s1 rfl ?_
  refine mm_s1 rfl ⟨C0.1, ?_⟩
  show mm_Go (mm_run 3) mc_Pile_mergeLevels _ (8, [(0, .inr (.inr v0)), (1, .inl v1), (2, .inl v2), (3, .inr (.inr v3))], [.inl (nn_rf M v0 5), .inr (.inr (v0 + 3))], M)
  refine mm_s1 rfl ?_
  refine mm_s1 rfl ⟨trivial, ?_⟩
  refine nn_call (D := 1) (by decide) (h n L N (nc_6_2 NN C0)) ?_
  intro v M9 q; clear L N h
  obtain ⟨r9, rfl, L, N, h⟩ := q
  show mm_Go (mm_run 3) mc_Pile_mergeLevels _ (12, [(0, .inr (.inr v0)), (1, .inl v1), (2, .inl v2), (3, .inr (.inr v3))], [.inl r9], M9)
  refine mm_s1 rfl ?_
  show mm_Go (mm_run 3) mc_Pile_mergeLevels _ (14, [(0, .inr (.inr v0)), (1, .inl v1), (2, .inl v2), (3, .inr (.inr v3)), (4, .inl r9)], [], M9)
  refine mm_s1 rfl ?_
  refine mm_s1 rfl ⟨C0.1, ?_⟩
  show mm_Go (mm_run 3) mc_Pile_mergeLevels _ (18, [(0, .inr (.inr v0)), (1, .inl v1), (2, .inl v2), (3, .inr (.inr v3)), (4, .inl r9)], [.inl (nn_rf M9 v0 5)], M9)
  refine mm_s1 rfl ?_
  show mm_Go (mm_run 3) mc_Pile_mergeLevels _ (20, [(0, .inr (.inr v0)), (1, .inl v1), (2, .inl v2), (3, .inr (.inr v3)), (4, .inl r9), (5, .inl (nn_rf M9 v0 5))], [], M9)
  exact nn_go_ext (nn_xc rfl (nn_xc rfl (nn_xc rfl (nn_xc rfl (nn_xc rfl (nn_xc rfl nn_xn)))))) (h n L N C0 C3)
set_option maxRecDepth 20000 in
theorem ng_Pile_mergeLevels_20 (v0 : Nat) (v1 : Int) (v2 : Int) (v3 : Nat) (v4 : Int) (v5 : Int) (M : mm_M) (R : mm_M → Prop) (h : ((v5 ≤ 0 → (((nn_rf M v0 5) ≤ 20 → R M) ∧ (20 < (nn_rf M v0 5) → (nr_LI_highest (v0 + 3) 0 (nn_rf M v0 5) M (fun r93 M93 => (nr_Pile_mergeRuns v0 0 (nn_rf M v0 5) (mm_w (r93 + 1)) v2 v3 M93 (fun M100 => R M100))))))) ∧ (0 < v5 → ((v4 = (-1) → (((nn_rf M v0 5) ≤ 20 → R M) ∧ (20 < (nn_rf M v0 5) → (nr_LI_highest (v0 + 3) 0 (nn_rf M v0 5) M (fun r93 M93 => (nr_Pile_mergeRuns v0 0 (nn_rf M v0 5) (mm_w (r93 + 1)) v2 v3 M93 (fun M100 => R M100))))))) ∧ (v4 ≠ (-1) → (((0 : Int) ≤ v4 ∧ v4 < (24 : Int)) ∧ (nr_Pile_mergeRuns v0 v4 v1 (mm_w ((nn_ri M (v0 + 3) v4) + 1)) v2 v3 M (fun M46 => (nr_LI_alike (v0 + 3) (nn_rf M46 v0 5) v1 M46 (fun r58 M58 => nk_Pile_mergeLevels_20 v0 v1 v2 v3 r58 (mm_w (v5 + (-1))) M58 R)))))))))) : nk_Pile_mergeLevels_20 v0 v1 v2 v3 v4 v5 M R := by
  intro n L N C0 C3
  have NN := nn_L_n L N
  show mm_Go (mm_run 3) mc_Pile_mergeLevels _ (20, [(0, .inr (.inr v0)), (1, .inl v1), (2, .inl v2), (3, .inr (.inr v3)), (4, .inl v4), (5, .inl v5)], [], M)
  refine mm_s1 rfl ?_
  refine mm_s1 rfl ⟨fun c22 => ?_, fun c22 => ?_⟩
  · show mm_Go (mm_run 3) mc_Pile_mergeLevels _ (69, [(0, .inr (.inr v0)), (1, .inl v1), (2, .inl v2), (3, .inr (.inr v3)), (4, .inl v4), (5, .inl v5)], [], M)
    replace h := h.1 c22
    refine mm_s1 rfl ?_
    refine mm_s1 rfl ⟨C0.1, ?_⟩
    show mm_Go (mm_run 3) mc_Pile_mergeLevels _ (73, [(0, .inr (.inr v0)), (1, .inl v1), (2, .inl v2), (3, .inr (.inr v3)), (4, .inl v4), (5, .inl v5)], [.inl (nn_rf M v0 5)], M)
    refine mm_s1 rfl ?_
    refine mm_s1 rfl ⟨fun c75 => ?_, fun c75 => ?_⟩
    · show mm_Go (mm_run 3) mc_Pile_mergeLevels _ (103, [(0, .inr (.inr v0)), (1, .inl v1), (2, .inl v2), (3, .inr (.inr v3)), (4, .inl v4), (5, .inl v5)], [], M)
      replace h := h.1 c75
      exact mm_s1 rfl ⟨rfl, L, N, h⟩
    · show mm_Go (mm_run 3) mc_Pile_mergeLevels _ (78, [(0, .inr (.inr v0)), (1, .inl v1), (2, .inl v2), (3, .inr (.inr v3)), (4, .inl v4), (5, .inl v5)], [], M)
      replace c75 := Int.not_le.mp c75
      replace h := h.2 c75
      refine mm_s1 rfl ?_
      refine mm_s1 rfl ?_
      refine mm_s1 rfl ?_
      refine mm_s1 rfl ⟨C0.1, ?_⟩
      show mm_Go (mm_run 3) mc_Pile_mergeLevels _ (84, [(0, .inr (.inr v0)), (1, .inl v1), (2, .inl v2), (3, .inr (.inr v3)), (4, .inl v4), (5, .inl v5)], [.inl (nn_rf M v0 5), .inl 0, .inr (.inr v0)], M)
      refine mm_s1 rfl ?_
      refine nn_getr rfl C0.1 (lf_6_2 L N C0) ?_
      refine mm_s1 rfl ?_
      refine mm_s1 rfl ?_
      refine mm_s1 rfl ⟨C0.1, ?_⟩
      show mm_Go (mm_run 3) mc_Pile_mergeLevels _ (93, [(0, .inr (.inr v0)), (1, .inl v1), (2, .inl v2), (3, .inr (.inr v3)), (4, .inl v4), (5, .inl v5)], [.inl (nn_rf M v0 5), .inl 0, .inr (.inr (v0 + 3)), .inl (nn_rf M v0 5), .inl 0, .inr (.inr v0)], M)
      refine mm_s1 rfl ⟨trivial, ?_⟩
      refine nn_call (D := 1) (by decide) (h n L N (nc_6_2 NN C0)) ?_
      intro v M93 q; clear L N h
      obtain ⟨r93, rfl, L, N, h⟩ := q
      show mm_Go (mm_run 3) mc_Pile_mergeLevels _ (96, [(0, .inr (.inr v0)), (1, .inl v1), (2, .inl v2), (3, .inr (.inr v3)), (4, .inl v4), (5, .inl v5)], [.inl r93, .inl (nn_rf M v0 5), .inl 0, .inr (.inr v0)], M93)
      refine mm_s1 rfl ?_
      refine mm_s1 rfl ?_
      refine mm_s1 rfl ?_
      refine mm_s1 rfl ?_
      refine mm_s1 rfl ⟨C0.1, ?_⟩
      refine nn_call (D := 3) (by decide) (h n L N C0 C3) ?_
      intro v M100 q; clear L N h
      obtain ⟨rfl, L, N, h⟩ := q
      show mm_Go (mm_run 3) mc_Pile_mergeLevels _ (103, [(0, .inr (.inr v0)), (1, .inl v1), (2, .inl v2), (3, .inr (.inr v3)), (4, .inl v4), (5, .inl v5)], [], M100)
      exact mm_s1 rfl ⟨rfl, L, N, h⟩
  · show mm_Go (mm_run 3) mc_Pile_mergeLevels _ (25, [(0, .inr (.inr v0)), (1, .inl v1), (2, .inl v2), (3, .inr (.inr v3)), (4, .inl v4), (5, .inl v5)], [], M)
    replace c22 := Int.not_le.mp c22
    replace h := h.2 c22
    refine mm_s1 rfl ?_
    refine mm_s1 rfl ?_
    refine mm_s1 rfl ⟨fun c28 => ?_, fun c28 => ?_⟩
    · show mm_Go (mm_run 3) mc_Pile_mergeLevels _ (69, [(0, .inr (.inr v0)), (1, .inl v1), (2, .inl v2), (3, .inr (.inr v3)), (4, .inl v4), (5, .inl v5)], [], M)
      replace h := h.1 c28
      refine mm_s1 rfl ?_
      refine mm_s1 rfl ⟨C0.1, ?_⟩
      show mm_Go (mm_run 3) mc_Pile_mergeLevels _ (73, [(0, .inr (.inr v0)), (1, .inl v1), (2, .inl v2), (3, .inr (.inr v3)), (4, .inl v4), (5, .inl v5)], [.inl (nn_rf M v0 5)], M)
      refine mm_s1 rfl ?_
      refine mm_s1 rfl ⟨fun c75 => ?_, fun c75 => ?_⟩
      · show mm_Go (mm_run 3) mc_Pile_mergeLevels _ (103, [(0, .inr (.inr v0)), (1, .inl v1), (2, .inl v2), (3, .inr (.inr v3)), (4, .inl v4), (5, .inl v5)], [], M)
        replace h := h.1 c75
        exact mm_s1 rfl ⟨rfl, L, N, h⟩
      · show mm_Go (mm_run 3) mc_Pile_mergeLevels _ (78, [(0, .inr (.inr v0)), (1, .inl v1), (2, .inl v2), (3, .inr (.inr v3)), (4, .inl v4), (5, .inl v5)], [], M)
        replace c75 := Int.not_le.mp c75
        replace h := h.2 c75
        refine mm_s1 rfl ?_
        refine mm_s1 rfl ?_
        refine mm_s1 rfl ?_
        refine mm_s1 rfl ⟨C0.1, ?_⟩
        show mm_Go (mm_run 3) mc_Pile_mergeLevels _ (84, [(0, .inr (.inr v0)), (1, .inl v1), (2, .inl v2), (3, .inr (.inr v3)), (4, .inl v4), (5, .inl v5)], [.inl (nn_rf M v0 5), .inl 0, .inr (.inr v0)], M)
        refine mm_s1 rfl ?_
        refine nn_getr rfl C0.1 (lf_6_2 L N C0) ?_
        refine mm_s1 rfl ?_
        refine mm_s1 rfl ?_
        refine mm_s1 rfl ⟨C0.1, ?_⟩
        show mm_Go (mm_run 3) mc_Pile_mergeLevels _ (93, [(0, .inr (.inr v0)), (1, .inl v1), (2, .inl v2), (3, .inr (.inr v3)), (4, .inl v4), (5, .inl v5)], [.inl (nn_rf M v0 5), .inl 0, .inr (.inr (v0 + 3)), .inl (nn_rf M v0 5), .inl 0, .inr (.inr v0)], M)
        refine mm_s1 rfl ⟨trivial, ?_⟩
        refine nn_call (D := 1) (by decide) (h n L N (nc_6_2 NN C0)) ?_
        intro v M93 q; clear L N h
        obtain ⟨r93, rfl, L, N, h⟩ := q
        show mm_Go (mm_run 3) mc_Pile_mergeLevels _ (96, [(0, .inr (.inr v0)), (1, .inl v1), (2, .inl v2), (3, .inr (.inr v3)), (4, .inl v4), (5, .inl v5)], [.inl r93, .inl (nn_rf M v0 5), .inl 0, .inr (.inr v0)], M93)
        refine mm_s1 rfl ?_
        refine mm_s1 rfl ?_
        refine mm_s1 rfl ?_
        refine mm_s1 rfl ?_
        refine mm_s1 rfl ⟨C0.1, ?_⟩
        refine nn_call (D := 3) (by decide) (h n L N C0 C3) ?_
        intro v M100 q; clear L N h
        obtain ⟨rfl, L, N, h⟩ := q
        show mm_Go (mm_run 3) mc_Pile_mergeLevels _ (103, [(0, .inr (.inr v0)), (1, .inl v1), (2, .inl v2), (3, .inr (.inr v3)), (4, .inl v4), (5, .inl v5)], [], M100)
        exact mm_s1 rfl ⟨rfl, L, N, h⟩
    · show mm_Go (mm_run 3) mc_Pile_mergeLevels _ (31, [(0, .inr (.inr v0)), (1, .inl v1), (2, .inl v2), (3, .inr (.inr v3)), (4, .inl v4), (5, .inl v5)], [], M)
      replace h := h.2 c28
      refine mm_s1 rfl ?_
      refine mm_s1 rfl ?_
      refine mm_s1 rfl ?_
      refine mm_s1 rfl ?_
      refine nn_getr rfl C0.1 (lf_6_2 L N C0) ?_
      show mm_Go (mm_run 3) mc_Pile_mergeLevels _ (39, [(0, .inr (.inr v0)), (1, .inl v1), (2, .inl v2), (3, .inr (.inr v3)), (4, .inl v4), (5, .inl v5)], [.inr (.inr (v0 + 3)), .inl v1, .inl v4, .inr (.inr v0)], M)
      refine mm_s1 rfl ?_
      obtain ⟨b41, h⟩ := h
      refine mm_s1 rfl ⟨nn_bd (na_6_2 NN C0) b41, ?_⟩
      show mm_Go (mm_run 3) mc_Pile_mergeLevels _ (42, [(0, .inr (.inr v0)), (1, .inl v1), (2, .inl v2), (3, .inr (.inr v3)), (4, .inl v4), (5, .inl v5)], [.inl (nn_ri M (v0 + 3) v4), .inl v1, .inl v4, .inr (.inr v0)], M)
      refine mm_s1 rfl ?_
      refine mm_s1 rfl ?_
      refine mm_s1 rfl ?_
      refine mm_s1 rfl ?_
      refine mm_s1 rfl ⟨C0.1, ?_⟩
      refine nn_call (D := 3) (by decide) (h n L N C0 C3) ?_
      intro v M46 q; clear L N h
      obtain ⟨rfl, L, N, h⟩ := q
      show mm_Go (mm_run 3) mc_Pile_mergeLevels _ (49, [(0, .inr (.inr v0)), (1, .inl v1), (2, .inl v2), (3, .inr (.inr v3)), (4, .inl v4), (5, .inl v5)], [], M46)
      refine mm_s1 rfl ?_
      refine nn_getr rfl C0.1 (lf_6_2 L N C0) ?_
      refine mm_s1 rfl ?_
      refine mm_s1 rfl ⟨C0.1, ?_⟩
      show mm_Go (mm_run 3) mc_Pile_mergeLevels _ (57, [(0, .inr (.inr v0)), (1, .inl v1), (2, .inl v2), (3, .inr (.inr v3)), (4, .inl v4), (5, .inl v5)], [.inl (nn_rf M46 v0 5), .inr (.inr (v0 + 3))], M46)
      refine mm_s1 rfl ?_
      refine mm_s1 rfl ⟨trivial, ?_⟩
      refine nn_call (D := 1) (by decide) (h n L N (nc_6_2 NN C0)) ?_
      intro v M58 q; clear L N h
      obtain ⟨r58, rfl, L, N, h⟩ := q
      show mm_Go (mm_run 3) mc_Pile_mergeLevels _ (61, [(0, .inr (.inr v0)), (1, .inl v1), (2, .inl v2), (3, .inr (.inr v3)), (4, .inl v4), (5, .inl v5)], [.inl r58], M58)
      refine mm_s1 rfl ?_
      show mm_Go (mm_run 3) mc_Pile_mergeLevels _ (63, [(0, .inr (.inr v0)), (1, .inl v1), (2, .inl v2), (3, .inr (.inr v3)), (4, .inl r58), (5, .inl v5)], [], M58)
      refine mm_s1 rfl ?_
      show mm_Go (mm_run 3) mc_Pile_mergeLevels _ (66, [(0, .inr (.inr v0)), (1, .inl v1), (2, .inl v2), (3, .inr (.inr v3)), (4, .inl r58), (5, .inl (mm_w (v5 + (-1))))], [], M58)
      refine mm_s1 rfl ?_
      show mm_Go (mm_run 3) mc_Pile_mergeLevels _ (20, [(0, .inr (.inr v0)), (1, .inl v1), (2, .inl v2), (3, .inr (.inr v3)), (4, .inl r58), (5, .inl (mm_w (v5 + (-1))))], [], M58)
      exact nn_go_ext (nn_xc rfl (nn_xc rfl (nn_xc rfl (nn_xc rfl (nn_xc rfl (nn_xc rfl nn_xn)))))) (h n L N C0 C3)
def nr_Reader_readAtoms (v1 : Nat) (M : mm_M) (R : Int → mm_M → Prop) : Prop := ∀ n, nn_L M → M.1 = n → nn_C 8 v1 n → mm_run 4 mi_Reader_readAtoms [.inr (.inr 402), .inr (.inr v1)] M (nw_Z n R)
def nk_Reader_readAtoms_2 (v1 : Nat) (v2 : Int) (M : mm_M) (R : Int → mm_M → Prop) : Prop := ∀ n, nn_L M → M.1 = n → nn_C 8 v1 n → mm_Go (mm_run 3) mc_Reader_readAtoms (nw_Z n R) (2, [(0, .inr (.inr 402)), (1, .inr (.inr v1)), (2, .inl v2)], [], M)
set_option maxRecDepth 20000 in
theorem ng_Reader_readAtoms (v1 : Nat) (M : mm_M) (R : Int → mm_M → Prop) (h : nk_Reader_readAtoms_2 v1 0 M R) : nr_Reader_readAtoms v1 M R := by
  intro n L N C1
  have NN := nn_L_n L N
  show mm_Go (mm_run 3) mc_Reader_readAtoms _ (0, [(0, .inr (.inr 402)), (1, .inr (.inr v1))], [], M)
  refine mm_s1 rfl ?_
  refine mm_s1 rfl ?_
  show mm_Go (mm_run 3) mc_Reader_readAtoms _ (2, [(0, .inr (.inr 402)), (1, .inr (.inr v1)), (2, .inl 0)], [], M)
  exact nn_go_ext (nn_xc rfl (nn_xc rfl (nn_xc rfl nn_xn))) (h n L N C1)
set_option maxRecDepth 20000 in
theorem ng_Reader_readAtoms_2 (v1 : Nat) (v2 : Int) (M : mm_M) (R : Int → mm_M → Prop) (h : ((3 ≤ v2 → ((nc_Reader_beginsTerm M) ∧ (((nf_Reader_beginsTerm M) = 0 → (nr_Reader_fails 1 M (fun r121 M121 => R r121 M121))) ∧ ((nf_Reader_beginsTerm M) ≠ 0 → (nr_Reader_fails 2 M (fun r121 M121 => R r121 M121)))))) ∧ (v2 < 3 → (nr_Reader_readSum v1 (mm_w ((mm_w (2 * v2)) + 1)) M (fun r14 M14 => ((r14 ≠ 0 → (((0 : Int) ≤ (nn_rf M14 402 3) ∧ (nn_rf M14 402 3) < (201 : Int)) ∧ (((0 : Int) ≤ v2 ∧ v2 < (3 : Int)) ∧ (∀ M36 : mm_M, M36 = nn_ui M14 (v1 + 2) v2 (nn_ri M14 403 (nn_rf M14 402 3)) → (∀ M41 : mm_M, M41 = nn_uf M36 v1 2 (mm_w (v2 + 1)) → (nr_Reader_passes 10 M41 (fun r47 M47 => ((r47 ≠ 0 → (nr_Reader_readSum v1 (mm_w ((mm_w (2 * v2)) + 2)) M47 (fun r84 M84 => ((r84 ≠ 0 → (nr_Reader_passes 5 M84 (fun r94 M94 => ((r94 ≠ 0 → nk_Reader_readAtoms_2 v1 (mm_w (v2 + 1)) M94 R) ∧ (r94 = 0 → R 1 M94))))) ∧ (r84 = 0 → R 0 M84))))) ∧ (r47 = 0 → (nr_Reader_passes 11 M47 (fun r56 M56 => ((r56 ≠ 0 → (nr_Reader_readSum v1 (mm_w ((mm_w (2 * v2)) + 2)) M56 (fun r84 M84 => ((r84 ≠ 0 → (nr_Reader_passes 5 M84 (fun r94 M94 => ((r94 ≠ 0 → nk_Reader_readAtoms_2 v1 (mm_w (v2 + 1)) M94 R) ∧ (r94 = 0 → R 1 M94))))) ∧ (r84 = 0 → R 0 M84))))) ∧ (r56 = 0 → (nr_Reader_passes 12 M56 (fun r65 M65 => ((r65 ≠ 0 → (nr_Reader_readSum v1 (mm_w ((mm_w (2 * v2)) + 2)) M65 (fun r84 M84 => ((r84 ≠ 0 → (nr_Reader_passes 5 M84 (fun r94 M94 => ((r94 ≠ 0 → nk_Reader_readAtoms_2 v1 (mm_w (v2 + 1)) M94 R) ∧ (r94 = 0 → R 1 M94))))) ∧ (r84 = 0 → R 0 M84))))) ∧ (r65 = 0 → (nr_Reader_fails 1 M65 (fun r73 M73 => R r73 M73))))))))))))))))))) ∧ (r14 = 0 → R 0 M14))))))) : nk_Reader_readAtoms_2 v1 v2 M R := by
  intro n L N C1
  have NN := nn_L_n L N
  show mm_Go (mm_run 3) mc_Reader_readAtoms _ (2, [(0, .inr (.inr 402)), (1, .inr (.inr v1)), (2, .inl v2)], [], M)
  refine mm_s1 rfl ?_
  refine mm_s1 rfl ?_
  refine mm_s1 rfl ⟨fun c4 => ?_, fun c4 => ?_⟩
  · show mm_Go (mm_run 3) mc_Reader_readAtoms _ (108, [(0, .inr (.inr 402)), (1, .inr (.inr v1)), (2, .inl v2)], [], M)
    replace h := h.1 c4
    refine mm_s1 rfl ?_
    refine mm_s1 rfl ?_
    obtain ⟨b110, h⟩ := h
    refine mm_s1 rfl ⟨(nn_c402 NN).1, ?_⟩
    refine np_Reader_beginsTerm (by decide) L N b110 ?_
    show mm_Go (mm_run 3) mc_Reader_readAtoms _ (113, [(0, .inr (.inr 402)), (1, .inr (.inr v1)), (2, .inl v2)], [.inl (nf_Reader_beginsTerm M), .inr (.inr 402)], M)
    refine mm_s1 rfl ⟨fun c113 => ?_, fun c113 => ?_⟩
    · show mm_Go (mm_run 3) mc_Reader_readAtoms _ (120, [(0, .inr (.inr 402)), (1, .inr (.inr v1)), (2, .inl v2)], [.inr (.inr 402)], M)
      replace h := h.1 c113
      refine mm_s1 rfl ?_
      refine mm_s1 rfl ⟨(nn_c402 NN).1, ?_⟩
      refine nn_call (D := 1) (by decide) (h n L N) ?_
      intro v M121 q; clear L N h
      obtain ⟨r121, rfl, q121, L, N, h⟩ := q
      show mm_Go (mm_run 3) mc_Reader_readAtoms _ (124, [(0, .inr (.inr 402)), (1, .inr (.inr v1)), (2, .inl v2)], [.inl r121], M121)
      exact mm_s1 rfl ⟨q121, _, rfl, q121, L, N, h⟩
    · show mm_Go (mm_run 3) mc_Reader_readAtoms _ (116, [(0, .inr (.inr 402)), (1, .inr (.inr v1)), (2, .inl v2)], [.inr (.inr 402)], M)
      replace h := h.2 c113
      refine mm_s1 rfl ?_
      refine mm_s1 rfl ?_
      show mm_Go (mm_run 3) mc_Reader_readAtoms _ (121, [(0, .inr (.inr 402)), (1, .inr (.inr v1)), (2, .inl v2)], [.inl 2, .inr (.inr 402)], M)
      refine mm_s1 rfl ⟨(nn_c402 NN).1, ?_⟩
      refine nn_call (D := 1) (by decide) (h n L N) ?_
      intro v M121 q; clear L N h
      obtain ⟨r121, rfl, q121, L, N, h⟩ := q
      show mm_Go (mm_run 3) mc_Reader_readAtoms _ (124, [(0, .inr (.inr 402)), (1, .inr (.inr v1)), (2, .inl v2)], [.inl r121], M121)
      exact mm_s1 rfl ⟨q121, _, rfl, q121, L, N, h⟩
  · show mm_Go (mm_run 3) mc_Reader_readAtoms _ (7, [(0, .inr (.inr 402)), (1, .inr (.inr v1)), (2, .inl v2)], [], M)
    replace c4 := Int.not_le.mp c4
    replace h := h.2 c4
    refine mm_s1 rfl ?_
    refine mm_s1 rfl ?_
    refine mm_s1 rfl ?_
    refine mm_s1 rfl ?_
    refine mm_s1 rfl ?_
    show mm_Go (mm_run 3) mc_Reader_readAtoms _ (12, [(0, .inr (.inr 402)), (1, .inr (.inr v1)), (2, .inl v2)], [.inl (mm_w (2 * v2)), .inr (.inr v1), .inr (.inr 402)], M)
    refine mm_s1 rfl ?_
    refine mm_s1 rfl ?_
    refine mm_s1 rfl ⟨(nn_c402 NN).1, ?_⟩
    refine nn_call (D := 3) (by decide) (h n L N C1) ?_
    intro v M14 q; clear L N h
    obtain ⟨r14, rfl, q14, L, N, h⟩ := q
    show mm_Go (mm_run 3) mc_Reader_readAtoms _ (17, [(0, .inr (.inr 402)), (1, .inr (.inr v1)), (2, .inl v2)], [.inl r14], M14)
    refine mm_s1 rfl ⟨fun c17 => ?_, fun c17 => ?_⟩
    · show mm_Go (mm_run 3) mc_Reader_readAtoms _ (22, [(0, .inr (.inr 402)), (1, .inr (.inr v1)), (2, .inl v2)], [], M14)
      replace h := h.1 c17
      refine mm_s1 rfl ?_
      refine nn_getr rfl C1.1 (lf_8_1 L N C1) ?_
      refine mm_s1 rfl ?_
      refine mm_s1 rfl ?_
      refine nn_getr rfl (nn_c402 NN).1 (lf_7_0 L N (nn_c402 NN)) ?_
      show mm_Go (mm_run 3) mc_Reader_readAtoms _ (31, [(0, .inr (.inr 402)), (1, .inr (.inr v1)), (2, .inl v2)], [.inr (.inr 403), .inl v2, .inr (.inr (v1 + 2))], M14)
      refine mm_s1 rfl ?_
      refine mm_s1 rfl ⟨(nn_c402 NN).1, ?_⟩
      show mm_Go (mm_run 3) mc_Reader_readAtoms _ (35, [(0, .inr (.inr 402)), (1, .inr (.inr v1)), (2, .inl v2)], [.inl (nn_rf M14 402 3), .inr (.inr 403), .inl v2, .inr (.inr (v1 + 2))], M14)
      obtain ⟨b35, h⟩ := h
      refine mm_s1 rfl ⟨nn_bd (na_7_0 NN (nn_c402 NN)) b35, ?_⟩
      show mm_Go (mm_run 3) mc_Reader_readAtoms _ (36, [(0, .inr (.inr 402)), (1, .inr (.inr v1)), (2, .inl v2)], [.inl (nn_ri M14 403 (nn_rf M14 402 3)), .inl v2, .inr (.inr (v1 + 2))], M14)
      obtain ⟨b36, h⟩ := h
      refine mm_s1 rfl ⟨nn_bd (na_8_1 NN C1) b36, ?_⟩
      show mm_Go (mm_run 3) mc_Reader_readAtoms _ (37, [(0, .inr (.inr 402)), (1, .inr (.inr v1)), (2, .inl v2)], [], (nn_ui M14 (v1 + 2) v2 (nn_ri M14 403 (nn_rf M14 402 3))))
      have L : nn_L (nn_ui M14 (v1 + 2) v2 (nn_ri M14 403 (nn_rf M14 402 3))) := nn_L_ua L (congrArg Prod.fst (na_8_1 NN C1)) (by decide)
      have N : (nn_ui M14 (v1 + 2) v2 (nn_ri M14 403 (nn_rf M14 402 3))).1 = n := N
      generalize e_M36 : (nn_ui M14 (v1 + 2) v2 (nn_ri M14 403 (nn_rf M14 402 3))) = M36 at L N ⊢
      replace h := h _ e_M36.symm
      show mm_Go (mm_run 3) mc_Reader_readAtoms _ (37, [(0, .inr (.inr 402)), (1, .inr (.inr v1)), (2, .inl v2)], [], M36)
      refine mm_s1 rfl ?_
      refine mm_s1 rfl ?_
      refine mm_s1 rfl ?_
      refine mm_s1 rfl ?_
      refine mm_s1 rfl ⟨C1.1, ?_⟩
      show mm_Go (mm_run 3) mc_Reader_readAtoms _ (44, [(0, .inr (.inr 402)), (1, .inr (.inr v1)), (2, .inl v2)], [], (nn_uf M36 v1 2 (mm_w (v2 + 1))))
      have L : nn_L (nn_uf M36 v1 2 (mm_w (v2 + 1))) := nn_L_up L C1.1 rfl
      have N : (nn_uf M36 v1 2 (mm_w (v2 + 1))).1 = n := N
      generalize e_M41 : (nn_uf M36 v1 2 (mm_w (v2 + 1))) = M41 at L N ⊢
      replace h := h _ e_M41.symm
      show mm_Go (mm_run 3) mc_Reader_readAtoms _ (44, [(0, .inr (.inr 402)), (1, .inr (.inr v1)), (2, .inl v2)], [], M41)
      refine mm_s1 rfl ?_
      refine mm_s1 rfl ?_
      refine mm_s1 rfl ⟨(nn_c402 NN).1, ?_⟩
      refine nn_call (D := 1) (by decide) (h n L N) ?_
      intro v M47 q; clear L N h
      obtain ⟨r47, rfl, q47, L, N, h⟩ := q
      show mm_Go (mm_run 3) mc_Reader_readAtoms _ (50, [(0, .inr (.inr 402)), (1, .inr (.inr v1)), (2, .inl v2)], [.inl r47], M47)
      refine mm_s1 rfl ⟨fun c50 => ?_, fun c50 => ?_⟩
      · show mm_Go (mm_run 3) mc_Reader_readAtoms _ (77, [(0, .inr (.inr 402)), (1, .inr (.inr v1)), (2, .inl v2)], [], M47)
        replace h := h.1 c50
        refine mm_s1 rfl ?_
        refine mm_s1 rfl ?_
        refine mm_s1 rfl ?_
        refine mm_s1 rfl ?_
        refine mm_s1 rfl ?_
        show mm_Go (mm_run 3) mc_Reader_readAtoms _ (82, [(0, .inr (.inr 402)), (1, .inr (.inr v1)), (2, .inl v2)], [.inl (mm_w (2 * v2)), .inr (.inr v1), .inr (.inr 402)], M47)
        refine mm_s1 rfl ?_
        refine mm_s1 rfl ?_
        refine mm_s1 rfl ⟨(nn_c402 NN).1, ?_⟩
        refine nn_call (D := 3) (by decide) (h n L N C1) ?_
        intro v M84 q; clear L N h
        obtain ⟨r84, rfl, q84, L, N, h⟩ := q
        show mm_Go (mm_run 3) mc_Reader_readAtoms _ (87, [(0, .inr (.inr 402)), (1, .inr (.inr v1)), (2, .inl v2)], [.inl r84], M84)
        refine mm_s1 rfl ⟨fun c87 => ?_, fun c87 => ?_⟩
        · show mm_Go (mm_run 3) mc_Reader_readAtoms _ (92, [(0, .inr (.inr 402)), (1, .inr (.inr v1)), (2, .inl v2)], [], M84)
          replace h := h.1 c87
          refine mm_s1 rfl ?_
          refine mm_s1 rfl ?_
          refine mm_s1 rfl ⟨(nn_c402 NN).1, ?_⟩
          refine nn_call (D := 1) (by decide) (h n L N) ?_
          intro v M94 q; clear L N h
          obtain ⟨r94, rfl, q94, L, N, h⟩ := q
          show mm_Go (mm_run 3) mc_Reader_readAtoms _ (97, [(0, .inr (.inr 402)), (1, .inr (.inr v1)), (2, .inl v2)], [.inl r94], M94)
          refine mm_s1 rfl ⟨fun c97 => ?_, fun c97 => ?_⟩
          · show mm_Go (mm_run 3) mc_Reader_readAtoms _ (102, [(0, .inr (.inr 402)), (1, .inr (.inr v1)), (2, .inl v2)], [], M94)
            replace h := h.1 c97
            refine mm_s1 rfl ?_
            show mm_Go (mm_run 3) mc_Reader_readAtoms _ (105, [(0, .inr (.inr 402)), (1, .inr (.inr v1)), (2, .inl (mm_w (v2 + 1)))], [], M94)
            refine mm_s1 rfl ?_
            show mm_Go (mm_run 3) mc_Reader_readAtoms _ (2, [(0, .inr (.inr 402)), (1, .inr (.inr v1)), (2, .inl (mm_w (v2 + 1)))], [], M94)
            exact nn_go_ext (nn_xc rfl (nn_xc rfl (nn_xc rfl nn_xn))) (h n L N C1)
          · show mm_Go (mm_run 3) mc_Reader_readAtoms _ (100, [(0, .inr (.inr 402)), (1, .inr (.inr v1)), (2, .inl v2)], [], M94)
            replace c97 := Decidable.not_not.mp c97
            replace h := h.2 c97
            refine mm_s1 rfl ?_
            exact mm_s1 rfl ⟨(Or.inr rfl), _, rfl, (Or.inr rfl), L, N, h⟩
        · show mm_Go (mm_run 3) mc_Reader_readAtoms _ (90, [(0, .inr (.inr 402)), (1, .inr (.inr v1)), (2, .inl v2)], [], M84)
          replace c87 := Decidable.not_not.mp c87
          replace h := h.2 c87
          refine mm_s1 rfl ?_
          exact mm_s1 rfl ⟨(Or.inl rfl), _, rfl, (Or.inl rfl), L, N, h⟩
      · show mm_Go (mm_run 3) mc_Reader_readAtoms _ (53, [(0, .inr (.inr 402)), (1, .inr (.inr v1)), (2, .inl v2)], [], M47)
        replace c50 := Decidable.not_not.mp c50
        replace h := h.2 c50
        refine mm_s1 rfl ?_
        refine mm_s1 rfl ?_
        refine mm_s1 rfl ⟨(nn_c402 NN).1, ?_⟩
        refine nn_call (D := 1) (by decide) (h n L N) ?_
        intro v M56 q; clear L N h
        obtain ⟨r56, rfl, q56, L, N, h⟩ := q
        show mm_Go (mm_run 3) mc_Reader_readAtoms _ (59, [(0, .inr (.inr 402)), (1, .inr (.inr v1)), (2, .inl v2)], [.inl r56], M56)
        refine mm_s1 rfl ⟨fun c59 => ?_, fun c59 => ?_⟩
        · show mm_Go (mm_run 3) mc_Reader_readAtoms _ (77, [(0, .inr (.inr 402)), (1, .inr (.inr v1)), (2, .inl v2)], [], M56)
          replace h := h.1 c59
          refine mm_s1 rfl ?_
          refine mm_s1 rfl ?_
          refine mm_s1 rfl ?_
          refine mm_s1 rfl ?_
          refine mm_s1 rfl ?_
          show mm_Go (mm_run 3) mc_Reader_readAtoms _ (82, [(0, .inr (.inr 402)), (1, .inr (.inr v1)), (2, .inl v2)], [.inl (mm_w (2 * v2)), .inr (.inr v1), .inr (.inr 402)], M56)
          refine mm_s1 rfl ?_
          refine mm_s1 rfl ?_
          refine mm_s1 rfl ⟨(nn_c402 NN).1, ?_⟩
          refine nn_call (D := 3) (by decide) (h n L N C1) ?_
          intro v M84 q; clear L N h
          obtain ⟨r84, rfl, q84, L, N, h⟩ := q
          show mm_Go (mm_run 3) mc_Reader_readAtoms _ (87, [(0, .inr (.inr 402)), (1, .inr (.inr v1)), (2, .inl v2)], [.inl r84], M84)
          refine mm_s1 rfl ⟨fun c87 => ?_, fun c87 => ?_⟩
          · show mm_Go (mm_run 3) mc_Reader_readAtoms _ (92, [(0, .inr (.inr 402)), (1, .inr (.inr v1)), (2, .inl v2)], [], M84)
            replace h := h.1 c87
            refine mm_s1 rfl ?_
            refine mm_s1 rfl ?_
            refine mm_s1 rfl ⟨(nn_c402 NN).1, ?_⟩
            refine nn_call (D := 1) (by decide) (h n L N) ?_
            intro v M94 q; clear L N h
            obtain ⟨r94, rfl, q94, L, N, h⟩ := q
            show mm_Go (mm_run 3) mc_Reader_readAtoms _ (97, [(0, .inr (.inr 402)), (1, .inr (.inr v1)), (2, .inl v2)], [.inl r94], M94)
            refine mm_s1 rfl ⟨fun c97 => ?_, fun c97 => ?_⟩
            · show mm_Go (mm_run 3) mc_Reader_readAtoms _ (102, [(0, .inr (.inr 402)), (1, .inr (.inr v1)), (2, .inl v2)], [], M94)
              replace h := h.1 c97
              refine mm_s1 rfl ?_
              show mm_Go (mm_run 3) mc_Reader_readAtoms _ (105, [(0, .inr (.inr 402)), (1, .inr (.inr v1)), (2, .inl (mm_w (v2 + 1)))], [], M94)
              refine mm_s1 rfl ?_
              show mm_Go (mm_run 3) mc_Reader_readAtoms _ (2, [(0, .inr (.inr 402)), (1, .inr (.inr v1)), (2, .inl (mm_w (v2 + 1)))], [], M94)
              exact nn_go_ext (nn_xc rfl (nn_xc rfl (nn_xc rfl nn_xn))) (h n L N C1)
            · show mm_Go (mm_run 3) mc_Reader_readAtoms _ (100, [(0, .inr (.inr 402)), (1, .inr (.inr v1)), (2, .inl v2)], [], M94)
              replace c97 := Decidable.not_not.mp c97
              replace h := h.2 c97
              refine mm_s1 rfl ?_
              exact mm_s1 rfl ⟨(Or.inr rfl), _, rfl, (Or.inr rfl), L, N, h⟩
          · show mm_Go (mm_run 3) mc_Reader_readAtoms _ (90, [(0, .inr (.inr 402)), (1, .inr (.inr v1)), (2, .inl v2)], [], M84)
            replace c87 := Decidable.not_not.mp c87
            replace h := h.2 c87
            refine mm_s1 rfl ?_
            exact mm_s1 rfl ⟨(Or.inl rfl), _, rfl, (Or.inl rfl), L, N, h⟩
        · show mm_Go (mm_run 3) mc_Reader_readAtoms _ (62, [(0, .inr (.inr 402)), (1, .inr (.inr v1)), (2, .inl v2)], [], M56)
          replace c59 := Decidable.not_not.mp c59
          replace h := h.2 c59
          refine mm_s1 rfl ?_
          refine mm_s1 rfl ?_
          refine mm_s1 rfl ⟨(nn_c402 NN).1, ?_⟩
          refine nn_call (D := 1) (by decide) (h n L N) ?_
          intro v M65 q; clear L N h
          obtain ⟨r65, rfl, q65, L, N, h⟩ := q
          show mm_Go (mm_run 3) mc_Reader_readAtoms _ (68, [(0, .inr (.inr 402)), (1, .inr (.inr v1)), (2, .inl v2)], [.inl r65], M65)
          refine mm_s1 rfl ⟨fun c68 => ?_, fun c68 => ?_⟩
          · show mm_Go (mm_run 3) mc_Reader_readAtoms _ (77, [(0, .inr (.inr 402)), (1, .inr (.inr v1)), (2, .inl v2)], [], M65)
            replace h := h.1 c68
            refine mm_s1 rfl ?_
            refine mm_s1 rfl ?_
            refine mm_s1 rfl ?_
            refine mm_s1 rfl ?_
            refine mm_s1 rfl ?_
            show mm_Go (mm_run 3) mc_Reader_readAtoms _ (82, [(0, .inr (.inr 402)), (1, .inr (.inr v1)), (2, .inl v2)], [.inl (mm_w (2 * v2)), .inr (.inr v1), .inr (.inr 402)], M65)
            refine mm_s1 rfl ?_
            refine mm_s1 rfl ?_
            refine mm_s1 rfl ⟨(nn_c402 NN).1, ?_⟩
            refine nn_call (D := 3) (by decide) (h n L N C1) ?_
            intro v M84 q; clear L N h
            obtain ⟨r84, rfl, q84, L, N, h⟩ := q
            show mm_Go (mm_run 3) mc_Reader_readAtoms _ (87, [(0, .inr (.inr 402)), (1, .inr (.inr v1)), (2, .inl v2)], [.inl r84], M84)
            refine mm_s1 rfl ⟨fun c87 => ?_, fun c87 => ?_⟩
            · show mm_Go (mm_run 3) mc_Reader_readAtoms _ (92, [(0, .inr (.inr 402)), (1, .inr (.inr v1)), (2, .inl v2)], [], M84)
              replace h := h.1 c87
              refine mm_s1 rfl ?_
              refine mm_s1 rfl ?_
              refine mm_s1 rfl ⟨(nn_c402 NN).1, ?_⟩
              refine nn_call (D := 1) (by decide) (h n L N) ?_
              intro v M94 q; clear L N h
              obtain ⟨r94, rfl, q94, L, N, h⟩ := q
              show mm_Go (mm_run 3) mc_Reader_readAtoms _ (97, [(0, .inr (.inr 402)), (1, .inr (.inr v1)), (2, .inl v2)], [.inl r94], M94)
              refine mm_s1 rfl ⟨fun c97 => ?_, fun c97 => ?_⟩
              · show mm_Go (mm_run 3) mc_Reader_readAtoms _ (102, [(0, .inr (.inr 402)), (1, .inr (.inr v1)), (2, .inl v2)], [], M94)
                replace h := h.1 c97
                refine mm_s1 rfl ?_
                show mm_Go (mm_run 3) mc_Reader_readAtoms _ (105, [(0, .inr (.inr 402)), (1, .inr (.inr v1)), (2, .inl (mm_w (v2 + 1)))], [], M94)
                refine mm_s1 rfl ?_
                show mm_Go (mm_run 3) mc_Reader_readAtoms _ (2, [(0, .inr (.inr 402)), (1, .inr (.inr v1)), (2, .inl (mm_w (v2 + 1)))], [], M94)
                exact nn_go_ext (nn_xc rfl (nn_xc rfl (nn_xc rfl nn_xn))) (h n L N C1)
              · show mm_Go (mm_run 3) mc_Reader_readAtoms _ (100, [(0, .inr (.inr 402)), (1, .inr (.inr v1)), (2, .inl v2)], [], M94)
                replace c97 := Decidable.not_not.mp c97
                replace h := h.2 c97
                refine mm_s1 rfl ?_
                exact mm_s1 rfl ⟨(Or.inr rfl), _, rfl, (Or.inr rfl), L, N, h⟩
            · show mm_Go (mm_run 3) mc_Reader_readAtoms _ (90, [(0, .inr (.inr 402)), (1, .inr (.inr v1)), (2, .inl v2)], [], M84)
              replace c87 := Decidable.not_not.mp c87
              replace h := h.2 c87
              refine mm_s1 rfl ?_
              exact mm_s1 rfl ⟨(Or.inl rfl), _, rfl, (Or.inl rfl), L, N, h⟩
          · show mm_Go (mm_run 3) mc_Reader_readAtoms _ (71, [(0, .inr (.inr 402)), (1, .inr (.inr v1)), (2, .inl v2)], [], M65)
            replace c68 := Decidable.not_not.mp c68
            replace h := h.2 c68
            refine mm_s1 rfl ?_
            refine mm_s1 rfl ?_
            refine mm_s1 rfl ⟨(nn_c402 NN).1, ?_⟩
            refine nn_call (D := 1) (by decide) (h n L N) ?_
            intro v M73 q; clear L N h
            obtain ⟨r73, rfl, q73, L, N, h⟩ := q
            show mm_Go (mm_run 3) mc_Reader_readAtoms _ (76, [(0, .inr (.inr 402)), (1, .inr (.inr v1)), (2, .inl v2)], [.inl r73], M73)
            exact mm_s1 rfl ⟨q73, _, rfl, q73, L, N, h⟩
    · show mm_Go (mm_run 3) mc_Reader_readAtoms _ (20, [(0, .inr (.inr 402)), (1, .inr (.inr v1)), (2, .inl v2)], [], M14)
      replace c17 := Decidable.not_not.mp c17
      replace h := h.2 c17
      refine mm_s1 rfl ?_
      exact mm_s1 rfl ⟨(Or.inl rfl), _, rfl, (Or.inl rfl), L, N, h⟩
def nr_Store_isRefused (v0 : Nat) (v1 : Int) (v2 : Int) (v3 : Int) (M : mm_M) (R : Int → mm_M → Prop) : Prop := ∀ n, nn_L M → M.1 = n → nn_C 9 v0 n → mm_run 4 mi_Store_isRefused [.inr (.inr v0), .inl v1, .inl v2, .inl v3] M (nw_Z n R)
def nk_Store_isRefused_16 (v0 : Nat) (v1 : Int) (v2 : Int) (v3 : Int) (v4 : Int) (M : mm_M) (R : Int → mm_M → Prop) : Prop := ∀ n, nn_L M → M.1 = n → nn_C 9 v0 n → mm_Go (mm_run 3) mc_Store_isRefused (nw_Z n R) (16, [(0, .inr (.inr v0)), (1, .inl v1), (2, .inl v2), (3, .inl v3), (4, .inl v4)], [], M)
set_option maxRecDepth 20000 in
theorem ng_Store_isRefused (v0 : Nat) (v1 : Int) (v2 : Int) (v3 : Int) (M : mm_M) (R : Int → mm_M → Prop) (h : ((v3 ≠ (-1) → nk_Store_isRefused_16 v0 v1 v2 v3 0 M R) ∧ (v3 = (-1) → (nr_Store_tell v0 v1 v2 M (fun M8 => R 1 M8))))) : nr_Store_isRefused v0 v1 v2 v3 M R := by
  intro n L N C0
  have NN := nn_L_n L N
  show mm_Go (mm_run 3) mc_Store_isRefused _ (0, [(0, .inr (.inr v0)), (1, .inl v1), (2, .inl v2), (3, .inl v3)], [], M)
  refine mm_s1 rfl ?_
  refine mm_s1 rfl ?_
  refine mm_s1 rfl ⟨fun c2 => ?_, fun c2 => ?_⟩
  · show mm_Go (mm_run 3) mc_Store_isRefused _ (13, [(0, .inr (.inr v0)), (1, .inl v1), (2, .inl v2), (3, .inl v3)], [], M)
    replace h := h.1 c2
    refine mm_s1 rfl ?_
    refine mm_s1 rfl ?_
    show mm_Go (mm_run 3) mc_Store_isRefused _ (16, [(0, .inr (.inr v0)), (1, .inl v1), (2, .inl v2), (3, .inl v3), (4, .inl 0)], [], M)
    exact nn_go_ext (nn_xc rfl (nn_xc rfl (nn_xc rfl (nn_xc rfl (nn_xc rfl nn_xn))))) (h n L N C0)
  · show mm_Go (mm_run 3) mc_Store_isRefused _ (5, [(0, .inr (.inr v0)), (1, .inl v1), (2, .inl v2), (3, .inl v3)], [], M)
    replace c2 := Decidable.not_not.mp c2
    replace h := h.2 c2
    refine mm_s1 rfl ?_
    refine mm_s1 rfl ?_
    refine mm_s1 rfl ?_
    refine mm_s1 rfl ⟨C0.1, ?_⟩
    refine nn_call (D := 1) (by decide) (h n L N C0) ?_
    intro v M8 q; clear L N h
    obtain ⟨rfl, L, N, h⟩ := q
    show mm_Go (mm_run 3) mc_Store_isRefused _ (11, [(0, .inr (.inr v0)), (1, .inl v1), (2, .inl v2), (3, .inl v3)], [], M8)
    refine mm_s1 rfl ?_
    exact mm_s1 rfl ⟨(Or.inr rfl), _, rfl, (Or.inr rfl), L, N, h⟩
set_option maxRecDepth 20000 in
theorem ng_Store_isRefused_16 (v0 : Nat) (v1 : Int) (v2 : Int) (v3 : Int) (v4 : Int) (M : mm_M) (R : Int → mm_M → Prop) (h : ((4 ≤ v4 → R 0 M) ∧ (v4 < 4 → (((0 : Int) ≤ v4 ∧ v4 < (4 : Int)) ∧ ((((nn_rf M (v0 + 90 + 15 * (v4).toNat) 5) ≠ 2 ∨ ((nn_rf M (v0 + 90 + 15 * (v4).toNat) 6) = 0)) → nk_Store_isRefused_16 v0 v1 v2 v3 (mm_w (v4 + 1)) M R) ∧ (((nn_rf M (v0 + 90 + 15 * (v4).toNat) 5) = 2 ∧ ((nn_rf M (v0 + 90 + 15 * (v4).toNat) 6) ≠ 0)) → (nr_Rule_valueOf ((v0 + 90 + 15 * (v4).toNat) + 1) v3 M (fun r54 M54 => ((r54 ≠ (-1) → (nr_Index_another (v0 + 90 + 15 * (v4).toNat) r54 v2 M54 (fun r78 M78 => ((r78 = (-1) → nk_Store_isRefused_16 v0 v1 v2 v3 (mm_w (v4 + 1)) M78 R) ∧ (r78 ≠ (-1) → (nr_Store_tell v0 v1 v2 M78 (fun M92 => (nr_Store_tellBy v0 v4 r54 r78 M92 (fun M102 => R 1 M102))))))))) ∧ (r54 = (-1) → nk_Store_isRefused_16 v0 v1 v2 v3 (mm_w (v4 + 1)) M54 R)))))))))) : nk_Store_isRefused_16 v0 v1 v2 v3 v4 M R := by
  intro n L N C0
  have NN := nn_L_n L N
  show mm_Go (mm_run 3) mc_Store_isRefused _ (16, [(0, .inr (.inr v0)), (1, .inl v1), (2, .inl v2), (3, .inl v3), (4, .inl v4)], [], M)
  refine mm_s1 rfl ?_
  refine mm_s1 rfl ?_
  refine mm_s1 rfl ⟨fun c19 => ?_, fun c19 => ?_⟩
  · show mm_Go (mm_run 3) mc_Store_isRefused _ (113, [(0, .inr (.inr v0)), (1, .inl v1), (2, .inl v2), (3, .inl v3), (4, .inl v4)], [], M)
    replace h := h.1 c19
    refine mm_s1 rfl ?_
    exact mm_s1 rfl ⟨(Or.inl rfl), _, rfl, (Or.inl rfl), L, N, h⟩
  · show mm_Go (mm_run 3) mc_Store_isRefused _ (22, [(0, .inr (.inr v0)), (1, .inl v1), (2, .inl v2), (3, .inl v3), (4, .inl v4)], [], M)
    replace c19 := Int.not_le.mp c19
    replace h := h.2 c19
    refine mm_s1 rfl ?_
    refine nn_getr rfl C0.1 (lf_9_2 L N C0) ?_
    refine mm_s1 rfl ?_
    obtain ⟨b28, h⟩ := h
    have C28 : nn_C 5 (v0 + 90 + 15 * (v4).toNat) n := (nn_arr NN (nc_9_2 NN C0).2).1 (nc_9_2 NN C0).1 _ (nn_tn b28 (by decide))
    refine nn_aald rfl (nn_bd30 (na_9_2 NN C0) (by decide) b28) (nn_l35 L N (nc_9_2 NN C0) b28) ?_
    show mm_Go (mm_run 3) mc_Store_isRefused _ (29, [(0, .inr (.inr v0)), (1, .inl v1), (2, .inl v2), (3, .inl v3), (4, .inl v4)], [.inr (.inr (v0 + 90 + 15 * (v4).toNat))], M)
    refine mm_s1 rfl ?_
    show mm_Go (mm_run 3) mc_Store_isRefused _ (31, [(0, .inr (.inr v0)), (1, .inl v1), (2, .inl v2), (3, .inl v3), (4, .inl v4), (5, .inr (.inr (v0 + 90 + 15 * (v4).toNat)))], [], M)
    refine mm_s1 rfl ?_
    refine mm_s1 rfl ⟨C28.1, ?_⟩
    show mm_Go (mm_run 3) mc_Store_isRefused _ (36, [(0, .inr (.inr v0)), (1, .inl v1), (2, .inl v2), (3, .inl v3), (4, .inl v4), (5, .inr (.inr (v0 + 90 + 15 * (v4).toNat)))], [.inl (nn_rf M (v0 + 90 + 15 * (v4).toNat) 5)], M)
    refine mm_s1 rfl ?_
    refine mm_s1 rfl ⟨fun c37 => ?_, fun c37 => ?_⟩
    · show mm_Go (mm_run 3) mc_Store_isRefused _ (60, [(0, .inr (.inr v0)), (1, .inl v1), (2, .inl v2), (3, .inl v3), (4, .inl v4), (5, .inr (.inr (v0 + 90 + 15 * (v4).toNat)))], [], M)
      refine mm_s1 rfl ?_
      refine mm_s1 rfl ?_
      show mm_Go (mm_run 3) mc_Store_isRefused _ (63, [(0, .inr (.inr v0)), (1, .inl v1), (2, .inl v2), (3, .inl v3), (4, .inl v4), (5, .inr (.inr (v0 + 90 + 15 * (v4).toNat))), (6, .inl (-1))], [], M)
      refine mm_s1 rfl ?_
      refine mm_s1 rfl ?_
      refine mm_s1 rfl ⟨fun c => absurd c (show ¬ ((-1 : Int) ≠ -1) by decide), fun _ => ?_⟩
      show mm_Go (mm_run 3) mc_Store_isRefused _ (69, [(0, .inr (.inr v0)), (1, .inl v1), (2, .inl v2), (3, .inl v3), (4, .inl v4), (5, .inr (.inr (v0 + 90 + 15 * (v4).toNat))), (6, .inl (-1))], [], M)
      refine mm_s1 rfl ?_
      refine mm_s1 rfl ?_
      show mm_Go (mm_run 3) mc_Store_isRefused _ (81, [(0, .inr (.inr v0)), (1, .inl v1), (2, .inl v2), (3, .inl v3), (4, .inl v4), (5, .inr (.inr (v0 + 90 + 15 * (v4).toNat))), (6, .inl (-1))], [.inl (-1)], M)
      refine mm_s1 rfl ?_
      show mm_Go (mm_run 3) mc_Store_isRefused _ (83, [(0, .inr (.inr v0)), (1, .inl v1), (2, .inl v2), (3, .inl v3), (4, .inl v4), (5, .inr (.inr (v0 + 90 + 15 * (v4).toNat))), (6, .inl (-1)), (7, .inl (-1))], [], M)
      refine mm_s1 rfl ?_
      refine mm_s1 rfl ?_
      refine mm_s1 rfl ⟨fun _ => ?_, fun c => absurd (show (-1 : Int) = -1 by decide) c⟩
      show mm_Go (mm_run 3) mc_Store_isRefused _ (107, [(0, .inr (.inr v0)), (1, .inl v1), (2, .inl v2), (3, .inl v3), (4, .inl v4), (5, .inr (.inr (v0 + 90 + 15 * (v4).toNat))), (6, .inl (-1)), (7, .inl (-1))], [], M)
      refine mm_s1 rfl ?_
      show mm_Go (mm_run 3) mc_Store_isRefused _ (110, [(0, .inr (.inr v0)), (1, .inl v1), (2, .inl v2), (3, .inl v3), (4, .inl (mm_w (v4 + 1))), (5, .inr (.inr (v0 + 90 + 15 * (v4).toNat))), (6, .inl (-1)), (7, .inl (-1))], [], M)
      refine mm_s1 rfl ?_
      show mm_Go (mm_run 3) mc_Store_isRefused _ (16, [(0, .inr (.inr v0)), (1, .inl v1), (2, .inl v2), (3, .inl v3), (4, .inl (mm_w (v4 + 1))), (5, .inr (.inr (v0 + 90 + 15 * (v4).toNat))), (6, .inl (-1)), (7, .inl (-1))], [], M)
      replace h := h.1 (Or.inl c37)
      exact nn_go_ext (nn_xc rfl (nn_xc rfl (nn_xc rfl (nn_xc rfl (nn_xc rfl nn_xn))))) (h n L N C0)
    · show mm_Go (mm_run 3) mc_Store_isRefused _ (40, [(0, .inr (.inr v0)), (1, .inl v1), (2, .inl v2), (3, .inl v3), (4, .inl v4), (5, .inr (.inr (v0 + 90 + 15 * (v4).toNat)))], [], M)
      replace c37 := Decidable.not_not.mp c37
      refine mm_s1 rfl ?_
      refine mm_s1 rfl ⟨C28.1, ?_⟩
      show mm_Go (mm_run 3) mc_Store_isRefused _ (45, [(0, .inr (.inr v0)), (1, .inl v1), (2, .inl v2), (3, .inl v3), (4, .inl v4), (5, .inr (.inr (v0 + 90 + 15 * (v4).toNat)))], [.inl (nn_rf M (v0 + 90 + 15 * (v4).toNat) 6)], M)
      refine mm_s1 rfl ⟨fun c45 => ?_, fun c45 => ?_⟩
      · show mm_Go (mm_run 3) mc_Store_isRefused _ (60, [(0, .inr (.inr v0)), (1, .inl v1), (2, .inl v2), (3, .inl v3), (4, .inl v4), (5, .inr (.inr (v0 + 90 + 15 * (v4).toNat)))], [], M)
        refine mm_s1 rfl ?_
        refine mm_s1 rfl ?_
        show mm_Go (mm_run 3) mc_Store_isRefused _ (63, [(0, .inr (.inr v0)), (1, .inl v1), (2, .inl v2), (3, .inl v3), (4, .inl v4), (5, .inr (.inr (v0 + 90 + 15 * (v4).toNat))), (6, .inl (-1))], [], M)
        refine mm_s1 rfl ?_
        refine mm_s1 rfl ?_
        refine mm_s1 rfl ⟨fun c => absurd c (show ¬ ((-1 : Int) ≠ -1) by decide), fun _ => ?_⟩
        show mm_Go (mm_run 3) mc_Store_isRefused _ (69, [(0, .inr (.inr v0)), (1, .inl v1), (2, .inl v2), (3, .inl v3), (4, .inl v4), (5, .inr (.inr (v0 + 90 + 15 * (v4).toNat))), (6, .inl (-1))], [], M)
        refine mm_s1 rfl ?_
        refine mm_s1 rfl ?_
        show mm_Go (mm_run 3) mc_Store_isRefused _ (81, [(0, .inr (.inr v0)), (1, .inl v1), (2, .inl v2), (3, .inl v3), (4, .inl v4), (5, .inr (.inr (v0 + 90 + 15 * (v4).toNat))), (6, .inl (-1))], [.inl (-1)], M)
        refine mm_s1 rfl ?_
        show mm_Go (mm_run 3) mc_Store_isRefused _ (83, [(0, .inr (.inr v0)), (1, .inl v1), (2, .inl v2), (3, .inl v3), (4, .inl v4), (5, .inr (.inr (v0 + 90 + 15 * (v4).toNat))), (6, .inl (-1)), (7, .inl (-1))], [], M)
        refine mm_s1 rfl ?_
        refine mm_s1 rfl ?_
        refine mm_s1 rfl ⟨fun _ => ?_, fun c => absurd (show (-1 : Int) = -1 by decide) c⟩
        show mm_Go (mm_run 3) mc_Store_isRefused _ (107, [(0, .inr (.inr v0)), (1, .inl v1), (2, .inl v2), (3, .inl v3), (4, .inl v4), (5, .inr (.inr (v0 + 90 + 15 * (v4).toNat))), (6, .inl (-1)), (7, .inl (-1))], [], M)
        refine mm_s1 rfl ?_
        show mm_Go (mm_run 3) mc_Store_isRefused _ (110, [(0, .inr (.inr v0)), (1, .inl v1), (2, .inl v2), (3, .inl v3), (4, .inl (mm_w (v4 + 1))), (5, .inr (.inr (v0 + 90 + 15 * (v4).toNat))), (6, .inl (-1)), (7, .inl (-1))], [], M)
        refine mm_s1 rfl ?_
        show mm_Go (mm_run 3) mc_Store_isRefused _ (16, [(0, .inr (.inr v0)), (1, .inl v1), (2, .inl v2), (3, .inl v3), (4, .inl (mm_w (v4 + 1))), (5, .inr (.inr (v0 + 90 + 15 * (v4).toNat))), (6, .inl (-1)), (7, .inl (-1))], [], M)
        replace h := h.1 (Or.inr c45)
        exact nn_go_ext (nn_xc rfl (nn_xc rfl (nn_xc rfl (nn_xc rfl (nn_xc rfl nn_xn))))) (h n L N C0)
      · show mm_Go (mm_run 3) mc_Store_isRefused _ (48, [(0, .inr (.inr v0)), (1, .inl v1), (2, .inl v2), (3, .inl v3), (4, .inl v4), (5, .inr (.inr (v0 + 90 + 15 * (v4).toNat)))], [], M)
        refine mm_s1 rfl ?_
        refine nn_getr rfl C28.1 (lf_5_0 L N C28) ?_
        refine mm_s1 rfl ?_
        replace h := h.2 ⟨c37, c45⟩
        refine mm_s1 rfl ⟨(nc_5_0 NN C28).1, ?_⟩
        refine nn_call (D := 3) (by decide) (h n L N (nc_5_0 NN C28)) ?_
        intro v M54 q; clear L N h
        obtain ⟨r54, rfl, L, N, h⟩ := q
        show mm_Go (mm_run 3) mc_Store_isRefused _ (57, [(0, .inr (.inr v0)), (1, .inl v1), (2, .inl v2), (3, .inl v3), (4, .inl v4), (5, .inr (.inr (v0 + 90 + 15 * (v4).toNat)))], [.inl r54], M54)
        refine mm_s1 rfl ?_
        show mm_Go (mm_run 3) mc_Store_isRefused _ (61, [(0, .inr (.inr v0)), (1, .inl v1), (2, .inl v2), (3, .inl v3), (4, .inl v4), (5, .inr (.inr (v0 + 90 + 15 * (v4).toNat)))], [.inl r54], M54)
        refine mm_s1 rfl ?_
        show mm_Go (mm_run 3) mc_Store_isRefused _ (63, [(0, .inr (.inr v0)), (1, .inl v1), (2, .inl v2), (3, .inl v3), (4, .inl v4), (5, .inr (.inr (v0 + 90 + 15 * (v4).toNat))), (6, .inl r54)], [], M54)
        refine mm_s1 rfl ?_
        refine mm_s1 rfl ?_
        refine mm_s1 rfl ⟨fun c66 => ?_, fun c66 => ?_⟩
        · show mm_Go (mm_run 3) mc_Store_isRefused _ (73, [(0, .inr (.inr v0)), (1, .inl v1), (2, .inl v2), (3, .inl v3), (4, .inl v4), (5, .inr (.inr (v0 + 90 + 15 * (v4).toNat))), (6, .inl r54)], [], M54)
          replace h := h.1 c66
          refine mm_s1 rfl ?_
          refine mm_s1 rfl ?_
          refine mm_s1 rfl ?_
          refine mm_s1 rfl ⟨C28.1, ?_⟩
          refine nn_call (D := 1) (by decide) (h n L N C28) ?_
          intro v M78 q; clear L N h
          obtain ⟨r78, rfl, L, N, h⟩ := q
          show mm_Go (mm_run 3) mc_Store_isRefused _ (81, [(0, .inr (.inr v0)), (1, .inl v1), (2, .inl v2), (3, .inl v3), (4, .inl v4), (5, .inr (.inr (v0 + 90 + 15 * (v4).toNat))), (6, .inl r54)], [.inl r78], M78)
          refine mm_s1 rfl ?_
          show mm_Go (mm_run 3) mc_Store_isRefused _ (83, [(0, .inr (.inr v0)), (1, .inl v1), (2, .inl v2), (3, .inl v3), (4, .inl v4), (5, .inr (.inr (v0 + 90 + 15 * (v4).toNat))), (6, .inl r54), (7, .inl r78)], [], M78)
          refine mm_s1 rfl ?_
          refine mm_s1 rfl ?_
          refine mm_s1 rfl ⟨fun c86 => ?_, fun c86 => ?_⟩
          · show mm_Go (mm_run 3) mc_Store_isRefused _ (107, [(0, .inr (.inr v0)), (1, .inl v1), (2, .inl v2), (3, .inl v3), (4, .inl v4), (5, .inr (.inr (v0 + 90 + 15 * (v4).toNat))), (6, .inl r54), (7, .inl r78)], [], M78)
            replace h := h.1 c86
            refine mm_s1 rfl ?_
            show mm_Go (mm_run 3) mc_Store_isRefused _ (110, [(0, .inr (.inr v0)), (1, .inl v1), (2, .inl v2), (3, .inl v3), (4, .inl (mm_w (v4 + 1))), (5, .inr (.inr (v0 + 90 + 15 * (v4).toNat))), (6, .inl r54), (7, .inl r78)], [], M78)
            refine mm_s1 rfl ?_
            show mm_Go (mm_run 3) mc_Store_isRefused _ (16, [(0, .inr (.inr v0)), (1, .inl v1), (2, .inl v2), (3, .inl v3), (4, .inl (mm_w (v4 + 1))), (5, .inr (.inr (v0 + 90 + 15 * (v4).toNat))), (6, .inl r54), (7, .inl r78)], [], M78)
            exact nn_go_ext (nn_xc rfl (nn_xc rfl (nn_xc rfl (nn_xc rfl (nn_xc rfl nn_xn))))) (h n L N C0)
          · show mm_Go (mm_run 3) mc_Store_isRefused _ (89, [(0, .inr (.inr v0)), (1, .inl v1), (2, .inl v2), (3, .inl v3), (4, .inl v4), (5, .inr (.inr (v0 + 90 + 15 * (v4).toNat))), (6, .inl r54), (7, .inl r78)], [], M78)
            replace h := h.2 c86
            refine mm_s1 rfl ?_
            refine mm_s1 rfl ?_
            refine mm_s1 rfl ?_
            refine mm_s1 rfl ⟨C0.1, ?_⟩
            refine nn_call (D := 1) (by decide) (h n L N C0) ?_
            intro v M92 q; clear L N h
            obtain ⟨rfl, L, N, h⟩ := q
            show mm_Go (mm_run 3) mc_Store_isRefused _ (95, [(0, .inr (.inr v0)), (1, .inl v1), (2, .inl v2), (3, .inl v3), (4, .inl v4), (5, .inr (.inr (v0 + 90 + 15 * (v4).toNat))), (6, .inl r54), (7, .inl r78)], [], M92)
            refine mm_s1 rfl ?_
            refine mm_s1 rfl ?_
            refine mm_s1 rfl ?_
            refine mm_s1 rfl ?_
            refine mm_s1 rfl ⟨C0.1, ?_⟩
            refine nn_call (D := 1) (by decide) (h n L N C0) ?_
            intro v M102 q; clear L N h
            obtain ⟨rfl, L, N, h⟩ := q
            show mm_Go (mm_run 3) mc_Store_isRefused _ (105, [(0, .inr (.inr v0)), (1, .inl v1), (2, .inl v2), (3, .inl v3), (4, .inl v4), (5, .inr (.inr (v0 + 90 + 15 * (v4).toNat))), (6, .inl r54), (7, .inl r78)], [], M102)
            refine mm_s1 rfl ?_
            exact mm_s1 rfl ⟨(Or.inr rfl), _, rfl, (Or.inr rfl), L, N, h⟩
        · show mm_Go (mm_run 3) mc_Store_isRefused _ (69, [(0, .inr (.inr v0)), (1, .inl v1), (2, .inl v2), (3, .inl v3), (4, .inl v4), (5, .inr (.inr (v0 + 90 + 15 * (v4).toNat))), (6, .inl r54)], [], M54)
          replace c66 := Decidable.not_not.mp c66
          replace h := h.2 c66
          refine mm_s1 rfl ?_
          refine mm_s1 rfl ?_
          show mm_Go (mm_run 3) mc_Store_isRefused _ (81, [(0, .inr (.inr v0)), (1, .inl v1), (2, .inl v2), (3, .inl v3), (4, .inl v4), (5, .inr (.inr (v0 + 90 + 15 * (v4).toNat))), (6, .inl r54)], [.inl (-1)], M54)
          refine mm_s1 rfl ?_
          show mm_Go (mm_run 3) mc_Store_isRefused _ (83, [(0, .inr (.inr v0)), (1, .inl v1), (2, .inl v2), (3, .inl v3), (4, .inl v4), (5, .inr (.inr (v0 + 90 + 15 * (v4).toNat))), (6, .inl r54), (7, .inl (-1))], [], M54)
          refine mm_s1 rfl ?_
          refine mm_s1 rfl ?_
          refine mm_s1 rfl ⟨fun _ => ?_, fun c => absurd (show (-1 : Int) = -1 by decide) c⟩
          show mm_Go (mm_run 3) mc_Store_isRefused _ (107, [(0, .inr (.inr v0)), (1, .inl v1), (2, .inl v2), (3, .inl v3), (4, .inl v4), (5, .inr (.inr (v0 + 90 + 15 * (v4).toNat))), (6, .inl r54), (7, .inl (-1))], [], M54)
          refine mm_s1 rfl ?_
          show mm_Go (mm_run 3) mc_Store_isRefused _ (110, [(0, .inr (.inr v0)), (1, .inl v1), (2, .inl v2), (3, .inl v3), (4, .inl (mm_w (v4 + 1))), (5, .inr (.inr (v0 + 90 + 15 * (v4).toNat))), (6, .inl r54), (7, .inl (-1))], [], M54)
          refine mm_s1 rfl ?_
          show mm_Go (mm_run 3) mc_Store_isRefused _ (16, [(0, .inr (.inr v0)), (1, .inl v1), (2, .inl v2), (3, .inl v3), (4, .inl (mm_w (v4 + 1))), (5, .inr (.inr (v0 + 90 + 15 * (v4).toNat))), (6, .inl r54), (7, .inl (-1))], [], M54)
          exact nn_go_ext (nn_xc rfl (nn_xc rfl (nn_xc rfl (nn_xc rfl (nn_xc rfl nn_xn))))) (h n L N C0)
