/-! the law: a walk of each arm (2) -/
set_option maxRecDepth 100000 in
theorem lw_610 {bd i L : Int} {M : mm_M} {R : mm_P} (hi : 0 ≤ i ∧ i + 6 ≤ L ∧ L ≤ 3072) (hL : M.2 5001 0 = L) (hp : pr_ bd mi_LI_repair mi_M_repair [.inl (lx_ M i 1)] [.inl (lx_ M i 1)] M) (k : ∀ M2, scr_ M M2 → St_ bd M2 → mm_Go (mm_run 13) mc_LateIndexesLaw_law R (1429, lw_lv i, [], M2)) : mm_Go (mm_run 13) mc_LateIndexesLaw_law R (610, lw_lv i, [], M) := by
  refine mm_s1 rfl ?_
  refine lw_rd (p := 611) (j := 1) rfl rfl rfl rfl rfl (mm_w_id (by omega)) (by omega) rfl ?_
  show mm_Go (mm_run 13) mc_LateIndexesLaw_law R (616, lw_lv i, [.inl (lx_ M i 1), .inr (.inr 1)], M)
  refine mm_s1 rfl ⟨kd_1, ?_⟩
  refine mm_run_mono 13 _ _ _ _ _ (fun v M1 hv => ?_) hp
  obtain ⟨x, rfl, s1, hm⟩ := hv
  have g : ∀ b, M1.2 5000 b = M.2 5000 b := fun b => s1 5000 b (by decide)
  have g1 : M1.2 5001 0 = L := (s1 5001 0 (by decide)).trans hL
  show mm_Go (mm_run 13) mc_LateIndexesLaw_law R (619, lw_lv i, [.inl x], M1)
  refine mm_s1 rfl ?_
  refine lw_rd (p := 620) (j := 1) rfl rfl rfl rfl rfl (mm_w_id (by omega)) (by omega) (g _) ?_
  show mm_Go (mm_run 13) mc_LateIndexesLaw_law R (625, lw_lv i, [.inl (lx_ M i 1), .inr (.inr 407), .inl x], M1)
  refine mm_s1 rfl ⟨kd_407, ?_⟩
  refine mm_run_mono 13 _ _ _ _ _ (fun w M2 hw => ?_) hm
  obtain ⟨rfl, s2, hS⟩ := hw
  show mm_Go (mm_run 13) mc_LateIndexesLaw_law R (628, lw_lv i, [.inl x, .inl x], M2)
  exact mm_s1 rfl ⟨fun _ => k M2 s2 hS, fun c => absurd rfl c⟩
set_option maxRecDepth 100000 in
theorem lw_633 {bd i L : Int} {M : mm_M} {R : mm_P} (hi : 0 ≤ i ∧ i + 6 ≤ L ∧ L ≤ 3072) (hL : M.2 5001 0 = L) (hp : pr_ bd mi_LI_build mi_M_build [.inl (lx_ M i 1), .inl (lx_ M i 2)] [.inl (lx_ M i 1), .inl (lx_ M i 2)] M) (k : ∀ M2, scr_ M M2 → St_ bd M2 → mm_Go (mm_run 13) mc_LateIndexesLaw_law R (1429, lw_lv i, [], M2)) : mm_Go (mm_run 13) mc_LateIndexesLaw_law R (633, lw_lv i, [], M) := by
  refine mm_s1 rfl ?_
  refine lw_rd (p := 634) (j := 1) rfl rfl rfl rfl rfl (mm_w_id (by omega)) (by omega) rfl ?_
  refine lw_rd (p := 639) (j := 2) rfl rfl rfl rfl rfl (mm_w_id (by omega)) (by omega) rfl ?_
  show mm_Go (mm_run 13) mc_LateIndexesLaw_law R (644, lw_lv i, [.inl (lx_ M i 2), .inl (lx_ M i 1), .inr (.inr 1)], M)
  refine mm_s1 rfl ⟨kd_1, ?_⟩
  refine mm_run_mono 13 _ _ _ _ _ (fun v M1 hv => ?_) hp
  obtain ⟨x, rfl, s1, hm⟩ := hv
  have g : ∀ b, M1.2 5000 b = M.2 5000 b := fun b => s1 5000 b (by decide)
  have g1 : M1.2 5001 0 = L := (s1 5001 0 (by decide)).trans hL
  show mm_Go (mm_run 13) mc_LateIndexesLaw_law R (647, lw_lv i, [.inl x], M1)
  refine mm_s1 rfl ?_
  refine lw_rd (p := 648) (j := 1) rfl rfl rfl rfl rfl (mm_w_id (by omega)) (by omega) (g _) ?_
  refine lw_rd (p := 653) (j := 2) rfl rfl rfl rfl rfl (mm_w_id (by omega)) (by omega) (g _) ?_
  show mm_Go (mm_run 13) mc_LateIndexesLaw_law R (658, lw_lv i, [.inl (lx_ M i 2), .inl (lx_ M i 1), .inr (.inr 407), .inl x], M1)
  refine mm_s1 rfl ⟨kd_407, ?_⟩
  refine mm_run_mono 13 _ _ _ _ _ (fun w M2 hw => ?_) hm
  obtain ⟨rfl, s2, hS⟩ := hw
  show mm_Go (mm_run 13) mc_LateIndexesLaw_law R (661, lw_lv i, [.inl x, .inl x], M2)
  exact mm_s1 rfl ⟨fun _ => k M2 s2 hS, fun c => absurd rfl c⟩
set_option maxRecDepth 100000 in
theorem lw_666 {bd i L : Int} {M : mm_M} {R : mm_P} (hi : 0 ≤ i ∧ i + 6 ≤ L ∧ L ≤ 3072) (hL : M.2 5001 0 = L) (hp : pr_ bd mi_LI_drop mi_M_drop [.inl (lx_ M i 1)] [.inl (lx_ M i 1)] M) (k : ∀ M2, scr_ M M2 → St_ bd M2 → mm_Go (mm_run 13) mc_LateIndexesLaw_law R (1429, lw_lv i, [], M2)) : mm_Go (mm_run 13) mc_LateIndexesLaw_law R (666, lw_lv i, [], M) := by
  refine mm_s1 rfl ?_
  refine lw_rd (p := 667) (j := 1) rfl rfl rfl rfl rfl (mm_w_id (by omega)) (by omega) rfl ?_
  show mm_Go (mm_run 13) mc_LateIndexesLaw_law R (672, lw_lv i, [.inl (lx_ M i 1), .inr (.inr 1)], M)
  refine mm_s1 rfl ⟨kd_1, ?_⟩
  refine mm_run_mono 13 _ _ _ _ _ (fun v M1 hv => ?_) hp
  obtain ⟨x, rfl, s1, hm⟩ := hv
  have g : ∀ b, M1.2 5000 b = M.2 5000 b := fun b => s1 5000 b (by decide)
  have g1 : M1.2 5001 0 = L := (s1 5001 0 (by decide)).trans hL
  show mm_Go (mm_run 13) mc_LateIndexesLaw_law R (675, lw_lv i, [.inl x], M1)
  refine mm_s1 rfl ?_
  refine lw_rd (p := 676) (j := 1) rfl rfl rfl rfl rfl (mm_w_id (by omega)) (by omega) (g _) ?_
  show mm_Go (mm_run 13) mc_LateIndexesLaw_law R (681, lw_lv i, [.inl (lx_ M i 1), .inr (.inr 407), .inl x], M1)
  refine mm_s1 rfl ⟨kd_407, ?_⟩
  refine mm_run_mono 13 _ _ _ _ _ (fun w M2 hw => ?_) hm
  obtain ⟨rfl, s2, hS⟩ := hw
  show mm_Go (mm_run 13) mc_LateIndexesLaw_law R (684, lw_lv i, [.inl x, .inl x], M2)
  exact mm_s1 rfl ⟨fun _ => k M2 s2 hS, fun c => absurd rfl c⟩
set_option maxRecDepth 100000 in
theorem lw_689 {bd i L : Int} {M : mm_M} {R : mm_P} (hi : 0 ≤ i ∧ i + 6 ≤ L ∧ L ≤ 3072) (hL : M.2 5001 0 = L) (hp : pr_ bd mi_LI_row mi_M_row [.inl (lx_ M i 1), .inl (lx_ M i 2)] [.inl (lx_ M i 1), .inl (lx_ M i 2)] M) (k : ∀ M2, scr_ M M2 → St_ bd M2 → mm_Go (mm_run 13) mc_LateIndexesLaw_law R (1429, lw_lv i, [], M2)) : mm_Go (mm_run 13) mc_LateIndexesLaw_law R (689, lw_lv i, [], M) := by
  refine mm_s1 rfl ?_
  refine lw_rd (p := 690) (j := 1) rfl rfl rfl rfl rfl (mm_w_id (by omega)) (by omega) rfl ?_
  refine lw_rd (p := 695) (j := 2) rfl rfl rfl rfl rfl (mm_w_id (by omega)) (by omega) rfl ?_
  show mm_Go (mm_run 13) mc_LateIndexesLaw_law R (700, lw_lv i, [.inl (lx_ M i 2), .inl (lx_ M i 1), .inr (.inr 1)], M)
  refine mm_s1 rfl ⟨kd_1, ?_⟩
  refine mm_run_mono 13 _ _ _ _ _ (fun v M1 hv => ?_) hp
  obtain ⟨x, rfl, s1, hm⟩ := hv
  have g : ∀ b, M1.2 5000 b = M.2 5000 b := fun b => s1 5000 b (by decide)
  have g1 : M1.2 5001 0 = L := (s1 5001 0 (by decide)).trans hL
  show mm_Go (mm_run 13) mc_LateIndexesLaw_law R (703, lw_lv i, [.inl x], M1)
  refine mm_s1 rfl ?_
  refine lw_rd (p := 704) (j := 1) rfl rfl rfl rfl rfl (mm_w_id (by omega)) (by omega) (g _) ?_
  refine lw_rd (p := 709) (j := 2) rfl rfl rfl rfl rfl (mm_w_id (by omega)) (by omega) (g _) ?_
  show mm_Go (mm_run 13) mc_LateIndexesLaw_law R (714, lw_lv i, [.inl (lx_ M i 2), .inl (lx_ M i 1), .inr (.inr 407), .inl x], M1)
  refine mm_s1 rfl ⟨kd_407, ?_⟩
  refine mm_run_mono 13 _ _ _ _ _ (fun w M2 hw => ?_) hm
  obtain ⟨rfl, s2, hS⟩ := hw
  show mm_Go (mm_run 13) mc_LateIndexesLaw_law R (717, lw_lv i, [.inl x, .inl x], M2)
  exact mm_s1 rfl ⟨fun _ => k M2 s2 hS, fun c => absurd rfl c⟩
set_option maxRecDepth 100000 in
theorem lw_722 {bd i L : Int} {M : mm_M} {R : mm_P} (hi : 0 ≤ i ∧ i + 6 ≤ L ∧ L ≤ 3072) (hL : M.2 5001 0 = L) (hp : pr_ bd mi_LI_ask mi_M_ask [.inl (lx_ M i 1), .inl (lx_ M i 2), .inl (lx_ M i 3), .inl (lx_ M i 4)] [.inl (lx_ M i 1), .inl (lx_ M i 2), .inl (lx_ M i 3), .inl (lx_ M i 4)] M) (k : ∀ M2, scr_ M M2 → St_ bd M2 → mm_Go (mm_run 13) mc_LateIndexesLaw_law R (1429, lw_lv i, [], M2)) : mm_Go (mm_run 13) mc_LateIndexesLaw_law R (722, lw_lv i, [], M) := by
  refine mm_s1 rfl ?_
  refine lw_rd (p := 723) (j := 1) rfl rfl rfl rfl rfl (mm_w_id (by omega)) (by omega) rfl ?_
  refine lw_rd (p := 728) (j := 2) rfl rfl rfl rfl rfl (mm_w_id (by omega)) (by omega) rfl ?_
  refine lw_rd (p := 733) (j := 3) rfl rfl rfl rfl rfl (mm_w_id (by omega)) (by omega) rfl ?_
  refine lw_rd (p := 738) (j := 4) rfl rfl rfl rfl rfl (mm_w_id (by omega)) (by omega) rfl ?_
  show mm_Go (mm_run 13) mc_LateIndexesLaw_law R (743, lw_lv i, [.inl (lx_ M i 4), .inl (lx_ M i 3), .inl (lx_ M i 2), .inl (lx_ M i 1), .inr (.inr 1)], M)
  refine mm_s1 rfl ⟨kd_1, ?_⟩
  refine mm_run_mono 13 _ _ _ _ _ (fun v M1 hv => ?_) hp
  obtain ⟨x, rfl, s1, hm⟩ := hv
  have g : ∀ b, M1.2 5000 b = M.2 5000 b := fun b => s1 5000 b (by decide)
  have g1 : M1.2 5001 0 = L := (s1 5001 0 (by decide)).trans hL
  show mm_Go (mm_run 13) mc_LateIndexesLaw_law R (746, lw_lv i, [.inl x], M1)
  refine mm_s1 rfl ?_
  refine lw_rd (p := 747) (j := 1) rfl rfl rfl rfl rfl (mm_w_id (by omega)) (by omega) (g _) ?_
  refine lw_rd (p := 752) (j := 2) rfl rfl rfl rfl rfl (mm_w_id (by omega)) (by omega) (g _) ?_
  refine lw_rd (p := 757) (j := 3) rfl rfl rfl rfl rfl (mm_w_id (by omega)) (by omega) (g _) ?_
  refine lw_rd (p := 762) (j := 4) rfl rfl rfl rfl rfl (mm_w_id (by omega)) (by omega) (g _) ?_
  show mm_Go (mm_run 13) mc_LateIndexesLaw_law R (767, lw_lv i, [.inl (lx_ M i 4), .inl (lx_ M i 3), .inl (lx_ M i 2), .inl (lx_ M i 1), .inr (.inr 407), .inl x], M1)
  refine mm_s1 rfl ⟨kd_407, ?_⟩
  refine mm_run_mono 13 _ _ _ _ _ (fun w M2 hw => ?_) hm
  obtain ⟨rfl, s2, hS⟩ := hw
  show mm_Go (mm_run 13) mc_LateIndexesLaw_law R (770, lw_lv i, [.inl x, .inl x], M2)
  exact mm_s1 rfl ⟨fun _ => k M2 s2 hS, fun c => absurd rfl c⟩
set_option maxRecDepth 100000 in
theorem lw_775 {bd i L : Int} {M : mm_M} {R : mm_P} (hi : 0 ≤ i ∧ i + 6 ≤ L ∧ L ≤ 3072) (hL : M.2 5001 0 = L) (hp : pr_ bd mi_LI_cost mi_M_cost [.inl (lx_ M i 1)] [.inl (lx_ M i 1)] M) (k : ∀ M2, scr_ M M2 → St_ bd M2 → mm_Go (mm_run 13) mc_LateIndexesLaw_law R (1429, lw_lv i, [], M2)) : mm_Go (mm_run 13) mc_LateIndexesLaw_law R (775, lw_lv i, [], M) := by
  refine mm_s1 rfl ?_
  refine lw_rd (p := 776) (j := 1) rfl rfl rfl rfl rfl (mm_w_id (by omega)) (by omega) rfl ?_
  show mm_Go (mm_run 13) mc_LateIndexesLaw_law R (781, lw_lv i, [.inl (lx_ M i 1), .inr (.inr 1)], M)
  refine mm_s1 rfl ⟨kd_1, ?_⟩
  refine mm_run_mono 13 _ _ _ _ _ (fun v M1 hv => ?_) hp
  obtain ⟨x, rfl, s1, hm⟩ := hv
  have g : ∀ b, M1.2 5000 b = M.2 5000 b := fun b => s1 5000 b (by decide)
  have g1 : M1.2 5001 0 = L := (s1 5001 0 (by decide)).trans hL
  show mm_Go (mm_run 13) mc_LateIndexesLaw_law R (784, lw_lv i, [.inl x], M1)
  refine mm_s1 rfl ?_
  refine lw_rd (p := 785) (j := 1) rfl rfl rfl rfl rfl (mm_w_id (by omega)) (by omega) (g _) ?_
  show mm_Go (mm_run 13) mc_LateIndexesLaw_law R (790, lw_lv i, [.inl (lx_ M i 1), .inr (.inr 407), .inl x], M1)
  refine mm_s1 rfl ⟨kd_407, ?_⟩
  refine mm_run_mono 13 _ _ _ _ _ (fun w M2 hw => ?_) hm
  obtain ⟨rfl, s2, hS⟩ := hw
  show mm_Go (mm_run 13) mc_LateIndexesLaw_law R (793, lw_lv i, [.inl x, .inl x], M2)
  exact mm_s1 rfl ⟨fun _ => k M2 s2 hS, fun c => absurd rfl c⟩
set_option maxRecDepth 100000 in
theorem lw_798 {bd i L : Int} {M : mm_M} {R : mm_P} (hi : 0 ≤ i ∧ i + 6 ≤ L ∧ L ≤ 3072) (hL : M.2 5001 0 = L) (hp : pr_ bd mi_LI_both mi_M_both [.inl (lx_ M i 1), .inl (lx_ M i 2), .inl (lx_ M i 3), .inl (lx_ M i 4), .inl (lx_ M i 5)] [.inl (lx_ M i 1), .inl (lx_ M i 2), .inl (lx_ M i 3), .inl (lx_ M i 4), .inl (lx_ M i 5)] M) (k : ∀ M2, scr_ M M2 → St_ bd M2 → mm_Go (mm_run 13) mc_LateIndexesLaw_law R (1429, lw_lv i, [], M2)) : mm_Go (mm_run 13) mc_LateIndexesLaw_law R (798, lw_lv i, [], M) := by
  refine mm_s1 rfl ?_
  refine lw_rd (p := 799) (j := 1) rfl rfl rfl rfl rfl (mm_w_id (by omega)) (by omega) rfl ?_
  refine lw_rd (p := 804) (j := 2) rfl rfl rfl rfl rfl (mm_w_id (by omega)) (by omega) rfl ?_
  refine lw_rd (p := 809) (j := 3) rfl rfl rfl rfl rfl (mm_w_id (by omega)) (by omega) rfl ?_
  refine lw_rd (p := 814) (j := 4) rfl rfl rfl rfl rfl (mm_w_id (by omega)) (by omega) rfl ?_
  refine lw_rd (p := 819) (j := 5) rfl rfl rfl rfl rfl (mm_w_id (by omega)) (by omega) rfl ?_
  show mm_Go (mm_run 13) mc_LateIndexesLaw_law R (824, lw_lv i, [.inl (lx_ M i 5), .inl (lx_ M i 4), .inl (lx_ M i 3), .inl (lx_ M i 2), .inl (lx_ M i 1), .inr (.inr 1)], M)
  refine mm_s1 rfl ⟨kd_1, ?_⟩
  refine mm_run_mono 13 _ _ _ _ _ (fun v M1 hv => ?_) hp
  obtain ⟨x, rfl, s1, hm⟩ := hv
  have g : ∀ b, M1.2 5000 b = M.2 5000 b := fun b => s1 5000 b (by decide)
  have g1 : M1.2 5001 0 = L := (s1 5001 0 (by decide)).trans hL
  show mm_Go (mm_run 13) mc_LateIndexesLaw_law R (827, lw_lv i, [.inl x], M1)
  refine mm_s1 rfl ?_
  refine lw_rd (p := 828) (j := 1) rfl rfl rfl rfl rfl (mm_w_id (by omega)) (by omega) (g _) ?_
  refine lw_rd (p := 833) (j := 2) rfl rfl rfl rfl rfl (mm_w_id (by omega)) (by omega) (g _) ?_
  refine lw_rd (p := 838) (j := 3) rfl rfl rfl rfl rfl (mm_w_id (by omega)) (by omega) (g _) ?_
  refine lw_rd (p := 843) (j := 4) rfl rfl rfl rfl rfl (mm_w_id (by omega)) (by omega) (g _) ?_
  refine lw_rd (p := 848) (j := 5) rfl rfl rfl rfl rfl (mm_w_id (by omega)) (by omega) (g _) ?_
  show mm_Go (mm_run 13) mc_LateIndexesLaw_law R (853, lw_lv i, [.inl (lx_ M i 5), .inl (lx_ M i 4), .inl (lx_ M i 3), .inl (lx_ M i 2), .inl (lx_ M i 1), .inr (.inr 407), .inl x], M1)
  refine mm_s1 rfl ⟨kd_407, ?_⟩
  refine mm_run_mono 13 _ _ _ _ _ (fun w M2 hw => ?_) hm
  obtain ⟨rfl, s2, hS⟩ := hw
  show mm_Go (mm_run 13) mc_LateIndexesLaw_law R (856, lw_lv i, [.inl x, .inl x], M2)
  exact mm_s1 rfl ⟨fun _ => k M2 s2 hS, fun c => absurd rfl c⟩
set_option maxRecDepth 100000 in
theorem lw_861 {bd i L : Int} {M : mm_M} {R : mm_P} (hi : 0 ≤ i ∧ i + 6 ≤ L ∧ L ≤ 3072) (hL : M.2 5001 0 = L) (hp : pr_ bd mi_LI_sum mi_M_sum [.inl (lx_ M i 1), .inl (lx_ M i 2), .inl (lx_ M i 3), .inl (lx_ M i 4)] [.inl (lx_ M i 1), .inl (lx_ M i 2), .inl (lx_ M i 3), .inl (lx_ M i 4)] M) (k : ∀ M2, scr_ M M2 → St_ bd M2 → mm_Go (mm_run 13) mc_LateIndexesLaw_law R (1429, lw_lv i, [], M2)) : mm_Go (mm_run 13) mc_LateIndexesLaw_law R (861, lw_lv i, [], M) := by
  refine mm_s1 rfl ?_
  refine lw_rd (p := 862) (j := 1) rfl rfl rfl rfl rfl (mm_w_id (by omega)) (by omega) rfl ?_
  refine lw_rd (p := 867) (j := 2) rfl rfl rfl rfl rfl (mm_w_id (by omega)) (by omega) rfl ?_
  refine lw_rd (p := 872) (j := 3) rfl rfl rfl rfl rfl (mm_w_id (by omega)) (by omega) rfl ?_
  refine lw_rd (p := 877) (j := 4) rfl rfl rfl rfl rfl (mm_w_id (by omega)) (by omega) rfl ?_
  show mm_Go (mm_run 13) mc_LateIndexesLaw_law R (882, lw_lv i, [.inl (lx_ M i 4), .inl (lx_ M i 3), .inl (lx_ M i 2), .inl (lx_ M i 1), .inr (.inr 1)], M)
  refine mm_s1 rfl ⟨kd_1, ?_⟩
  refine mm_run_mono 13 _ _ _ _ _ (fun v M1 hv => ?_) hp
  obtain ⟨x, rfl, s1, hm⟩ := hv
  have g : ∀ b, M1.2 5000 b = M.2 5000 b := fun b => s1 5000 b (by decide)
  have g1 : M1.2 5001 0 = L := (s1 5001 0 (by decide)).trans hL
  show mm_Go (mm_run 13) mc_LateIndexesLaw_law R (885, lw_lv i, [.inl x], M1)
  refine mm_s1 rfl ?_
  refine lw_rd (p := 886) (j := 1) rfl rfl rfl rfl rfl (mm_w_id (by omega)) (by omega) (g _) ?_
  refine lw_rd (p := 891) (j := 2) rfl rfl rfl rfl rfl (mm_w_id (by omega)) (by omega) (g _) ?_
  refine lw_rd (p := 896) (j := 3) rfl rfl rfl rfl rfl (mm_w_id (by omega)) (by omega) (g _) ?_
  refine lw_rd (p := 901) (j := 4) rfl rfl rfl rfl rfl (mm_w_id (by omega)) (by omega) (g _) ?_
  show mm_Go (mm_run 13) mc_LateIndexesLaw_law R (906, lw_lv i, [.inl (lx_ M i 4), .inl (lx_ M i 3), .inl (lx_ M i 2), .inl (lx_ M i 1), .inr (.inr 407), .inl x], M1)
  refine mm_s1 rfl ⟨kd_407, ?_⟩
  refine mm_run_mono 13 _ _ _ _ _ (fun w M2 hw => ?_) hm
  obtain ⟨rfl, s2, hS⟩ := hw
  show mm_Go (mm_run 13) mc_LateIndexesLaw_law R (909, lw_lv i, [.inl x, .inl x], M2)
  exact mm_s1 rfl ⟨fun _ => k M2 s2 hS, fun c => absurd rfl c⟩
set_option maxRecDepth 100000 in
theorem lw_914 {bd i L : Int} {M : mm_M} {R : mm_P} (hi : 0 ≤ i ∧ i + 6 ≤ L ∧ L ≤ 3072) (hL : M.2 5001 0 = L) (hp : pr_ bd mi_LI_near mi_M_near [.inl (lx_ M i 1), .inl (lx_ M i 2)] [.inl (lx_ M i 1), .inl (lx_ M i 2)] M) (k : ∀ M2, scr_ M M2 → St_ bd M2 → mm_Go (mm_run 13) mc_LateIndexesLaw_law R (1429, lw_lv i, [], M2)) : mm_Go (mm_run 13) mc_LateIndexesLaw_law R (914, lw_lv i, [], M) := by
  refine mm_s1 rfl ?_
  refine lw_rd (p := 915) (j := 1) rfl rfl rfl rfl rfl (mm_w_id (by omega)) (by omega) rfl ?_
  refine lw_rd (p := 920) (j := 2) rfl rfl rfl rfl rfl (mm_w_id (by omega)) (by omega) rfl ?_
  show mm_Go (mm_run 13) mc_LateIndexesLaw_law R (925, lw_lv i, [.inl (lx_ M i 2), .inl (lx_ M i 1), .inr (.inr 1)], M)
  refine mm_s1 rfl ⟨kd_1, ?_⟩
  refine mm_run_mono 13 _ _ _ _ _ (fun v M1 hv => ?_) hp
  obtain ⟨x, rfl, s1, hm⟩ := hv
  have g : ∀ b, M1.2 5000 b = M.2 5000 b := fun b => s1 5000 b (by decide)
  have g1 : M1.2 5001 0 = L := (s1 5001 0 (by decide)).trans hL
  show mm_Go (mm_run 13) mc_LateIndexesLaw_law R (928, lw_lv i, [.inl x], M1)
  refine mm_s1 rfl ?_
  refine lw_rd (p := 929) (j := 1) rfl rfl rfl rfl rfl (mm_w_id (by omega)) (by omega) (g _) ?_
  refine lw_rd (p := 934) (j := 2) rfl rfl rfl rfl rfl (mm_w_id (by omega)) (by omega) (g _) ?_
  show mm_Go (mm_run 13) mc_LateIndexesLaw_law R (939, lw_lv i, [.inl (lx_ M i 2), .inl (lx_ M i 1), .inr (.inr 407), .inl x], M1)
  refine mm_s1 rfl ⟨kd_407, ?_⟩
  refine mm_run_mono 13 _ _ _ _ _ (fun w M2 hw => ?_) hm
  obtain ⟨rfl, s2, hS⟩ := hw
  show mm_Go (mm_run 13) mc_LateIndexesLaw_law R (942, lw_lv i, [.inl x, .inl x], M2)
  exact mm_s1 rfl ⟨fun _ => k M2 s2 hS, fun c => absurd rfl c⟩
set_option maxRecDepth 100000 in
theorem lw_947 {bd i L : Int} {M : mm_M} {R : mm_P} (hi : 0 ≤ i ∧ i + 6 ≤ L ∧ L ≤ 3072) (hL : M.2 5001 0 = L) (hp : pr_ bd mi_LI_open mi_M_open [.inl (lx_ M i 1), .inl (lx_ M i 2), .inl (lx_ M i 3)] [.inl (lx_ M i 1), .inl (lx_ M i 2), .inl (lx_ M i 3)] M) (k : ∀ M2, scr_ M M2 → St_ bd M2 → mm_Go (mm_run 13) mc_LateIndexesLaw_law R (1429, lw_lv i, [], M2)) : mm_Go (mm_run 13) mc_LateIndexesLaw_law R (947, lw_lv i, [], M) := by
  refine mm_s1 rfl ?_
  refine lw_rd (p := 948) (j := 1) rfl rfl rfl rfl rfl (mm_w_id (by omega)) (by omega) rfl ?_
  refine lw_rd (p := 953) (j := 2) rfl rfl rfl rfl rfl (mm_w_id (by omega)) (by omega) rfl ?_
  refine lw_rd (p := 958) (j := 3) rfl rfl rfl rfl rfl (mm_w_id (by omega)) (by omega) rfl ?_
  show mm_Go (mm_run 13) mc_LateIndexesLaw_law R (963, lw_lv i, [.inl (lx_ M i 3), .inl (lx_ M i 2), .inl (lx_ M i 1), .inr (.inr 1)], M)
  refine mm_s1 rfl ⟨kd_1, ?_⟩
  refine mm_run_mono 13 _ _ _ _ _ (fun v M1 hv => ?_) hp
  obtain ⟨x, rfl, s1, hm⟩ := hv
  have g : ∀ b, M1.2 5000 b = M.2 5000 b := fun b => s1 5000 b (by decide)
  have g1 : M1.2 5001 0 = L := (s1 5001 0 (by decide)).trans hL
  show mm_Go (mm_run 13) mc_LateIndexesLaw_law R (966, lw_lv i, [.inl x], M1)
  refine mm_s1 rfl ?_
  refine lw_rd (p := 967) (j := 1) rfl rfl rfl rfl rfl (mm_w_id (by omega)) (by omega) (g _) ?_
  refine lw_rd (p := 972) (j := 2) rfl rfl rfl rfl rfl (mm_w_id (by omega)) (by omega) (g _) ?_
  refine lw_rd (p := 977) (j := 3) rfl rfl rfl rfl rfl (mm_w_id (by omega)) (by omega) (g _) ?_
  show mm_Go (mm_run 13) mc_LateIndexesLaw_law R (982, lw_lv i, [.inl (lx_ M i 3), .inl (lx_ M i 2), .inl (lx_ M i 1), .inr (.inr 407), .inl x], M1)
  refine mm_s1 rfl ⟨kd_407, ?_⟩
  refine mm_run_mono 13 _ _ _ _ _ (fun w M2 hw => ?_) hm
  obtain ⟨rfl, s2, hS⟩ := hw
  show mm_Go (mm_run 13) mc_LateIndexesLaw_law R (985, lw_lv i, [.inl x, .inl x], M2)
  exact mm_s1 rfl ⟨fun _ => k M2 s2 hS, fun c => absurd rfl c⟩
set_option maxRecDepth 100000 in
theorem lw_990 {bd i L : Int} {M : mm_M} {R : mm_P} (hi : 0 ≤ i ∧ i + 6 ≤ L ∧ L ≤ 3072) (hL : M.2 5001 0 = L) (hp : pr_ bd mi_LI_next mi_M_next [.inl (lx_ M i 1)] [.inl (lx_ M i 1)] M) (k : ∀ M2, scr_ M M2 → St_ bd M2 → mm_Go (mm_run 13) mc_LateIndexesLaw_law R (1429, lw_lv i, [], M2)) : mm_Go (mm_run 13) mc_LateIndexesLaw_law R (990, lw_lv i, [], M) := by
  refine mm_s1 rfl ?_
  refine lw_rd (p := 991) (j := 1) rfl rfl rfl rfl rfl (mm_w_id (by omega)) (by omega) rfl ?_
  show mm_Go (mm_run 13) mc_LateIndexesLaw_law R (996, lw_lv i, [.inl (lx_ M i 1), .inr (.inr 1)], M)
  refine mm_s1 rfl ⟨kd_1, ?_⟩
  refine mm_run_mono 13 _ _ _ _ _ (fun v M1 hv => ?_) hp
  obtain ⟨x, rfl, s1, hm⟩ := hv
  have g : ∀ b, M1.2 5000 b = M.2 5000 b := fun b => s1 5000 b (by decide)
  have g1 : M1.2 5001 0 = L := (s1 5001 0 (by decide)).trans hL
  show mm_Go (mm_run 13) mc_LateIndexesLaw_law R (999, lw_lv i, [.inl x], M1)
  refine mm_s1 rfl ?_
  refine lw_rd (p := 1000) (j := 1) rfl rfl rfl rfl rfl (mm_w_id (by omega)) (by omega) (g _) ?_
  show mm_Go (mm_run 13) mc_LateIndexesLaw_law R (1005, lw_lv i, [.inl (lx_ M i 1), .inr (.inr 407), .inl x], M1)
  refine mm_s1 rfl ⟨kd_407, ?_⟩
  refine mm_run_mono 13 _ _ _ _ _ (fun w M2 hw => ?_) hm
  obtain ⟨rfl, s2, hS⟩ := hw
  show mm_Go (mm_run 13) mc_LateIndexesLaw_law R (1008, lw_lv i, [.inl x, .inl x], M2)
  exact mm_s1 rfl ⟨fun _ => k M2 s2 hS, fun c => absurd rfl c⟩
set_option maxRecDepth 100000 in
theorem lw_1013 {bd i L : Int} {M : mm_M} {R : mm_P} (hi : 0 ≤ i ∧ i + 6 ≤ L ∧ L ≤ 3072) (hL : M.2 5001 0 = L) (hp : pr_ bd mi_LI_close mi_M_close [.inl (lx_ M i 1)] [.inl (lx_ M i 1)] M) (k : ∀ M2, scr_ M M2 → St_ bd M2 → mm_Go (mm_run 13) mc_LateIndexesLaw_law R (1429, lw_lv i, [], M2)) : mm_Go (mm_run 13) mc_LateIndexesLaw_law R (1013, lw_lv i, [], M) := by
  refine mm_s1 rfl ?_
  refine lw_rd (p := 1014) (j := 1) rfl rfl rfl rfl rfl (mm_w_id (by omega)) (by omega) rfl ?_
  show mm_Go (mm_run 13) mc_LateIndexesLaw_law R (1019, lw_lv i, [.inl (lx_ M i 1), .inr (.inr 1)], M)
  refine mm_s1 rfl ⟨kd_1, ?_⟩
  refine mm_run_mono 13 _ _ _ _ _ (fun v M1 hv => ?_) hp
  obtain ⟨x, rfl, s1, hm⟩ := hv
  have g : ∀ b, M1.2 5000 b = M.2 5000 b := fun b => s1 5000 b (by decide)
  have g1 : M1.2 5001 0 = L := (s1 5001 0 (by decide)).trans hL
  show mm_Go (mm_run 13) mc_LateIndexesLaw_law R (1022, lw_lv i, [.inl x], M1)
  refine mm_s1 rfl ?_
  refine lw_rd (p := 1023) (j := 1) rfl rfl rfl rfl rfl (mm_w_id (by omega)) (by omega) (g _) ?_
  show mm_Go (mm_run 13) mc_LateIndexesLaw_law R (1028, lw_lv i, [.inl (lx_ M i 1), .inr (.inr 407), .inl x], M1)
  refine mm_s1 rfl ⟨kd_407, ?_⟩
  refine mm_run_mono 13 _ _ _ _ _ (fun w M2 hw => ?_) hm
  obtain ⟨rfl, s2, hS⟩ := hw
  show mm_Go (mm_run 13) mc_LateIndexesLaw_law R (1031, lw_lv i, [.inl x, .inl x], M2)
  exact mm_s1 rfl ⟨fun _ => k M2 s2 hS, fun c => absurd rfl c⟩
