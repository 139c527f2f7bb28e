/-! the law: a walk of each arm (3) -/
set_option maxRecDepth 100000 in
theorem lw_1036 {bd i L : Int} {M : mm_M} {R : mm_P} (hi : 0 ≤ i ∧ i + 6 ≤ L ∧ L ≤ 3072) (hL : M.2 5001 0 = L) (hp : pr_ bd mi_LI_count mi_M_count [.inl (lx_ M i 1)] [.inl (lx_ M i 1)] M) (k : ∀ M2, scr_ M M2 → St_ bd M2 → mm_Go (mm_run 13) mc_LateIndexesLaw_law R (1429, lw_lv i, [], M2)) : mm_Go (mm_run 13) mc_LateIndexesLaw_law R (1036, lw_lv i, [], M) := by
  refine mm_s1 rfl ?_
  refine lw_rd (p := 1037) (j := 1) rfl rfl rfl rfl rfl (mm_w_id (by omega)) (by omega) rfl ?_
  show mm_Go (mm_run 13) mc_LateIndexesLaw_law R (1042, lw_lv i, [.inl (lx_ M i 1), .inr (.inr 1)], M)
  refine mm_s1 rfl ⟨kd_1, ?_⟩
  refine mm_run_mono 13 _ _ _ _ _ (fun v M1 hv => ?_) hp
  obtain ⟨x, rfl, s1, hm⟩ := hv
  have g : ∀ b, M1.2 5000 b = M.2 5000 b := fun b => s1 5000 b (by decide)
  have g1 : M1.2 5001 0 = L := (s1 5001 0 (by decide)).trans hL
  show mm_Go (mm_run 13) mc_LateIndexesLaw_law R (1045, lw_lv i, [.inl x], M1)
  refine mm_s1 rfl ?_
  refine lw_rd (p := 1046) (j := 1) rfl rfl rfl rfl rfl (mm_w_id (by omega)) (by omega) (g _) ?_
  show mm_Go (mm_run 13) mc_LateIndexesLaw_law R (1051, lw_lv i, [.inl (lx_ M i 1), .inr (.inr 407), .inl x], M1)
  refine mm_s1 rfl ⟨kd_407, ?_⟩
  refine mm_run_mono 13 _ _ _ _ _ (fun w M2 hw => ?_) hm
  obtain ⟨rfl, s2, hS⟩ := hw
  show mm_Go (mm_run 13) mc_LateIndexesLaw_law R (1054, lw_lv i, [.inl x, .inl x], M2)
  exact mm_s1 rfl ⟨fun _ => k M2 s2 hS, fun c => absurd rfl c⟩
set_option maxRecDepth 100000 in
theorem lw_1059 {bd i L : Int} {M : mm_M} {R : mm_P} (hi : 0 ≤ i ∧ i + 6 ≤ L ∧ L ≤ 3072) (hL : M.2 5001 0 = L) (hp : pr_ bd mi_LI_run mi_M_run [.inl (lx_ M i 1), .inl (lx_ M i 2)] [.inl (lx_ M i 1), .inl (lx_ M i 2)] M) (k : ∀ M2, scr_ M M2 → St_ bd M2 → mm_Go (mm_run 13) mc_LateIndexesLaw_law R (1429, lw_lv i, [], M2)) : mm_Go (mm_run 13) mc_LateIndexesLaw_law R (1059, lw_lv i, [], M) := by
  refine mm_s1 rfl ?_
  refine lw_rd (p := 1060) (j := 1) rfl rfl rfl rfl rfl (mm_w_id (by omega)) (by omega) rfl ?_
  refine lw_rd (p := 1065) (j := 2) rfl rfl rfl rfl rfl (mm_w_id (by omega)) (by omega) rfl ?_
  show mm_Go (mm_run 13) mc_LateIndexesLaw_law R (1070, lw_lv i, [.inl (lx_ M i 2), .inl (lx_ M i 1), .inr (.inr 1)], M)
  refine mm_s1 rfl ⟨kd_1, ?_⟩
  refine mm_run_mono 13 _ _ _ _ _ (fun v M1 hv => ?_) hp
  obtain ⟨x, rfl, s1, hm⟩ := hv
  have g : ∀ b, M1.2 5000 b = M.2 5000 b := fun b => s1 5000 b (by decide)
  have g1 : M1.2 5001 0 = L := (s1 5001 0 (by decide)).trans hL
  show mm_Go (mm_run 13) mc_LateIndexesLaw_law R (1073, lw_lv i, [.inl x], M1)
  refine mm_s1 rfl ?_
  refine lw_rd (p := 1074) (j := 1) rfl rfl rfl rfl rfl (mm_w_id (by omega)) (by omega) (g _) ?_
  refine lw_rd (p := 1079) (j := 2) rfl rfl rfl rfl rfl (mm_w_id (by omega)) (by omega) (g _) ?_
  show mm_Go (mm_run 13) mc_LateIndexesLaw_law R (1084, lw_lv i, [.inl (lx_ M i 2), .inl (lx_ M i 1), .inr (.inr 407), .inl x], M1)
  refine mm_s1 rfl ⟨kd_407, ?_⟩
  refine mm_run_mono 13 _ _ _ _ _ (fun w M2 hw => ?_) hm
  obtain ⟨rfl, s2, hS⟩ := hw
  show mm_Go (mm_run 13) mc_LateIndexesLaw_law R (1087, lw_lv i, [.inl x, .inl x], M2)
  exact mm_s1 rfl ⟨fun _ => k M2 s2 hS, fun c => absurd rfl c⟩
set_option maxRecDepth 100000 in
theorem lw_1092 {bd i L : Int} {M : mm_M} {R : mm_P} (hi : 0 ≤ i ∧ i + 6 ≤ L ∧ L ≤ 3072) (hL : M.2 5001 0 = L) (hp : pr_ bd mi_LI_index mi_M_index [.inl (lx_ M i 1), .inl (lx_ M i 2)] [.inl (lx_ M i 1), .inl (lx_ M i 2)] M) (k : ∀ M2, scr_ M M2 → St_ bd M2 → mm_Go (mm_run 13) mc_LateIndexesLaw_law R (1429, lw_lv i, [], M2)) : mm_Go (mm_run 13) mc_LateIndexesLaw_law R (1092, lw_lv i, [], M) := by
  refine mm_s1 rfl ?_
  refine lw_rd (p := 1093) (j := 1) rfl rfl rfl rfl rfl (mm_w_id (by omega)) (by omega) rfl ?_
  refine lw_rd (p := 1098) (j := 2) rfl rfl rfl rfl rfl (mm_w_id (by omega)) (by omega) rfl ?_
  show mm_Go (mm_run 13) mc_LateIndexesLaw_law R (1103, lw_lv i, [.inl (lx_ M i 2), .inl (lx_ M i 1), .inr (.inr 1)], M)
  refine mm_s1 rfl ⟨kd_1, ?_⟩
  refine mm_run_mono 13 _ _ _ _ _ (fun v M1 hv => ?_) hp
  obtain ⟨x, rfl, s1, hm⟩ := hv
  have g : ∀ b, M1.2 5000 b = M.2 5000 b := fun b => s1 5000 b (by decide)
  have g1 : M1.2 5001 0 = L := (s1 5001 0 (by decide)).trans hL
  show mm_Go (mm_run 13) mc_LateIndexesLaw_law R (1106, lw_lv i, [.inl x], M1)
  refine mm_s1 rfl ?_
  refine lw_rd (p := 1107) (j := 1) rfl rfl rfl rfl rfl (mm_w_id (by omega)) (by omega) (g _) ?_
  refine lw_rd (p := 1112) (j := 2) rfl rfl rfl rfl rfl (mm_w_id (by omega)) (by omega) (g _) ?_
  show mm_Go (mm_run 13) mc_LateIndexesLaw_law R (1117, lw_lv i, [.inl (lx_ M i 2), .inl (lx_ M i 1), .inr (.inr 407), .inl x], M1)
  refine mm_s1 rfl ⟨kd_407, ?_⟩
  refine mm_run_mono 13 _ _ _ _ _ (fun w M2 hw => ?_) hm
  obtain ⟨rfl, s2, hS⟩ := hw
  show mm_Go (mm_run 13) mc_LateIndexesLaw_law R (1120, lw_lv i, [.inl x, .inl x], M2)
  exact mm_s1 rfl ⟨fun _ => k M2 s2 hS, fun c => absurd rfl c⟩
set_option maxRecDepth 100000 in
theorem lw_1125 {bd i L : Int} {M : mm_M} {R : mm_P} (hi : 0 ≤ i ∧ i + 6 ≤ L ∧ L ≤ 3072) (hL : M.2 5001 0 = L) (hp : pr_ bd mi_LI_entry mi_M_entry [.inl (lx_ M i 1), .inl (lx_ M i 2), .inl (lx_ M i 3), .inl (lx_ M i 4)] [.inl (lx_ M i 1), .inl (lx_ M i 2), .inl (lx_ M i 3), .inl (lx_ M i 4)] M) (k : ∀ M2, scr_ M M2 → St_ bd M2 → mm_Go (mm_run 13) mc_LateIndexesLaw_law R (1429, lw_lv i, [], M2)) : mm_Go (mm_run 13) mc_LateIndexesLaw_law R (1125, lw_lv i, [], M) := by
  refine mm_s1 rfl ?_
  refine lw_rd (p := 1126) (j := 1) rfl rfl rfl rfl rfl (mm_w_id (by omega)) (by omega) rfl ?_
  refine lw_rd (p := 1131) (j := 2) rfl rfl rfl rfl rfl (mm_w_id (by omega)) (by omega) rfl ?_
  refine lw_rd (p := 1136) (j := 3) rfl rfl rfl rfl rfl (mm_w_id (by omega)) (by omega) rfl ?_
  refine lw_rd (p := 1141) (j := 4) rfl rfl rfl rfl rfl (mm_w_id (by omega)) (by omega) rfl ?_
  show mm_Go (mm_run 13) mc_LateIndexesLaw_law R (1146, lw_lv i, [.inl (lx_ M i 4), .inl (lx_ M i 3), .inl (lx_ M i 2), .inl (lx_ M i 1), .inr (.inr 1)], M)
  refine mm_s1 rfl ⟨kd_1, ?_⟩
  refine mm_run_mono 13 _ _ _ _ _ (fun v M1 hv => ?_) hp
  obtain ⟨x, rfl, s1, hm⟩ := hv
  have g : ∀ b, M1.2 5000 b = M.2 5000 b := fun b => s1 5000 b (by decide)
  have g1 : M1.2 5001 0 = L := (s1 5001 0 (by decide)).trans hL
  show mm_Go (mm_run 13) mc_LateIndexesLaw_law R (1149, lw_lv i, [.inl x], M1)
  refine mm_s1 rfl ?_
  refine lw_rd (p := 1150) (j := 1) rfl rfl rfl rfl rfl (mm_w_id (by omega)) (by omega) (g _) ?_
  refine lw_rd (p := 1155) (j := 2) rfl rfl rfl rfl rfl (mm_w_id (by omega)) (by omega) (g _) ?_
  refine lw_rd (p := 1160) (j := 3) rfl rfl rfl rfl rfl (mm_w_id (by omega)) (by omega) (g _) ?_
  refine lw_rd (p := 1165) (j := 4) rfl rfl rfl rfl rfl (mm_w_id (by omega)) (by omega) (g _) ?_
  show mm_Go (mm_run 13) mc_LateIndexesLaw_law R (1170, lw_lv i, [.inl (lx_ M i 4), .inl (lx_ M i 3), .inl (lx_ M i 2), .inl (lx_ M i 1), .inr (.inr 407), .inl x], M1)
  refine mm_s1 rfl ⟨kd_407, ?_⟩
  refine mm_run_mono 13 _ _ _ _ _ (fun w M2 hw => ?_) hm
  obtain ⟨rfl, s2, hS⟩ := hw
  show mm_Go (mm_run 13) mc_LateIndexesLaw_law R (1173, lw_lv i, [.inl x, .inl x], M2)
  exact mm_s1 rfl ⟨fun _ => k M2 s2 hS, fun c => absurd rfl c⟩
set_option maxRecDepth 100000 in
theorem lw_1178 {bd i L : Int} {M : mm_M} {R : mm_P} (hi : 0 ≤ i ∧ i + 6 ≤ L ∧ L ≤ 3072) (hL : M.2 5001 0 = L) (hp : pr_ bd mi_LI_value mi_M_value [.inl (lx_ M i 1), .inl (lx_ M i 2), .inl (lx_ M i 3), .inl (lx_ M i 4), .inl (lx_ M i 5)] [.inl (lx_ M i 1), .inl (lx_ M i 2), .inl (lx_ M i 3), .inl (lx_ M i 4), .inl (lx_ M i 5)] M) (k : ∀ M2, scr_ M M2 → St_ bd M2 → mm_Go (mm_run 13) mc_LateIndexesLaw_law R (1429, lw_lv i, [], M2)) : mm_Go (mm_run 13) mc_LateIndexesLaw_law R (1178, lw_lv i, [], M) := by
  refine mm_s1 rfl ?_
  refine lw_rd (p := 1179) (j := 1) rfl rfl rfl rfl rfl (mm_w_id (by omega)) (by omega) rfl ?_
  refine lw_rd (p := 1184) (j := 2) rfl rfl rfl rfl rfl (mm_w_id (by omega)) (by omega) rfl ?_
  refine lw_rd (p := 1189) (j := 3) rfl rfl rfl rfl rfl (mm_w_id (by omega)) (by omega) rfl ?_
  refine lw_rd (p := 1194) (j := 4) rfl rfl rfl rfl rfl (mm_w_id (by omega)) (by omega) rfl ?_
  refine lw_rd (p := 1199) (j := 5) rfl rfl rfl rfl rfl (mm_w_id (by omega)) (by omega) rfl ?_
  show mm_Go (mm_run 13) mc_LateIndexesLaw_law R (1204, lw_lv i, [.inl (lx_ M i 5), .inl (lx_ M i 4), .inl (lx_ M i 3), .inl (lx_ M i 2), .inl (lx_ M i 1), .inr (.inr 1)], M)
  refine mm_s1 rfl ⟨kd_1, ?_⟩
  refine mm_run_mono 13 _ _ _ _ _ (fun v M1 hv => ?_) hp
  obtain ⟨x, rfl, s1, hm⟩ := hv
  have g : ∀ b, M1.2 5000 b = M.2 5000 b := fun b => s1 5000 b (by decide)
  have g1 : M1.2 5001 0 = L := (s1 5001 0 (by decide)).trans hL
  show mm_Go (mm_run 13) mc_LateIndexesLaw_law R (1207, lw_lv i, [.inl x], M1)
  refine mm_s1 rfl ?_
  refine lw_rd (p := 1208) (j := 1) rfl rfl rfl rfl rfl (mm_w_id (by omega)) (by omega) (g _) ?_
  refine lw_rd (p := 1213) (j := 2) rfl rfl rfl rfl rfl (mm_w_id (by omega)) (by omega) (g _) ?_
  refine lw_rd (p := 1218) (j := 3) rfl rfl rfl rfl rfl (mm_w_id (by omega)) (by omega) (g _) ?_
  refine lw_rd (p := 1223) (j := 4) rfl rfl rfl rfl rfl (mm_w_id (by omega)) (by omega) (g _) ?_
  refine lw_rd (p := 1228) (j := 5) rfl rfl rfl rfl rfl (mm_w_id (by omega)) (by omega) (g _) ?_
  show mm_Go (mm_run 13) mc_LateIndexesLaw_law R (1233, lw_lv i, [.inl (lx_ M i 5), .inl (lx_ M i 4), .inl (lx_ M i 3), .inl (lx_ M i 2), .inl (lx_ M i 1), .inr (.inr 407), .inl x], M1)
  refine mm_s1 rfl ⟨kd_407, ?_⟩
  refine mm_run_mono 13 _ _ _ _ _ (fun w M2 hw => ?_) hm
  obtain ⟨rfl, s2, hS⟩ := hw
  show mm_Go (mm_run 13) mc_LateIndexesLaw_law R (1236, lw_lv i, [.inl x, .inl x], M2)
  exact mm_s1 rfl ⟨fun _ => k M2 s2 hS, fun c => absurd rfl c⟩
set_option maxRecDepth 100000 in
theorem lw_1241 {bd i L : Int} {M : mm_M} {R : mm_P} (hi : 0 ≤ i ∧ i + 6 ≤ L ∧ L ≤ 3072) (hL : M.2 5001 0 = L) (hp : pr_ bd mi_LI_why mi_M_why [.inl (lx_ M i 1), .inl (lx_ M i 2)] [.inl (lx_ M i 1), .inl (lx_ M i 2)] M) (k : ∀ M2, scr_ M M2 → St_ bd M2 → mm_Go (mm_run 13) mc_LateIndexesLaw_law R (1429, lw_lv i, [], M2)) : mm_Go (mm_run 13) mc_LateIndexesLaw_law R (1241, lw_lv i, [], M) := by
  refine mm_s1 rfl ?_
  refine lw_rd (p := 1242) (j := 1) rfl rfl rfl rfl rfl (mm_w_id (by omega)) (by omega) rfl ?_
  refine lw_rd (p := 1247) (j := 2) rfl rfl rfl rfl rfl (mm_w_id (by omega)) (by omega) rfl ?_
  show mm_Go (mm_run 13) mc_LateIndexesLaw_law R (1252, lw_lv i, [.inl (lx_ M i 2), .inl (lx_ M i 1), .inr (.inr 1)], M)
  refine mm_s1 rfl ⟨kd_1, ?_⟩
  refine mm_run_mono 13 _ _ _ _ _ (fun v M1 hv => ?_) hp
  obtain ⟨x, rfl, s1, hm⟩ := hv
  have g : ∀ b, M1.2 5000 b = M.2 5000 b := fun b => s1 5000 b (by decide)
  have g1 : M1.2 5001 0 = L := (s1 5001 0 (by decide)).trans hL
  show mm_Go (mm_run 13) mc_LateIndexesLaw_law R (1255, lw_lv i, [.inl x], M1)
  refine mm_s1 rfl ?_
  refine lw_rd (p := 1256) (j := 1) rfl rfl rfl rfl rfl (mm_w_id (by omega)) (by omega) (g _) ?_
  refine lw_rd (p := 1261) (j := 2) rfl rfl rfl rfl rfl (mm_w_id (by omega)) (by omega) (g _) ?_
  show mm_Go (mm_run 13) mc_LateIndexesLaw_law R (1266, lw_lv i, [.inl (lx_ M i 2), .inl (lx_ M i 1), .inr (.inr 407), .inl x], M1)
  refine mm_s1 rfl ⟨kd_407, ?_⟩
  refine mm_run_mono 13 _ _ _ _ _ (fun w M2 hw => ?_) hm
  obtain ⟨rfl, s2, hS⟩ := hw
  show mm_Go (mm_run 13) mc_LateIndexesLaw_law R (1269, lw_lv i, [.inl x, .inl x], M2)
  exact mm_s1 rfl ⟨fun _ => k M2 s2 hS, fun c => absurd rfl c⟩
set_option maxRecDepth 100000 in
theorem lw_1274 {bd i L : Int} {M : mm_M} {R : mm_P} (hi : 0 ≤ i ∧ i + 6 ≤ L ∧ L ≤ 3072) (hL : M.2 5001 0 = L) (hp : pr_ bd mi_LI_would mi_M_would [.inl (lx_ M i 1), .inl (lx_ M i 2), .inl (lx_ M i 3)] [.inl (lx_ M i 1), .inl (lx_ M i 2), .inl (lx_ M i 3)] M) (k : ∀ M2, scr_ M M2 → St_ bd M2 → mm_Go (mm_run 13) mc_LateIndexesLaw_law R (1429, lw_lv i, [], M2)) : mm_Go (mm_run 13) mc_LateIndexesLaw_law R (1274, lw_lv i, [], M) := by
  refine mm_s1 rfl ?_
  refine lw_rd (p := 1275) (j := 1) rfl rfl rfl rfl rfl (mm_w_id (by omega)) (by omega) rfl ?_
  refine lw_rd (p := 1280) (j := 2) rfl rfl rfl rfl rfl (mm_w_id (by omega)) (by omega) rfl ?_
  refine lw_rd (p := 1285) (j := 3) rfl rfl rfl rfl rfl (mm_w_id (by omega)) (by omega) rfl ?_
  show mm_Go (mm_run 13) mc_LateIndexesLaw_law R (1290, lw_lv i, [.inl (lx_ M i 3), .inl (lx_ M i 2), .inl (lx_ M i 1), .inr (.inr 1)], M)
  refine mm_s1 rfl ⟨kd_1, ?_⟩
  refine mm_run_mono 13 _ _ _ _ _ (fun v M1 hv => ?_) hp
  obtain ⟨x, rfl, s1, hm⟩ := hv
  have g : ∀ b, M1.2 5000 b = M.2 5000 b := fun b => s1 5000 b (by decide)
  have g1 : M1.2 5001 0 = L := (s1 5001 0 (by decide)).trans hL
  show mm_Go (mm_run 13) mc_LateIndexesLaw_law R (1293, lw_lv i, [.inl x], M1)
  refine mm_s1 rfl ?_
  refine lw_rd (p := 1294) (j := 1) rfl rfl rfl rfl rfl (mm_w_id (by omega)) (by omega) (g _) ?_
  refine lw_rd (p := 1299) (j := 2) rfl rfl rfl rfl rfl (mm_w_id (by omega)) (by omega) (g _) ?_
  refine lw_rd (p := 1304) (j := 3) rfl rfl rfl rfl rfl (mm_w_id (by omega)) (by omega) (g _) ?_
  show mm_Go (mm_run 13) mc_LateIndexesLaw_law R (1309, lw_lv i, [.inl (lx_ M i 3), .inl (lx_ M i 2), .inl (lx_ M i 1), .inr (.inr 407), .inl x], M1)
  refine mm_s1 rfl ⟨kd_407, ?_⟩
  refine mm_run_mono 13 _ _ _ _ _ (fun w M2 hw => ?_) hm
  obtain ⟨rfl, s2, hS⟩ := hw
  show mm_Go (mm_run 13) mc_LateIndexesLaw_law R (1312, lw_lv i, [.inl x, .inl x], M2)
  exact mm_s1 rfl ⟨fun _ => k M2 s2 hS, fun c => absurd rfl c⟩
set_option maxRecDepth 100000 in
theorem lw_1317 {bd i L : Int} {M : mm_M} {R : mm_P} (hi : 0 ≤ i ∧ i + 6 ≤ L ∧ L ≤ 3072) (hL : M.2 5001 0 = L) (hp : pr_ bd mi_LI_held mi_M_held [.inl (lx_ M i 1)] [.inl (lx_ M i 1)] M) (k : ∀ M2, scr_ M M2 → St_ bd M2 → mm_Go (mm_run 13) mc_LateIndexesLaw_law R (1429, lw_lv i, [], M2)) : mm_Go (mm_run 13) mc_LateIndexesLaw_law R (1317, lw_lv i, [], M) := by
  refine mm_s1 rfl ?_
  refine lw_rd (p := 1318) (j := 1) rfl rfl rfl rfl rfl (mm_w_id (by omega)) (by omega) rfl ?_
  show mm_Go (mm_run 13) mc_LateIndexesLaw_law R (1323, lw_lv i, [.inl (lx_ M i 1), .inr (.inr 1)], M)
  refine mm_s1 rfl ⟨kd_1, ?_⟩
  refine mm_run_mono 13 _ _ _ _ _ (fun v M1 hv => ?_) hp
  obtain ⟨x, rfl, s1, hm⟩ := hv
  have g : ∀ b, M1.2 5000 b = M.2 5000 b := fun b => s1 5000 b (by decide)
  have g1 : M1.2 5001 0 = L := (s1 5001 0 (by decide)).trans hL
  show mm_Go (mm_run 13) mc_LateIndexesLaw_law R (1326, lw_lv i, [.inl x], M1)
  refine mm_s1 rfl ?_
  refine lw_rd (p := 1327) (j := 1) rfl rfl rfl rfl rfl (mm_w_id (by omega)) (by omega) (g _) ?_
  show mm_Go (mm_run 13) mc_LateIndexesLaw_law R (1332, lw_lv i, [.inl (lx_ M i 1), .inr (.inr 407), .inl x], M1)
  refine mm_s1 rfl ⟨kd_407, ?_⟩
  refine mm_run_mono 13 _ _ _ _ _ (fun w M2 hw => ?_) hm
  obtain ⟨rfl, s2, hS⟩ := hw
  show mm_Go (mm_run 13) mc_LateIndexesLaw_law R (1335, lw_lv i, [.inl x, .inl x], M2)
  exact mm_s1 rfl ⟨fun _ => k M2 s2 hS, fun c => absurd rfl c⟩
set_option maxRecDepth 100000 in
theorem lw_1340 {bd i L : Int} {M : mm_M} {R : mm_P} (hi : 0 ≤ i ∧ i + 6 ≤ L ∧ L ≤ 3072) (hL : M.2 5001 0 = L) (hp : pr_ bd mi_LI_tried mi_M_tried [.inl (lx_ M i 1), .inl (lx_ M i 2), .inl (lx_ M i 3)] [.inl (lx_ M i 1), .inl (lx_ M i 2), .inl (lx_ M i 3)] M) (k : ∀ M2, scr_ M M2 → St_ bd M2 → mm_Go (mm_run 13) mc_LateIndexesLaw_law R (1429, lw_lv i, [], M2)) : mm_Go (mm_run 13) mc_LateIndexesLaw_law R (1340, lw_lv i, [], M) := by
  refine mm_s1 rfl ?_
  refine lw_rd (p := 1341) (j := 1) rfl rfl rfl rfl rfl (mm_w_id (by omega)) (by omega) rfl ?_
  refine lw_rd (p := 1346) (j := 2) rfl rfl rfl rfl rfl (mm_w_id (by omega)) (by omega) rfl ?_
  refine lw_rd (p := 1351) (j := 3) rfl rfl rfl rfl rfl (mm_w_id (by omega)) (by omega) rfl ?_
  show mm_Go (mm_run 13) mc_LateIndexesLaw_law R (1356, lw_lv i, [.inl (lx_ M i 3), .inl (lx_ M i 2), .inl (lx_ M i 1), .inr (.inr 1)], M)
  refine mm_s1 rfl ⟨kd_1, ?_⟩
  refine mm_run_mono 13 _ _ _ _ _ (fun v M1 hv => ?_) hp
  obtain ⟨x, rfl, s1, hm⟩ := hv
  have g : ∀ b, M1.2 5000 b = M.2 5000 b := fun b => s1 5000 b (by decide)
  have g1 : M1.2 5001 0 = L := (s1 5001 0 (by decide)).trans hL
  show mm_Go (mm_run 13) mc_LateIndexesLaw_law R (1359, lw_lv i, [.inl x], M1)
  refine mm_s1 rfl ?_
  refine lw_rd (p := 1360) (j := 1) rfl rfl rfl rfl rfl (mm_w_id (by omega)) (by omega) (g _) ?_
  refine lw_rd (p := 1365) (j := 2) rfl rfl rfl rfl rfl (mm_w_id (by omega)) (by omega) (g _) ?_
  refine lw_rd (p := 1370) (j := 3) rfl rfl rfl rfl rfl (mm_w_id (by omega)) (by omega) (g _) ?_
  show mm_Go (mm_run 13) mc_LateIndexesLaw_law R (1375, lw_lv i, [.inl (lx_ M i 3), .inl (lx_ M i 2), .inl (lx_ M i 1), .inr (.inr 407), .inl x], M1)
  refine mm_s1 rfl ⟨kd_407, ?_⟩
  refine mm_run_mono 13 _ _ _ _ _ (fun w M2 hw => ?_) hm
  obtain ⟨rfl, s2, hS⟩ := hw
  show mm_Go (mm_run 13) mc_LateIndexesLaw_law R (1378, lw_lv i, [.inl x, .inl x], M2)
  exact mm_s1 rfl ⟨fun _ => k M2 s2 hS, fun c => absurd rfl c⟩
set_option maxRecDepth 100000 in
theorem lw_1383 {bd i L : Int} {M : mm_M} {R : mm_P} (hi : 0 ≤ i ∧ i + 6 ≤ L ∧ L ≤ 3072) (hL : M.2 5001 0 = L) (hp : pr_ bd mi_LI_image mi_M_image [.inl (lx_ M i 1)] [.inl (lx_ M i 1)] M) (k : ∀ M2, scr_ M M2 → St_ bd M2 → mm_Go (mm_run 13) mc_LateIndexesLaw_law R (1429, lw_lv i, [], M2)) : mm_Go (mm_run 13) mc_LateIndexesLaw_law R (1383, lw_lv i, [], M) := by
  refine mm_s1 rfl ?_
  refine lw_rd (p := 1384) (j := 1) rfl rfl rfl rfl rfl (mm_w_id (by omega)) (by omega) rfl ?_
  show mm_Go (mm_run 13) mc_LateIndexesLaw_law R (1389, lw_lv i, [.inl (lx_ M i 1), .inr (.inr 1)], M)
  refine mm_s1 rfl ⟨kd_1, ?_⟩
  refine mm_run_mono 13 _ _ _ _ _ (fun v M1 hv => ?_) hp
  obtain ⟨x, rfl, s1, hm⟩ := hv
  have g : ∀ b, M1.2 5000 b = M.2 5000 b := fun b => s1 5000 b (by decide)
  have g1 : M1.2 5001 0 = L := (s1 5001 0 (by decide)).trans hL
  show mm_Go (mm_run 13) mc_LateIndexesLaw_law R (1392, lw_lv i, [.inl x], M1)
  refine mm_s1 rfl ?_
  refine lw_rd (p := 1393) (j := 1) rfl rfl rfl rfl rfl (mm_w_id (by omega)) (by omega) (g _) ?_
  show mm_Go (mm_run 13) mc_LateIndexesLaw_law R (1398, lw_lv i, [.inl (lx_ M i 1), .inr (.inr 407), .inl x], M1)
  refine mm_s1 rfl ⟨kd_407, ?_⟩
  refine mm_run_mono 13 _ _ _ _ _ (fun w M2 hw => ?_) hm
  obtain ⟨rfl, s2, hS⟩ := hw
  show mm_Go (mm_run 13) mc_LateIndexesLaw_law R (1401, lw_lv i, [.inl x, .inl x], M2)
  exact mm_s1 rfl ⟨fun _ => k M2 s2 hS, fun c => absurd rfl c⟩
set_option maxRecDepth 100000 in
theorem lw_1406 {bd i L : Int} {M : mm_M} {R : mm_P} (hi : 0 ≤ i ∧ i + 6 ≤ L ∧ L ≤ 3072) (hL : M.2 5001 0 = L) (hp : pr_ bd mi_LI_again mi_M_again [.inl (lx_ M i 1)] [.inl (lx_ M i 1)] M) (k : ∀ M2, scr_ M M2 → St_ bd M2 → mm_Go (mm_run 13) mc_LateIndexesLaw_law R (1429, lw_lv i, [], M2)) : mm_Go (mm_run 13) mc_LateIndexesLaw_law R (1406, lw_lv i, [], M) := by
  refine mm_s1 rfl ?_
  refine lw_rd (p := 1407) (j := 1) rfl rfl rfl rfl rfl (mm_w_id (by omega)) (by omega) rfl ?_
  show mm_Go (mm_run 13) mc_LateIndexesLaw_law R (1412, lw_lv i, [.inl (lx_ M i 1), .inr (.inr 1)], M)
  refine mm_s1 rfl ⟨kd_1, ?_⟩
  refine mm_run_mono 13 _ _ _ _ _ (fun v M1 hv => ?_) hp
  obtain ⟨x, rfl, s1, hm⟩ := hv
  have g : ∀ b, M1.2 5000 b = M.2 5000 b := fun b => s1 5000 b (by decide)
  have g1 : M1.2 5001 0 = L := (s1 5001 0 (by decide)).trans hL
  show mm_Go (mm_run 13) mc_LateIndexesLaw_law R (1415, lw_lv i, [.inl x], M1)
  refine mm_s1 rfl ?_
  refine lw_rd (p := 1416) (j := 1) rfl rfl rfl rfl rfl (mm_w_id (by omega)) (by omega) (g _) ?_
  show mm_Go (mm_run 13) mc_LateIndexesLaw_law R (1421, lw_lv i, [.inl (lx_ M i 1), .inr (.inr 407), .inl x], M1)
  refine mm_s1 rfl ⟨kd_407, ?_⟩
  refine mm_run_mono 13 _ _ _ _ _ (fun w M2 hw => ?_) hm
  obtain ⟨rfl, s2, hS⟩ := hw
  show mm_Go (mm_run 13) mc_LateIndexesLaw_law R (1424, lw_lv i, [.inl x, .inl x], M2)
  exact mm_s1 rfl ⟨fun _ => k M2 s2 hS, fun c => absurd rfl c⟩
