/-! the law: a walk of each arm -/
abbrev lw_lv (i : Int) : mm_L := [(0, .inr (.inr 5000)), (1, .inr (.inr 1)), (2, .inr (.inr 407)), (3, .inl i)]
theorem lw_rd {R : mm_P} {p : Nat} {j i x : Int} {st : List mm_V} {M : mm_M} (e0 : mm_at mc_LateIndexesLaw_law p = some (p, .aload_n 0, 1, 0, 0, 0, 0, 0)) (e1 : mm_at mc_LateIndexesLaw_law (p + 1) = some (p + 1, .iload_n 3, 1, 0, 0, 0, 0, 0)) (e2 : mm_at mc_LateIndexesLaw_law (p + 2) = some (p + 2, .iconst j, 1, 0, 0, 0, 0, 0)) (e3 : mm_at mc_LateIndexesLaw_law (p + 3) = some (p + 3, .iadd, 1, 0, 0, 0, 0, 0)) (e4 : mm_at mc_LateIndexesLaw_law (p + 4) = some (p + 4, .iaload, 1, 0, 0, 0, 1, 0)) (hw : mm_w (i + j) = i + j) (hb : 0 ≤ i + j ∧ i + j < M.2 5001 0) (hx : M.2 5000 (i + j).toNat = x) (h : mm_Go (mm_run 13) mc_LateIndexesLaw_law R (p + 5, lw_lv i, .inl x :: st, M)) : mm_Go (mm_run 13) mc_LateIndexesLaw_law R (p, lw_lv i, st, M) := by
  refine mm_s1 e0 ?_
  refine mm_s1 e1 ?_
  refine mm_s1 e2 ?_
  refine mm_s1 e3 ?_
  refine mm_s1 e4 ⟨?_, ?_⟩
  · show 5000 = 5000 ∧ 0 ≤ mm_w (i + j) ∧ mm_w (i + j) < M.2 5001 0
    rw [hw]
    exact ⟨rfl, hb⟩
  · show mm_Go (mm_run 13) mc_LateIndexesLaw_law R (p + 5, lw_lv i, .inl (M.2 5000 (mm_w (i + j)).toNat) :: st, M)
    rw [hw, hx]
    exact h
theorem kd_1 : (mm_kd 1).1 = 1 := by decide +kernel
theorem kd_407 : (mm_kd 407).1 = 13 := by decide +kernel
def sc_ (L : Int) (M : mm_M) : Prop := M.2 5001 0 = L ∧ ∀ b, -2147483648 ≤ M.2 5000 b ∧ M.2 5000 b < 2147483648
theorem sc_scr {L : Int} {M M' : mm_M} (h : scr_ M M') (s : sc_ L M) : sc_ L M' := ⟨(h 5001 0 (by decide)).trans s.1, fun b => by rw [h 5000 b (by decide)]; exact s.2 b⟩
abbrev lx_ (M : mm_M) (i j : Int) : Int := M.2 5000 (i + j).toNat
set_option maxRecDepth 100000 in
theorem lw_188 {bd i L : Int} {M : mm_M} {R : mm_P} (hi : 0 ≤ i ∧ i + 6 ≤ L ∧ L ≤ 3072) (hL : M.2 5001 0 = L) (hp : pr_ bd mi_LI_feed mi_M_feed [.inl (lx_ M i 1), .inl (lx_ M i 2), .inl (lx_ M i 3), .inl (lx_ M i 4), .inl (lx_ M i 5)] [.inl (lx_ M i 1), .inl (lx_ M i 2), .inl (lx_ M i 3), .inl (lx_ M i 4), .inl (lx_ M i 5)] M) (k : ∀ M2, scr_ M M2 → St_ bd M2 → mm_Go (mm_run 13) mc_LateIndexesLaw_law R (1429, lw_lv i, [], M2)) : mm_Go (mm_run 13) mc_LateIndexesLaw_law R (188, lw_lv i, [], M) := by
  refine mm_s1 rfl ?_
  refine lw_rd (p := 189) (j := 1) rfl rfl rfl rfl rfl (mm_w_id (by omega)) (by omega) rfl ?_
  refine lw_rd (p := 194) (j := 2) rfl rfl rfl rfl rfl (mm_w_id (by omega)) (by omega) rfl ?_
  refine lw_rd (p := 199) (j := 3) rfl rfl rfl rfl rfl (mm_w_id (by omega)) (by omega) rfl ?_
  refine lw_rd (p := 204) (j := 4) rfl rfl rfl rfl rfl (mm_w_id (by omega)) (by omega) rfl ?_
  refine lw_rd (p := 209) (j := 5) rfl rfl rfl rfl rfl (mm_w_id (by omega)) (by omega) rfl ?_
  show mm_Go (mm_run 13) mc_LateIndexesLaw_law R (214, lw_lv i, [.inl (lx_ M i 5), .inl (lx_ M i 4), .inl (lx_ M i 3), .inl (lx_ M i 2), .inl (lx_ M i 1), .inr (.inr 1)], M)
  refine mm_s1 rfl ⟨kd_1, ?_⟩
  refine mm_run_mono 13 _ _ _ _ _ (fun v M1 hv => ?_) hp
  obtain ⟨x, rfl, s1, hm⟩ := hv
  have g : ∀ b, M1.2 5000 b = M.2 5000 b := fun b => s1 5000 b (by decide)
  have g1 : M1.2 5001 0 = L := (s1 5001 0 (by decide)).trans hL
  show mm_Go (mm_run 13) mc_LateIndexesLaw_law R (217, lw_lv i, [.inl x], M1)
  refine mm_s1 rfl ?_
  refine lw_rd (p := 218) (j := 1) rfl rfl rfl rfl rfl (mm_w_id (by omega)) (by omega) (g _) ?_
  refine lw_rd (p := 223) (j := 2) rfl rfl rfl rfl rfl (mm_w_id (by omega)) (by omega) (g _) ?_
  refine lw_rd (p := 228) (j := 3) rfl rfl rfl rfl rfl (mm_w_id (by omega)) (by omega) (g _) ?_
  refine lw_rd (p := 233) (j := 4) rfl rfl rfl rfl rfl (mm_w_id (by omega)) (by omega) (g _) ?_
  refine lw_rd (p := 238) (j := 5) rfl rfl rfl rfl rfl (mm_w_id (by omega)) (by omega) (g _) ?_
  show mm_Go (mm_run 13) mc_LateIndexesLaw_law R (243, lw_lv i, [.inl (lx_ M i 5), .inl (lx_ M i 4), .inl (lx_ M i 3), .inl (lx_ M i 2), .inl (lx_ M i 1), .inr (.inr 407), .inl x], M1)
  refine mm_s1 rfl ⟨kd_407, ?_⟩
  refine mm_run_mono 13 _ _ _ _ _ (fun w M2 hw => ?_) hm
  obtain ⟨rfl, s2, hS⟩ := hw
  show mm_Go (mm_run 13) mc_LateIndexesLaw_law R (246, lw_lv i, [.inl x, .inl x], M2)
  exact mm_s1 rfl ⟨fun _ => k M2 s2 hS, fun c => absurd rfl c⟩
set_option maxRecDepth 100000 in
theorem lw_251 {bd i L : Int} {M : mm_M} {R : mm_P} (hi : 0 ≤ i ∧ i + 6 ≤ L ∧ L ≤ 3072) (hL : M.2 5001 0 = L) (hp : pr_ bd mi_LI_end mi_M_end [.inl (lx_ M i 1)] [.inl (lx_ M i 1)] M) (k : ∀ M2, scr_ M M2 → St_ bd M2 → mm_Go (mm_run 13) mc_LateIndexesLaw_law R (1429, lw_lv i, [], M2)) : mm_Go (mm_run 13) mc_LateIndexesLaw_law R (251, lw_lv i, [], M) := by
  refine mm_s1 rfl ?_
  refine lw_rd (p := 252) (j := 1) rfl rfl rfl rfl rfl (mm_w_id (by omega)) (by omega) rfl ?_
  show mm_Go (mm_run 13) mc_LateIndexesLaw_law R (257, lw_lv i, [.inl (lx_ M i 1), .inr (.inr 1)], M)
  refine mm_s1 rfl ⟨kd_1, ?_⟩
  refine mm_run_mono 13 _ _ _ _ _ (fun v M1 hv => ?_) hp
  obtain ⟨x, rfl, s1, hm⟩ := hv
  have g : ∀ b, M1.2 5000 b = M.2 5000 b := fun b => s1 5000 b (by decide)
  have g1 : M1.2 5001 0 = L := (s1 5001 0 (by decide)).trans hL
  show mm_Go (mm_run 13) mc_LateIndexesLaw_law R (260, lw_lv i, [.inl x], M1)
  refine mm_s1 rfl ?_
  refine lw_rd (p := 261) (j := 1) rfl rfl rfl rfl rfl (mm_w_id (by omega)) (by omega) (g _) ?_
  show mm_Go (mm_run 13) mc_LateIndexesLaw_law R (266, lw_lv i, [.inl (lx_ M i 1), .inr (.inr 407), .inl x], M1)
  refine mm_s1 rfl ⟨kd_407, ?_⟩
  refine mm_run_mono 13 _ _ _ _ _ (fun w M2 hw => ?_) hm
  obtain ⟨rfl, s2, hS⟩ := hw
  show mm_Go (mm_run 13) mc_LateIndexesLaw_law R (269, lw_lv i, [.inl x, .inl x], M2)
  exact mm_s1 rfl ⟨fun _ => k M2 s2 hS, fun c => absurd rfl c⟩
set_option maxRecDepth 100000 in
theorem lw_274 {bd i L : Int} {M : mm_M} {R : mm_P} (hi : 0 ≤ i ∧ i + 6 ≤ L ∧ L ≤ 3072) (hL : M.2 5001 0 = L) (hp : pr_ bd mi_LI_define mi_M_define [] [] M) (k : ∀ M2, scr_ M M2 → St_ bd M2 → mm_Go (mm_run 13) mc_LateIndexesLaw_law R (1429, lw_lv i, [], M2)) : mm_Go (mm_run 13) mc_LateIndexesLaw_law R (274, lw_lv i, [], M) := by
  refine mm_s1 rfl ?_
  show mm_Go (mm_run 13) mc_LateIndexesLaw_law R (275, lw_lv i, [.inr (.inr 1)], M)
  refine mm_s1 rfl ⟨kd_1, ?_⟩
  refine mm_run_mono 13 _ _ _ _ _ (fun v M1 hv => ?_) hp
  obtain ⟨x, rfl, s1, hm⟩ := hv
  have g : ∀ b, M1.2 5000 b = M.2 5000 b := fun b => s1 5000 b (by decide)
  have g1 : M1.2 5001 0 = L := (s1 5001 0 (by decide)).trans hL
  show mm_Go (mm_run 13) mc_LateIndexesLaw_law R (278, lw_lv i, [.inl x], M1)
  refine mm_s1 rfl ?_
  show mm_Go (mm_run 13) mc_LateIndexesLaw_law R (279, lw_lv i, [.inr (.inr 407), .inl x], M1)
  refine mm_s1 rfl ⟨kd_407, ?_⟩
  refine mm_run_mono 13 _ _ _ _ _ (fun w M2 hw => ?_) hm
  obtain ⟨rfl, s2, hS⟩ := hw
  show mm_Go (mm_run 13) mc_LateIndexesLaw_law R (282, lw_lv i, [.inl x, .inl x], M2)
  exact mm_s1 rfl ⟨fun _ => k M2 s2 hS, fun c => absurd rfl c⟩
set_option maxRecDepth 100000 in
theorem lw_287 {bd i L : Int} {M : mm_M} {R : mm_P} (hi : 0 ≤ i ∧ i + 6 ≤ L ∧ L ≤ 3072) (hL : M.2 5001 0 = L) (hp : pr_ bd mi_LI_fault mi_M_fault [.inl (lx_ M i 1)] [.inl (lx_ M i 1)] M) (k : ∀ M2, scr_ M M2 → St_ bd M2 → mm_Go (mm_run 13) mc_LateIndexesLaw_law R (1429, lw_lv i, [], M2)) : mm_Go (mm_run 13) mc_LateIndexesLaw_law R (287, lw_lv i, [], M) := by
  refine mm_s1 rfl ?_
  refine lw_rd (p := 288) (j := 1) rfl rfl rfl rfl rfl (mm_w_id (by omega)) (by omega) rfl ?_
  show mm_Go (mm_run 13) mc_LateIndexesLaw_law R (293, lw_lv i, [.inl (lx_ M i 1), .inr (.inr 1)], M)
  refine mm_s1 rfl ⟨kd_1, ?_⟩
  refine mm_run_mono 13 _ _ _ _ _ (fun v M1 hv => ?_) hp
  obtain ⟨x, rfl, s1, hm⟩ := hv
  have g : ∀ b, M1.2 5000 b = M.2 5000 b := fun b => s1 5000 b (by decide)
  have g1 : M1.2 5001 0 = L := (s1 5001 0 (by decide)).trans hL
  show mm_Go (mm_run 13) mc_LateIndexesLaw_law R (296, lw_lv i, [.inl x], M1)
  refine mm_s1 rfl ?_
  refine lw_rd (p := 297) (j := 1) rfl rfl rfl rfl rfl (mm_w_id (by omega)) (by omega) (g _) ?_
  show mm_Go (mm_run 13) mc_LateIndexesLaw_law R (302, lw_lv i, [.inl (lx_ M i 1), .inr (.inr 407), .inl x], M1)
  refine mm_s1 rfl ⟨kd_407, ?_⟩
  refine mm_run_mono 13 _ _ _ _ _ (fun w M2 hw => ?_) hm
  obtain ⟨rfl, s2, hS⟩ := hw
  show mm_Go (mm_run 13) mc_LateIndexesLaw_law R (305, lw_lv i, [.inl x, .inl x], M2)
  exact mm_s1 rfl ⟨fun _ => k M2 s2 hS, fun c => absurd rfl c⟩
set_option maxRecDepth 100000 in
theorem lw_310 {bd i L : Int} {M : mm_M} {R : mm_P} (hi : 0 ≤ i ∧ i + 6 ≤ L ∧ L ≤ 3072) (hL : M.2 5001 0 = L) (hp : pr_ bd mi_LI_set mi_M_set [.inl (lx_ M i 1), .inl (lx_ M i 2)] [.inl (lx_ M i 1), .inl (lx_ M i 2)] M) (k : ∀ M2, scr_ M M2 → St_ bd M2 → mm_Go (mm_run 13) mc_LateIndexesLaw_law R (1429, lw_lv i, [], M2)) : mm_Go (mm_run 13) mc_LateIndexesLaw_law R (310, lw_lv i, [], M) := by
  refine mm_s1 rfl ?_
  refine lw_rd (p := 311) (j := 1) rfl rfl rfl rfl rfl (mm_w_id (by omega)) (by omega) rfl ?_
  refine lw_rd (p := 316) (j := 2) rfl rfl rfl rfl rfl (mm_w_id (by omega)) (by omega) rfl ?_
  show mm_Go (mm_run 13) mc_LateIndexesLaw_law R (321, lw_lv i, [.inl (lx_ M i 2), .inl (lx_ M i 1), .inr (.inr 1)], M)
  refine mm_s1 rfl ⟨kd_1, ?_⟩
  refine mm_run_mono 13 _ _ _ _ _ (fun v M1 hv => ?_) hp
  obtain ⟨x, rfl, s1, hm⟩ := hv
  have g : ∀ b, M1.2 5000 b = M.2 5000 b := fun b => s1 5000 b (by decide)
  have g1 : M1.2 5001 0 = L := (s1 5001 0 (by decide)).trans hL
  show mm_Go (mm_run 13) mc_LateIndexesLaw_law R (324, lw_lv i, [.inl x], M1)
  refine mm_s1 rfl ?_
  refine lw_rd (p := 325) (j := 1) rfl rfl rfl rfl rfl (mm_w_id (by omega)) (by omega) (g _) ?_
  refine lw_rd (p := 330) (j := 2) rfl rfl rfl rfl rfl (mm_w_id (by omega)) (by omega) (g _) ?_
  show mm_Go (mm_run 13) mc_LateIndexesLaw_law R (335, lw_lv i, [.inl (lx_ M i 2), .inl (lx_ M i 1), .inr (.inr 407), .inl x], M1)
  refine mm_s1 rfl ⟨kd_407, ?_⟩
  refine mm_run_mono 13 _ _ _ _ _ (fun w M2 hw => ?_) hm
  obtain ⟨rfl, s2, hS⟩ := hw
  show mm_Go (mm_run 13) mc_LateIndexesLaw_law R (338, lw_lv i, [.inl x, .inl x], M2)
  exact mm_s1 rfl ⟨fun _ => k M2 s2 hS, fun c => absurd rfl c⟩
set_option maxRecDepth 100000 in
theorem lw_343 {bd i L : Int} {M : mm_M} {R : mm_P} (hi : 0 ≤ i ∧ i + 6 ≤ L ∧ L ≤ 3072) (hL : M.2 5001 0 = L) (hp : pr_ bd mi_LI_mend mi_M_mend [.inl (lx_ M i 1), .inl (if lx_ M i 2 = 0 then 0 else 1)] [.inl (lx_ M i 1), .inl (if lx_ M i 2 = 0 then 0 else 1)] M) (k : ∀ M2, scr_ M M2 → St_ bd M2 → mm_Go (mm_run 13) mc_LateIndexesLaw_law R (1429, lw_lv i, [], M2)) : mm_Go (mm_run 13) mc_LateIndexesLaw_law R (343, lw_lv i, [], M) := by
  have T : mm_Go (mm_run 13) mc_LateIndexesLaw_law R (362, lw_lv i, [.inl (if lx_ M i 2 = 0 then 0 else 1), .inl (lx_ M i 1), .inr (.inr 1)], M) := by
    refine mm_s1 rfl ⟨kd_1, ?_⟩
    refine mm_run_mono 13 _ _ _ _ _ (fun v M1 hv => ?_) hp
    obtain ⟨x, rfl, s1, hm⟩ := hv
    have g : ∀ b, M1.2 5000 b = M.2 5000 b := fun b => s1 5000 b (by decide)
    have g1 : M1.2 5001 0 = L := (s1 5001 0 (by decide)).trans hL
    have T2 : mm_Go (mm_run 13) mc_LateIndexesLaw_law R (384, lw_lv i, [.inl (if lx_ M i 2 = 0 then 0 else 1), .inl (lx_ M i 1), .inr (.inr 407), .inl x], M1) := by
      refine mm_s1 rfl ⟨kd_407, ?_⟩
      refine mm_run_mono 13 _ _ _ _ _ (fun w M2 hw => ?_) hm
      obtain ⟨rfl, s2, hS⟩ := hw
      show mm_Go (mm_run 13) mc_LateIndexesLaw_law R (387, lw_lv i, [.inl x, .inl x], M2)
      exact mm_s1 rfl ⟨fun _ => k M2 s2 hS, fun c => absurd rfl c⟩
    show mm_Go (mm_run 13) mc_LateIndexesLaw_law R (365, lw_lv i, [.inl x], M1)
    refine mm_s1 rfl ?_
    refine lw_rd (p := 366) (j := 1) rfl rfl rfl rfl rfl (mm_w_id (by omega)) (by omega) (g _) ?_
    refine lw_rd (p := 371) (j := 2) rfl rfl rfl rfl rfl (mm_w_id (by omega)) (by omega) (g _) ?_
    show mm_Go (mm_run 13) mc_LateIndexesLaw_law R (376, lw_lv i, [.inl (lx_ M i 2), .inl (lx_ M i 1), .inr (.inr 407), .inl x], M1)
    refine mm_s1 rfl ⟨fun c => ?_, fun c => ?_⟩
    · show mm_Go (mm_run 13) mc_LateIndexesLaw_law R (383, lw_lv i, [.inl (lx_ M i 1), .inr (.inr 407), .inl x], M1)
      have c : lx_ M i 2 = 0 := c
      rw [if_pos c] at T2
      exact mm_s1 rfl T2
    · show mm_Go (mm_run 13) mc_LateIndexesLaw_law R (379, lw_lv i, [.inl (lx_ M i 1), .inr (.inr 407), .inl x], M1)
      have c : ¬ lx_ M i 2 = 0 := c
      rw [if_neg c] at T2
      refine mm_s1 rfl ?_
      exact mm_s1 rfl T2
  refine mm_s1 rfl ?_
  refine lw_rd (p := 344) (j := 1) rfl rfl rfl rfl rfl (mm_w_id (by omega)) (by omega) rfl ?_
  refine lw_rd (p := 349) (j := 2) rfl rfl rfl rfl rfl (mm_w_id (by omega)) (by omega) rfl ?_
  show mm_Go (mm_run 13) mc_LateIndexesLaw_law R (354, lw_lv i, [.inl (lx_ M i 2), .inl (lx_ M i 1), .inr (.inr 1)], M)
  refine mm_s1 rfl ⟨fun c => ?_, fun c => ?_⟩
  · show mm_Go (mm_run 13) mc_LateIndexesLaw_law R (361, lw_lv i, [.inl (lx_ M i 1), .inr (.inr 1)], M)
    have c : lx_ M i 2 = 0 := c
    rw [if_pos c] at T
    exact mm_s1 rfl T
  · show mm_Go (mm_run 13) mc_LateIndexesLaw_law R (357, lw_lv i, [.inl (lx_ M i 1), .inr (.inr 1)], M)
    have c : ¬ lx_ M i 2 = 0 := c
    rw [if_neg c] at T
    refine mm_s1 rfl ?_
    exact mm_s1 rfl T
set_option maxRecDepth 100000 in
theorem lw_392 {bd i L : Int} {M : mm_M} {R : mm_P} (hi : 0 ≤ i ∧ i + 6 ≤ L ∧ L ≤ 3072) (hL : M.2 5001 0 = L) (hp : pr_ bd mi_LI_put mi_M_put [.inl (lx_ M i 1), .inl (lx_ M i 2), .inl (lx_ M i 3), .inl (lx_ M i 4), .inl (lx_ M i 5)] [.inl (lx_ M i 1), .inl (lx_ M i 2), .inl (lx_ M i 3), .inl (lx_ M i 4), .inl (lx_ M i 5)] M) (k : ∀ M2, scr_ M M2 → St_ bd M2 → mm_Go (mm_run 13) mc_LateIndexesLaw_law R (1429, lw_lv i, [], M2)) : mm_Go (mm_run 13) mc_LateIndexesLaw_law R (392, lw_lv i, [], M) := by
  refine mm_s1 rfl ?_
  refine lw_rd (p := 393) (j := 1) rfl rfl rfl rfl rfl (mm_w_id (by omega)) (by omega) rfl ?_
  refine lw_rd (p := 398) (j := 2) rfl rfl rfl rfl rfl (mm_w_id (by omega)) (by omega) rfl ?_
  refine lw_rd (p := 403) (j := 3) rfl rfl rfl rfl rfl (mm_w_id (by omega)) (by omega) rfl ?_
  refine lw_rd (p := 408) (j := 4) rfl rfl rfl rfl rfl (mm_w_id (by omega)) (by omega) rfl ?_
  refine lw_rd (p := 413) (j := 5) rfl rfl rfl rfl rfl (mm_w_id (by omega)) (by omega) rfl ?_
  show mm_Go (mm_run 13) mc_LateIndexesLaw_law R (418, lw_lv i, [.inl (lx_ M i 5), .inl (lx_ M i 4), .inl (lx_ M i 3), .inl (lx_ M i 2), .inl (lx_ M i 1), .inr (.inr 1)], M)
  refine mm_s1 rfl ⟨kd_1, ?_⟩
  refine mm_run_mono 13 _ _ _ _ _ (fun v M1 hv => ?_) hp
  obtain ⟨x, rfl, s1, hm⟩ := hv
  have g : ∀ b, M1.2 5000 b = M.2 5000 b := fun b => s1 5000 b (by decide)
  have g1 : M1.2 5001 0 = L := (s1 5001 0 (by decide)).trans hL
  show mm_Go (mm_run 13) mc_LateIndexesLaw_law R (421, lw_lv i, [.inl x], M1)
  refine mm_s1 rfl ?_
  refine lw_rd (p := 422) (j := 1) rfl rfl rfl rfl rfl (mm_w_id (by omega)) (by omega) (g _) ?_
  refine lw_rd (p := 427) (j := 2) rfl rfl rfl rfl rfl (mm_w_id (by omega)) (by omega) (g _) ?_
  refine lw_rd (p := 432) (j := 3) rfl rfl rfl rfl rfl (mm_w_id (by omega)) (by omega) (g _) ?_
  refine lw_rd (p := 437) (j := 4) rfl rfl rfl rfl rfl (mm_w_id (by omega)) (by omega) (g _) ?_
  refine lw_rd (p := 442) (j := 5) rfl rfl rfl rfl rfl (mm_w_id (by omega)) (by omega) (g _) ?_
  show mm_Go (mm_run 13) mc_LateIndexesLaw_law R (447, lw_lv i, [.inl (lx_ M i 5), .inl (lx_ M i 4), .inl (lx_ M i 3), .inl (lx_ M i 2), .inl (lx_ M i 1), .inr (.inr 407), .inl x], M1)
  refine mm_s1 rfl ⟨kd_407, ?_⟩
  refine mm_run_mono 13 _ _ _ _ _ (fun w M2 hw => ?_) hm
  obtain ⟨rfl, s2, hS⟩ := hw
  show mm_Go (mm_run 13) mc_LateIndexesLaw_law R (450, lw_lv i, [.inl x, .inl x], M2)
  exact mm_s1 rfl ⟨fun _ => k M2 s2 hS, fun c => absurd rfl c⟩
set_option maxRecDepth 100000 in
theorem lw_455 {bd i L : Int} {M : mm_M} {R : mm_P} (hi : 0 ≤ i ∧ i + 6 ≤ L ∧ L ≤ 3072) (hL : M.2 5001 0 = L) (hp : pr_ bd mi_LI_change mi_M_change [.inl (lx_ M i 1), .inl (lx_ M i 2), .inl (lx_ M i 3)] [.inl (lx_ M i 1), .inl (lx_ M i 2), .inl (lx_ M i 3)] M) (k : ∀ M2, scr_ M M2 → St_ bd M2 → mm_Go (mm_run 13) mc_LateIndexesLaw_law R (1429, lw_lv i, [], M2)) : mm_Go (mm_run 13) mc_LateIndexesLaw_law R (455, lw_lv i, [], M) := by
  refine mm_s1 rfl ?_
  refine lw_rd (p := 456) (j := 1) rfl rfl rfl rfl rfl (mm_w_id (by omega)) (by omega) rfl ?_
  refine lw_rd (p := 461) (j := 2) rfl rfl rfl rfl rfl (mm_w_id (by omega)) (by omega) rfl ?_
  refine lw_rd (p := 466) (j := 3) rfl rfl rfl rfl rfl (mm_w_id (by omega)) (by omega) rfl ?_
  show mm_Go (mm_run 13) mc_LateIndexesLaw_law R (471, lw_lv i, [.inl (lx_ M i 3), .inl (lx_ M i 2), .inl (lx_ M i 1), .inr (.inr 1)], M)
  refine mm_s1 rfl ⟨kd_1, ?_⟩
  refine mm_run_mono 13 _ _ _ _ _ (fun v M1 hv => ?_) hp
  obtain ⟨x, rfl, s1, hm⟩ := hv
  have g : ∀ b, M1.2 5000 b = M.2 5000 b := fun b => s1 5000 b (by decide)
  have g1 : M1.2 5001 0 = L := (s1 5001 0 (by decide)).trans hL
  show mm_Go (mm_run 13) mc_LateIndexesLaw_law R (474, lw_lv i, [.inl x], M1)
  refine mm_s1 rfl ?_
  refine lw_rd (p := 475) (j := 1) rfl rfl rfl rfl rfl (mm_w_id (by omega)) (by omega) (g _) ?_
  refine lw_rd (p := 480) (j := 2) rfl rfl rfl rfl rfl (mm_w_id (by omega)) (by omega) (g _) ?_
  refine lw_rd (p := 485) (j := 3) rfl rfl rfl rfl rfl (mm_w_id (by omega)) (by omega) (g _) ?_
  show mm_Go (mm_run 13) mc_LateIndexesLaw_law R (490, lw_lv i, [.inl (lx_ M i 3), .inl (lx_ M i 2), .inl (lx_ M i 1), .inr (.inr 407), .inl x], M1)
  refine mm_s1 rfl ⟨kd_407, ?_⟩
  refine mm_run_mono 13 _ _ _ _ _ (fun w M2 hw => ?_) hm
  obtain ⟨rfl, s2, hS⟩ := hw
  show mm_Go (mm_run 13) mc_LateIndexesLaw_law R (493, lw_lv i, [.inl x, .inl x], M2)
  exact mm_s1 rfl ⟨fun _ => k M2 s2 hS, fun c => absurd rfl c⟩
set_option maxRecDepth 100000 in
theorem lw_498 {bd i L : Int} {M : mm_M} {R : mm_P} (hi : 0 ≤ i ∧ i + 6 ≤ L ∧ L ≤ 3072) (hL : M.2 5001 0 = L) (hp : pr_ bd mi_LI_remove mi_M_remove [.inl (lx_ M i 1)] [.inl (lx_ M i 1)] M) (k : ∀ M2, scr_ M M2 → St_ bd M2 → mm_Go (mm_run 13) mc_LateIndexesLaw_law R (1429, lw_lv i, [], M2)) : mm_Go (mm_run 13) mc_LateIndexesLaw_law R (498, lw_lv i, [], M) := by
  refine mm_s1 rfl ?_
  refine lw_rd (p := 499) (j := 1) rfl rfl rfl rfl rfl (mm_w_id (by omega)) (by omega) rfl ?_
  show mm_Go (mm_run 13) mc_LateIndexesLaw_law R (504, lw_lv i, [.inl (lx_ M i 1), .inr (.inr 1)], M)
  refine mm_s1 rfl ⟨kd_1, ?_⟩
  refine mm_run_mono 13 _ _ _ _ _ (fun v M1 hv => ?_) hp
  obtain ⟨x, rfl, s1, hm⟩ := hv
  have g : ∀ b, M1.2 5000 b = M.2 5000 b := fun b => s1 5000 b (by decide)
  have g1 : M1.2 5001 0 = L := (s1 5001 0 (by decide)).trans hL
  show mm_Go (mm_run 13) mc_LateIndexesLaw_law R (507, lw_lv i, [.inl x], M1)
  refine mm_s1 rfl ?_
  refine lw_rd (p := 508) (j := 1) rfl rfl rfl rfl rfl (mm_w_id (by omega)) (by omega) (g _) ?_
  show mm_Go (mm_run 13) mc_LateIndexesLaw_law R (513, lw_lv i, [.inl (lx_ M i 1), .inr (.inr 407), .inl x], M1)
  refine mm_s1 rfl ⟨kd_407, ?_⟩
  refine mm_run_mono 13 _ _ _ _ _ (fun w M2 hw => ?_) hm
  obtain ⟨rfl, s2, hS⟩ := hw
  show mm_Go (mm_run 13) mc_LateIndexesLaw_law R (516, lw_lv i, [.inl x, .inl x], M2)
  exact mm_s1 rfl ⟨fun _ => k M2 s2 hS, fun c => absurd rfl c⟩
set_option maxRecDepth 100000 in
theorem lw_521 {bd i L : Int} {M : mm_M} {R : mm_P} (hi : 0 ≤ i ∧ i + 6 ≤ L ∧ L ≤ 3072) (hL : M.2 5001 0 = L) (hp : pr_ bd mi_LI_load mi_M_load [.inl (lx_ M i 1), .inl (lx_ M i 2)] [.inl (lx_ M i 1), .inl (lx_ M i 2)] M) (k : ∀ M2, scr_ M M2 → St_ bd M2 → mm_Go (mm_run 13) mc_LateIndexesLaw_law R (1429, lw_lv i, [], M2)) : mm_Go (mm_run 13) mc_LateIndexesLaw_law R (521, lw_lv i, [], M) := by
  refine mm_s1 rfl ?_
  refine lw_rd (p := 522) (j := 1) rfl rfl rfl rfl rfl (mm_w_id (by omega)) (by omega) rfl ?_
  refine lw_rd (p := 527) (j := 2) rfl rfl rfl rfl rfl (mm_w_id (by omega)) (by omega) rfl ?_
  show mm_Go (mm_run 13) mc_LateIndexesLaw_law R (532, lw_lv i, [.inl (lx_ M i 2), .inl (lx_ M i 1), .inr (.inr 1)], M)
  refine mm_s1 rfl ⟨kd_1, ?_⟩
  refine mm_run_mono 13 _ _ _ _ _ (fun v M1 hv => ?_) hp
  obtain ⟨x, rfl, s1, hm⟩ := hv
  have g : ∀ b, M1.2 5000 b = M.2 5000 b := fun b => s1 5000 b (by decide)
  have g1 : M1.2 5001 0 = L := (s1 5001 0 (by decide)).trans hL
  show mm_Go (mm_run 13) mc_LateIndexesLaw_law R (535, lw_lv i, [.inl x], M1)
  refine mm_s1 rfl ?_
  refine lw_rd (p := 536) (j := 1) rfl rfl rfl rfl rfl (mm_w_id (by omega)) (by omega) (g _) ?_
  refine lw_rd (p := 541) (j := 2) rfl rfl rfl rfl rfl (mm_w_id (by omega)) (by omega) (g _) ?_
  show mm_Go (mm_run 13) mc_LateIndexesLaw_law R (546, lw_lv i, [.inl (lx_ M i 2), .inl (lx_ M i 1), .inr (.inr 407), .inl x], M1)
  refine mm_s1 rfl ⟨kd_407, ?_⟩
  refine mm_run_mono 13 _ _ _ _ _ (fun w M2 hw => ?_) hm
  obtain ⟨rfl, s2, hS⟩ := hw
  show mm_Go (mm_run 13) mc_LateIndexesLaw_law R (549, lw_lv i, [.inl x, .inl x], M2)
  exact mm_s1 rfl ⟨fun _ => k M2 s2 hS, fun c => absurd rfl c⟩
set_option maxRecDepth 100000 in
theorem lw_554 {bd i L : Int} {M : mm_M} {R : mm_P} (hi : 0 ≤ i ∧ i + 6 ≤ L ∧ L ≤ 3072) (hL : M.2 5001 0 = L) (hp : pr_ bd mi_LI_flush mi_M_flush [] [] M) (k : ∀ M2, scr_ M M2 → St_ bd M2 → mm_Go (mm_run 13) mc_LateIndexesLaw_law R (1429, lw_lv i, [], M2)) : mm_Go (mm_run 13) mc_LateIndexesLaw_law R (554, lw_lv i, [], M) := by
  refine mm_s1 rfl ?_
  show mm_Go (mm_run 13) mc_LateIndexesLaw_law R (555, lw_lv i, [.inr (.inr 1)], M)
  refine mm_s1 rfl ⟨kd_1, ?_⟩
  refine mm_run_mono 13 _ _ _ _ _ (fun v M1 hv => ?_) hp
  obtain ⟨x, rfl, s1, hm⟩ := hv
  have g : ∀ b, M1.2 5000 b = M.2 5000 b := fun b => s1 5000 b (by decide)
  have g1 : M1.2 5001 0 = L := (s1 5001 0 (by decide)).trans hL
  show mm_Go (mm_run 13) mc_LateIndexesLaw_law R (558, lw_lv i, [.inl x], M1)
  refine mm_s1 rfl ?_
  show mm_Go (mm_run 13) mc_LateIndexesLaw_law R (559, lw_lv i, [.inr (.inr 407), .inl x], M1)
  refine mm_s1 rfl ⟨kd_407, ?_⟩
  refine mm_run_mono 13 _ _ _ _ _ (fun w M2 hw => ?_) hm
  obtain ⟨rfl, s2, hS⟩ := hw
  show mm_Go (mm_run 13) mc_LateIndexesLaw_law R (562, lw_lv i, [.inl x, .inl x], M2)
  exact mm_s1 rfl ⟨fun _ => k M2 s2 hS, fun c => absurd rfl c⟩
set_option maxRecDepth 100000 in
theorem lw_567 {bd i L : Int} {M : mm_M} {R : mm_P} (hi : 0 ≤ i ∧ i + 6 ≤ L ∧ L ≤ 3072) (hL : M.2 5001 0 = L) (hp : pr_ bd mi_LI_merge mi_M_merge [.inl (lx_ M i 1), .inl (lx_ M i 2), .inl (lx_ M i 3)] [.inl (lx_ M i 1), .inl (lx_ M i 2), .inl (lx_ M i 3)] M) (k : ∀ M2, scr_ M M2 → St_ bd M2 → mm_Go (mm_run 13) mc_LateIndexesLaw_law R (1429, lw_lv i, [], M2)) : mm_Go (mm_run 13) mc_LateIndexesLaw_law R (567, lw_lv i, [], M) := by
  refine mm_s1 rfl ?_
  refine lw_rd (p := 568) (j := 1) rfl rfl rfl rfl rfl (mm_w_id (by omega)) (by omega) rfl ?_
  refine lw_rd (p := 573) (j := 2) rfl rfl rfl rfl rfl (mm_w_id (by omega)) (by omega) rfl ?_
  refine lw_rd (p := 578) (j := 3) rfl rfl rfl rfl rfl (mm_w_id (by omega)) (by omega) rfl ?_
  show mm_Go (mm_run 13) mc_LateIndexesLaw_law R (583, lw_lv i, [.inl (lx_ M i 3), .inl (lx_ M i 2), .inl (lx_ M i 1), .inr (.inr 1)], M)
  refine mm_s1 rfl ⟨kd_1, ?_⟩
  refine mm_run_mono 13 _ _ _ _ _ (fun v M1 hv => ?_) hp
  obtain ⟨x, rfl, s1, hm⟩ := hv
  have g : ∀ b, M1.2 5000 b = M.2 5000 b := fun b => s1 5000 b (by decide)
  have g1 : M1.2 5001 0 = L := (s1 5001 0 (by decide)).trans hL
  show mm_Go (mm_run 13) mc_LateIndexesLaw_law R (586, lw_lv i, [.inl x], M1)
  refine mm_s1 rfl ?_
  refine lw_rd (p := 587) (j := 1) rfl rfl rfl rfl rfl (mm_w_id (by omega)) (by omega) (g _) ?_
  refine lw_rd (p := 592) (j := 2) rfl rfl rfl rfl rfl (mm_w_id (by omega)) (by omega) (g _) ?_
  refine lw_rd (p := 597) (j := 3) rfl rfl rfl rfl rfl (mm_w_id (by omega)) (by omega) (g _) ?_
  show mm_Go (mm_run 13) mc_LateIndexesLaw_law R (602, lw_lv i, [.inl (lx_ M i 3), .inl (lx_ M i 2), .inl (lx_ M i 1), .inr (.inr 407), .inl x], M1)
  refine mm_s1 rfl ⟨kd_407, ?_⟩
  refine mm_run_mono 13 _ _ _ _ _ (fun w M2 hw => ?_) hm
  obtain ⟨rfl, s2, hS⟩ := hw
  show mm_Go (mm_run 13) mc_LateIndexesLaw_law R (605, lw_lv i, [.inl x, .inl x], M2)
  exact mm_s1 rfl ⟨fun _ => k M2 s2 hS, fun c => absurd rfl c⟩
