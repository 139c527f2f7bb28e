/-! the law's meaning in the small machine, for every script -/
set_option maxRecDepth 100000 in
theorem mm_hgo (L : Nat) (xs : Nat → Int32) (hL : L ≤ 3072) : mm_Go (mm_run 13) (mm_code 0) (fun v M => v = some (.inl 1) ∧ M.1 ≤ mm_max) (0, [(0, .inr (.inr 5000))], [], mm_m0 L xs) := by
  show mm_Go (mm_run 13) mc_LateIndexesLaw_law _ (0, [(0, .inr (.inr 5000))], [], mm_m0 L xs)
  have sc0 : sc_ L (mm_m0 L xs) := ⟨rfl, fun b => mm_tI _⟩
  refine mm_s1 rfl ⟨⟨show (0 : Nat) < mm_max by decide, kd_1⟩, ?_⟩
  refine mm_s1 rfl ?_
  show mm_Go (mm_run 13) mc_LateIndexesLaw_law _ (4, [(0, .inr (.inr 5000))], [.inr (.inr 1), .inr (.inr 1)], mm_nw (mm_m0 L xs))
  refine mm_s1 rfl ⟨kd_1, ?_⟩
  obtain ⟨W1, x1, c1⟩ := xnw_e xst_LI
  refine nn_run_le (show 5 ≤ 13 by decide) (xcl_ok 5 1 [.inr (.inr 1)] (1, []) _ _ _ x1 (xr_0 (n := 0) (f := (mm_m0 L xs).2) rfl rfl) (fun M1 r1 => ?_))
  show mm_Go (mm_run 13) mc_LateIndexesLaw_law _ (7, [(0, .inr (.inr 5000))], [.inr (.inr 1)], M1)
  refine mm_s1 rfl ?_
  show mm_Go (mm_run 13) mc_LateIndexesLaw_law _ (8, [(0, .inr (.inr 5000)), (1, .inr (.inr 1))], [], M1)
  have N1 : M1.1 = 406 := r1.1
  have c8 : M1.1 < mm_max ∧ (mm_kd (M1.1 + 1)).1 = 13 := by
    rw [N1]
    exact ⟨by decide, kd_407⟩
  refine mm_s1 rfl ⟨c8, ?_⟩
  have go : mm_Go (mm_run 13) mc_LateIndexesLaw_law (fun v M => v = some (.inl 1) ∧ M.1 ≤ mm_max) (11, [(0, .inr (.inr 5000)), (1, .inr (.inr 1))], [.inr (.inr (406 + 1))], mm_nw M1) := by
    refine mm_s1 rfl ?_
    show mm_Go (mm_run 13) mc_LateIndexesLaw_law _ (12, [(0, .inr (.inr 5000)), (1, .inr (.inr 1))], [.inr (.inr 407), .inr (.inr 407)], mm_nw M1)
    refine mm_s1 rfl ⟨kd_407, ?_⟩
    obtain ⟨W2, x2, c2⟩ := xnw_e xst_M
    refine nn_run_le (show 3 ≤ 13 by decide) (xcl_ok 3 179 [.inr (.inr 407)] (407, []) _ _ _ x2 (xr_0 (n := 406) (f := M1.2) N1 rfl) (fun M3 r3 => ?_))
    show mm_Go (mm_run 13) mc_LateIndexesLaw_law _ (15, [(0, .inr (.inr 5000)), (1, .inr (.inr 1))], [.inr (.inr 407)], M3)
    obtain ⟨⟨L3, N3⟩, ⟨kc, s1, s2, s3⟩, km, im, far⟩ := st_x r1 c1 r3 c2
    have hs : sc_ L M3 := sc_scr (M := mm_m0 L xs) far sc0
    have hS : St_ 0 M3 := by
      refine ⟨L3, Z0_, ⟨kc, km, jZ_x (Int.le_refl _), jI_x, jB_x⟩, ⟨s1, s2, s3⟩, fun k k0 k1 => Or.inl (im k k0 k1), ?_, fun k k' a1 a2 a3 a4 a5 => absurd (im k a1 a2).1 a5⟩
      have z : ∀ k, 0 ≤ k → k < 3 → cn1_ M3 k = 0 := fun k k0 k1 => by
        unfold cn1_
        rw [(im k k0 k1).1, if_pos rfl]
      rw [z 0 (by decide) (by decide), z 1 (by decide) (by decide), z 2 (by decide) (by decide)]
      exact N3
    refine mm_s1 rfl ?_
    refine mm_s1 rfl ?_
    refine mm_s1 rfl ?_
    show mm_Go (mm_run 13) mc_LateIndexesLaw_law _ (18, lw_lv 0, [], M3)
    exact lw_go ⟨by omega, by omega⟩ 600 0 0 M3 ⟨by omega, by omega, by omega⟩ ⟨by omega, by omega⟩ hs hS
  rw [← N1] at go
  exact go
