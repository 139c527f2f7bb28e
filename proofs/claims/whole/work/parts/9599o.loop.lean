/-! the law: its loop's head, its end -/
set_option maxRecDepth 100000 in
theorem lw_hd {L i : Int} {M : mm_M} {R : mm_P} (hL : 0 ≤ L ∧ L ≤ 3072) (hs : sc_ L M) (h1 : L - 6 < i → mm_Go (mm_run 13) mc_LateIndexesLaw_law R (1435, lw_lv i, [], M)) (h2 : ¬ L - 6 < i → mm_Go (mm_run 13) mc_LateIndexesLaw_law R (27, lw_lv i, [], M)) : mm_Go (mm_run 13) mc_LateIndexesLaw_law R (18, lw_lv i, [], M) := by
  have e : mm_w (L - 6) = L - 6 := mm_w_id (by omega)
  refine mm_s1 rfl ?_
  refine mm_s1 rfl ?_
  refine mm_s1 rfl ⟨rfl, ?_⟩
  show mm_Go (mm_run 13) mc_LateIndexesLaw_law R (21, lw_lv i, [.inl (M.2 5001 0), .inl i], M)
  rw [hs.1]
  refine mm_s1 rfl ?_
  refine mm_s1 rfl ?_
  show mm_Go (mm_run 13) mc_LateIndexesLaw_law R (24, lw_lv i, [.inl (mm_w (L - 6)), .inl i], M)
  rw [e]
  exact mm_s1 rfl ⟨fun c => h1 c, fun c => h2 c⟩
set_option maxRecDepth 100000 in
theorem lw_end {L i bd : Int} {M : mm_M} (hL : 0 ≤ L ∧ L ≤ 3072) (hi : L < i + 6) (hs : sc_ L M) (h : St_ bd M) : mm_Go (mm_run 13) mc_LateIndexesLaw_law (fun v M => v = some (.inl 1) ∧ M.1 ≤ mm_max) (18, lw_lv i, [], M) := by
  refine lw_hd hL hs (fun _ => ?_) (fun c => absurd (show L - 6 < i by omega) c)
  refine mm_s1 rfl ?_
  refine mm_s1 rfl ⟨Or.inr rfl, rfl, ?_⟩
  have hN : nn_N M.1 := h.1.1
  unfold nn_N at hN
  unfold mm_max
  omega
theorem lw_head {L i : Int} {M : mm_M} {R : mm_P} (hL : 0 ≤ L ∧ L ≤ 3072) (hi : i + 6 ≤ L) (hs : sc_ L M) (h : mm_Go (mm_run 13) mc_LateIndexesLaw_law R (27, lw_lv i, [], M)) : mm_Go (mm_run 13) mc_LateIndexesLaw_law R (18, lw_lv i, [], M) := lw_hd hL hs (fun c => absurd c (by omega)) (fun _ => h)
/-! the law: its loop, its start -/
set_option maxRecDepth 100000 in
theorem lw_sw {L i bd : Int} {M : mm_M} {R : mm_P} (hi : 0 ≤ i ∧ i + 6 ≤ L ∧ L ≤ 3072) (hb : 0 ≤ bd ∧ bd < 500000000) (hs : sc_ L M) (h : St_ bd M) (k : ∀ M2, sc_ L M2 → St_ (bd + 8000) M2 → mm_Go (mm_run 13) mc_LateIndexesLaw_law R (1429, lw_lv i, [], M2)) : mm_Go (mm_run 13) mc_LateIndexesLaw_law R (27, lw_lv i, [], M) := by
  have k1 : ∀ M2, scr_ M M2 → St_ (bd + 8000) M2 → mm_Go (mm_run 13) mc_LateIndexesLaw_law R (1429, lw_lv i, [], M2) := fun M2 q1 q2 => k M2 (sc_scr q1 hs) q2
  have hL : M.2 5001 0 = L := hs.1
  have b01 : ∀ c : Prop, [Decidable c] → (if c then (0 : Int) else 1) = 0 ∨ (if c then (0 : Int) else 1) = 1 := fun c _ => by split <;> simp
  refine mm_s1 rfl ?_
  refine mm_s1 rfl ?_
  refine mm_s1 rfl ⟨⟨rfl, by omega, by omega⟩, ?_⟩
  refine mm_s1 rfl ?_
  refine mm_s1 rfl ?_
  refine nn_sw (by rfl) (by decide) (fun t ht hx => ?_) (fun c => ?_)
  · clear hx
    match t, ht with
    | 0, _ => exact lw_188 hi hL (arm_feed hb h ) k1
    | 1, _ => exact lw_251 hi hL (arm_end hb h ) k1
    | 2, _ => exact lw_274 hi hL (arm_define hb h ) k1
    | 3, _ => exact lw_287 hi hL (arm_fault hb h ) k1
    | 4, _ => exact lw_310 hi hL (arm_set hb h ) k1
    | 5, _ => exact lw_343 hi hL (arm_mend hb h (b01 _)) k1
    | 6, _ => exact lw_392 hi hL (arm_put hb h ) k1
    | 7, _ => exact lw_455 hi hL (arm_change hb h ) k1
    | 8, _ => exact lw_498 hi hL (arm_remove hb h ) k1
    | 9, _ => exact lw_521 hi hL (arm_load hb h ) k1
    | 10, _ => exact lw_554 hi hL (arm_flush hb h ) k1
    | 11, _ => exact lw_567 hi hL (arm_merge hb h (hs.2 _) (hs.2 _)) k1
    | 12, _ => exact lw_610 hi hL (arm_repair hb h ) k1
    | 13, _ => exact lw_633 hi hL (arm_build hb h ) k1
    | 14, _ => exact lw_666 hi hL (arm_drop hb h ) k1
    | 15, _ => exact lw_689 hi hL (arm_row hb h ) k1
    | 16, _ => exact lw_722 hi hL (arm_ask hb h ) k1
    | 17, _ => exact lw_775 hi hL (arm_cost hb h ) k1
    | 18, _ => exact lw_798 hi hL (arm_both hb h (hs.2 _)) k1
    | 19, _ => exact lw_861 hi hL (arm_sum hb h ) k1
    | 20, _ => exact lw_914 hi hL (arm_near hb h (hs.2 _)) k1
    | 21, _ => exact lw_947 hi hL (arm_open hb h ) k1
    | 22, _ => exact lw_990 hi hL (arm_next hb h ) k1
    | 23, _ => exact lw_1013 hi hL (arm_close hb h ) k1
    | 24, _ => exact lw_1036 hi hL (arm_count hb h ) k1
    | 25, _ => exact lw_1059 hi hL (arm_run hb h (hs.2 _)) k1
    | 26, _ => exact lw_1092 hi hL (arm_index hb h (hs.2 _)) k1
    | 27, _ => exact lw_1125 hi hL (arm_entry hb h (hs.2 _)) k1
    | 28, _ => exact lw_1178 hi hL (arm_value hb h ) k1
    | 29, _ => exact lw_1241 hi hL (arm_why hb h ) k1
    | 30, _ => exact lw_1274 hi hL (arm_would hb h (hs.2 _) (hs.2 _)) k1
    | 31, _ => exact lw_1317 hi hL (arm_held hb h ) k1
    | 32, _ => exact lw_1340 hi hL (arm_tried hb h (hs.2 _)) k1
    | 33, _ => exact lw_1383 hi hL (arm_image hb h ) k1
    | 34, _ => exact lw_1406 hi hL (arm_again hb h ) k1
    | t + 35, ht => exact absurd ht (show ¬ t + 35 < 35 by omega)
  · show mm_Go (mm_run 13) mc_LateIndexesLaw_law R (1429, lw_lv i, [], M)
    obtain ⟨L0, Z, h0⟩ := h
    exact k1 M scr_r ⟨L0, (ar_s (x := 0) h0 (by omega)).2.2⟩
set_option maxRecDepth 100000 in
theorem lw_go {L : Int} (hL : 0 ≤ L ∧ L ≤ 3072) : ∀ (t : Nat) (i bd : Int) (M : mm_M), 0 ≤ i ∧ L ≤ i + 6 * t ∧ i ≤ 3072 → 0 ≤ bd ∧ bd + 8000 * t < 400000000 → sc_ L M → St_ bd M → mm_Go (mm_run 13) mc_LateIndexesLaw_law (fun v M => v = some (.inl 1) ∧ M.1 ≤ mm_max) (18, lw_lv i, [], M) := by
  intro t
  induction t with
  | zero =>
    intro i bd M hi hb hs h
    exact lw_end hL (by omega) hs h
  | succ t ih =>
    intro i bd M hi hb hs h
    by_cases c : L < i + 6
    · exact lw_end hL (by omega) hs h
    · refine lw_head hL (by omega) hs ?_
      refine lw_sw (by omega) (by omega) hs h (fun M2 s2 h2 => ?_)
      refine mm_s1 rfl ?_
      refine mm_s1 rfl ?_
      show mm_Go (mm_run 13) mc_LateIndexesLaw_law _ (18, lw_lv (mm_w (i + 6)), [], M2)
      rw [mm_w_id (x := i + 6) (by omega)]
      exact ih (i + 6) (bd + 8000) M2 (by omega) (by omega) s2 h2
