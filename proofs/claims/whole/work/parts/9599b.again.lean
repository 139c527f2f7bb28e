/-! images: the Model's, and back, both sides -/
theorem ct_M_image {bd k : Int} {Z : ab_Z} {M : mm_M} {R : Int → mm_M → Prop} (kY : mY_ bd M 0 Z) (j : jZ_ bd Z) (h1 : 0 ≤ k ∧ k < 3 → ∀ M', fr_ (fun o b => mz_ (16422 + 5474 * k) o b ∨ (o = 409 ∧ (b : Int) = k)) M M' → mY_ bd M' (16422 + 5474 * k) Z → nn_ri M' 409 k = 1 → R 1 M') (h0 : ¬ (0 ≤ k ∧ k < 3) → R 0 M) : nr_M_image k M R := by
  refine ng_M_image _ _ _ ⟨fun z => ?_, fun z => h0 (fun w => k_in0.mp z ⟨w.1, by omega⟩)⟩
  have z := k_in.mp z
  rw [mm_w_id (x := 5474 * k) (by omega), mm_w_id (x := 16422 + 5474 * k) (by omega)]
  refine ct_M_copies bk_0 (by unfold bk_; omega) (Or.inl (by omega)) (fun M1 f1 s1 => ⟨⟨z.1, by omega⟩, fun M2 e2 => ?_⟩)
  have f2 : fr_ (fun o b => o = 409 ∧ (b : Int) = k) M1 M2 := by rw [e2]; exact fr_ui (fr_refl M1) ⟨rfl, by omega⟩
  have s2 : shf_ M M2 0 (16422 + 5474 * k) 5474 := fun q q0 q1 => (fr_ri f2 (fun y => by omega)).trans (s1 q q0 q1)
  refine h1 ⟨z.1, by omega⟩ M2 (fr_trans (fr_mono f1 (fun o b y => Or.inl y)) (fr_mono f2 (fun o b y => Or.inr y))) (mY_sh s2 j kY) ?_
  rw [e2, rd_ii, if_pos ⟨rfl, rfl⟩]
theorem mY_fr2 {P : Nat → Nat → Prop} {M M' : mm_M} {c bd bd' : Int} {Z : ab_Z} (f : fr_ P M M') (hc : bk_ c) (hv : ∀ b : Nat, c ≤ (b : Int) → (b : Int) < c + 5474 → ¬ P 408 b) (j : jZ_ bd' Z) (k : mY_ bd M c Z) : mY_ bd M' c Z := mY_sh (b := c) (fun q q0 q1 => by
  unfold bk_ at hc
  exact fr_ri f (hv _ (by omega) (by omega))) j k
theorem ct_M_again {bd k : Int} {Z : ab_Z} {M : mm_M} {R : Int → mm_M → Prop} (hk : 0 ≤ k ∧ k < 3 → nn_ri M 409 k ≠ 0 → mY_ bd M (16422 + 5474 * k) Z ∧ jZ_ bd Z) (h1 : 0 ≤ k ∧ k < 3 → nn_ri M 409 k ≠ 0 → ∀ M', fr_ (mz_ 0) M M' → mY_ bd M' 0 Z → R 1 M') (h0 : ¬ ((0 ≤ k ∧ k < 3) ∧ nn_ri M 409 k ≠ 0) → R 0 M) : nr_M_again k M R := by
  refine ng_M_again _ _ _ ⟨fun z => ?_, fun z => h0 (fun w => ?_), fun z => ?_⟩
  · have := k_in.mp z
    omega
  · rcases z with z | z
    · exact k_in0.mp z ⟨w.1.1, by omega⟩
    · exact w.2 z
  · have z1 := k_in.mp z.1
    obtain ⟨m, j⟩ := hk ⟨z1.1, by omega⟩ z.2
    rw [mm_w_id (x := 5474 * k) (by omega), mm_w_id (x := 16422 + 5474 * k) (by omega)]
    exact ct_M_copies (by unfold bk_; omega) bk_0 (Or.inr (by omega)) (fun M1 f1 s1 => h1 ⟨z1.1, by omega⟩ z.2 M1 f1 (mY_sh s1 j m))
theorem ct_LI_again {bd k : Int} {Z : ab_Z} {M : mm_M} {R : Int → mm_M → Prop} (hk : 0 ≤ k ∧ k < 3 → nn_rr M 406 k ≠ 0 → (cZ_ M (nn_rr M 406 k) Z ∧ jZ_ bd Z) ∧ sk_ (nn_rr M 406 k) ∧ nn_rr M 406 k ≠ 2) (hsl : sl_ M 5) (hs0 : s0_ M 2) (h1 : 0 ≤ k ∧ k < 3 → nn_rr M 406 k ≠ 0 → ∀ M', fr_ now_ M M' → cZ_ M' 2 Z → R 1 M') (h0 : ¬ ((0 ≤ k ∧ k < 3) ∧ nn_rr M 406 k ≠ 0) → R 0 M) : nr_LI_again k M R := by
  refine ng_LI_again _ _ _ ⟨fun z => z, fun z => ⟨z.1, z.2.1⟩, fun z => h0 (fun w => ?_), fun z => ?_⟩
  · rcases z with z | z | z
    · omega
    · omega
    · exact w.2 z
  · obtain ⟨⟨m, j⟩, hs, hn⟩ := hk ⟨z.1, z.2.1⟩ z.2.2
    exact ct_S_copy (Or.inl rfl) hs (fun e => hn e.symm) m j hsl hs0 (fun M1 f1 k1 => h1 ⟨z.1, z.2.1⟩ z.2.2 M1 (fr_mono f1 (fun o b y => by unfold now_; omega)) k1)
