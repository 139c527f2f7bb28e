/-! image: the class makes a store, once each; copies; both sides -/
theorem li_im33 {k : Int} {M : mm_M} {P : mm_P} (L : nn_L M) (hk : 0 ≤ k ∧ k < 3) (ha : nn_rr M 406 k ≠ 0) (h : nr_Store_copy (nn_rr M 406 k) 2 M (fun M' => nn_L M' → M'.1 = M.1 → P (some (.inl 1)) M')) : mm_Go (mm_run 12) mc_LI_image P (33, [(0, .inr (.inr 1)), (1, .inl k)], [], M) := by
  have N : M.1 = M.1 := rfl
  have NN := nn_L_n L N
  have C := (nn_l39 L N hk).2
  refine mm_s1 rfl ?_
  refine nn_getr rfl (nn_c1 NN).1 (lf_1_4 L N (nn_c1 NN)) ?_
  refine mm_s1 rfl ?_
  refine nn_aald rfl (nn_bd30 (na_1_4 NN (nn_c1 NN)) (by decide) hk) (nn_l39 L N hk).1 ?_
  show mm_Go (mm_run 12) mc_LI_image _ (39, [(0, .inr (.inr 1)), (1, .inl k)], [.inr (.inr (nn_rr M 406 k))], M)
  refine mm_s1 rfl ?_
  refine nn_getr rfl (nn_c1 NN).1 (lf_1_0 L N (nn_c1 NN)) ?_
  show mm_Go (mm_run 12) mc_LI_image _ (43, [(0, .inr (.inr 1)), (1, .inl k)], [.inr (.inr 2), .inr (.inr (nn_rr M 406 k))], M)
  refine mm_s1 rfl ⟨(C.resolve_left ha).1, ?_⟩
  refine nn_call (D := 4) (by decide) (h M.1 L N (C.resolve_left ha) (nc_1_0 NN (nn_c1 NN))) ?_
  intro v M' q
  obtain ⟨rfl, L', N', h'⟩ := q
  show mm_Go (mm_run 12) mc_LI_image _ (46, [(0, .inr (.inr 1)), (1, .inl k)], [], M')
  refine mm_s1 rfl ?_
  exact mm_s1 rfl ⟨Or.inr rfl, h' L' N'⟩
theorem li_mk {n : Nat} {k : Int} {W : List (Nat × Nat × Int)} {M : mm_M} {P : mm_P} (L : nn_L M) (N : M.1 = n) (hj : n = 410 ∨ n = 569 ∨ n = 728) (hkd : (mm_kd (n + 1)).1 = 9) (hx : xcl_ n 4 126 [.inr (.inr (n + 1))] (n + 1, []) = some (none, (n + 159, W))) (hc : (chS_ W (n + 1) && chO_ W (n + 1) 159) = true) (hk : 0 ≤ k ∧ k < 3)
    (h : ∀ M2, nn_L M2 → M2.1 = n + 159 → fr_ (fun o b => (o = 406 ∧ (b : Int) = k) ∨ (n < o ∧ o ≤ n + 159)) M M2 → nn_rr M2 406 k = n + 1 → cZ_ M2 (n + 1) Z0_ → mm_Go (mm_run 12) mc_LI_image P (33, [(0, .inr (.inr 1)), (1, .inl k)], [], M2)) : mm_Go (mm_run 12) mc_LI_image P (20, [(0, .inr (.inr 1)), (1, .inl k)], [], M) := by
  have NN := nn_L_n L N
  refine mm_s1 rfl ?_
  refine nn_getr rfl (nn_c1 NN).1 (lf_1_4 L N (nn_c1 NN)) ?_
  refine mm_s1 rfl ?_
  show mm_Go (mm_run 12) mc_LI_image _ (25, [(0, .inr (.inr 1)), (1, .inl k)], [.inl k, .inr (.inr 406)], M)
  have c25 : M.1 < mm_max ∧ (mm_kd (M.1 + 1)).1 = 9 := by
    rw [N]
    exact ⟨by unfold mm_max; omega, hkd⟩
  refine mm_s1 rfl ⟨c25, ?_⟩
  have go : mm_Go (mm_run 12) mc_LI_image P (28, [(0, .inr (.inr 1)), (1, .inl k)], [.inr (.inr (n + 1)), .inl k, .inr (.inr 406)], mm_nw M) := by
    refine mm_s1 rfl ?_
    show mm_Go (mm_run 12) mc_LI_image _ (29, [(0, .inr (.inr 1)), (1, .inl k)], [.inr (.inr (n + 1)), .inr (.inr (n + 1)), .inl k, .inr (.inr 406)], mm_nw M)
    refine mm_s1 rfl ⟨hkd, ?_⟩
    refine nn_run_le (show 4 ≤ 12 by decide) (xcl_ok 4 126 [.inr (.inr (n + 1))] (n + 1, []) _ _ _ hx (xr_0 N rfl) (fun M1 hr => ?_))
    show mm_Go (mm_run 12) mc_LI_image P (32, [(0, .inr (.inr 1)), (1, .inl k)], [.inr (.inr (n + 1)), .inl k, .inr (.inr 406)], M1)
    obtain ⟨cS, cO⟩ := Bool.and_eq_true_iff.mp hc
    have e1 : M1.1 = n + 159 := hr.1
    have out : ∀ o b, ¬ (n < o ∧ o ≤ n + 159) → M1.2 o b = M.2 o b := fun o b q => (hr.2.2.2 o b).trans (if_neg q)
    have c32 : (mm_kd 406).1 = 30 + (mm_kd (n + 1)).1 ∧ 0 < (mm_kd (n + 1)).1 ∧ (mm_kd (n + 1)).1 < 20 ∧ 0 ≤ k ∧ k < ((mm_kd 406).2 : Int) := by
      rw [nn_kd406, hkd]
      exact ⟨rfl, by decide, by decide, hk.1, hk.2⟩
    refine mm_s1 rfl ⟨c32, ?_⟩
    show mm_Go (mm_run 12) mc_LI_image P (33, [(0, .inr (.inr 1)), (1, .inl k)], [], mm_up M1 406 k.toNat ((n + 1 : Nat) : Int))
    have f2 : fr_ (fun o b => o = 406 ∧ (b : Int) = k) M1 (mm_up M1 406 k.toNat ((n + 1 : Nat) : Int)) := fun o b q => if_neg (fun z => q ⟨z.1, by omega⟩)
    have new : ∀ o, n < o → o ≤ n + 159 → (∀ b, nn_off (mm_kd o).1 b ≠ 0 → M1.2 o b = ((o + nn_off (mm_kd o).1 b : Nat) : Int)) ∧ ((mm_kd o).1 = 42 → ∀ b, b < 24 → M1.2 o b = ((o + 3 + 3 * b : Nat) : Int)) := fun o h1 h2 => O_x hr (lo := n + 1) (k := 159) ⟨by omega, by omega⟩ cO (o := o) (by omega) (by omega)
    have k406 : (mm_kd 406).1 = 39 := by rw [nn_kd406]
    have up : ∀ o b, o ≠ 406 → (mm_up M1 406 k.toNat ((n + 1 : Nat) : Int)).2 o b = M1.2 o b := fun o b z => if_neg (fun y => z y.1)
    have L2 : nn_L (mm_up M1 406 k.toNat ((n + 1 : Nat) : Int)) := by
      refine ⟨?_, fun o b ho hb => ?_, fun o b ho w hb => ?_, fun b hb => ?_⟩
      · show nn_N M1.1
        rw [e1]
        unfold nn_N
        omega
      · have ho : o ≤ M1.1 := ho
        have z : o ≠ 406 := fun z => by
          rw [z, k406] at hb
          exact hb rfl
        rw [up o b z]
        by_cases y : n < o
        · exact (new o y (by omega)).1 b hb
        · rw [out o b (by omega)]
          exact L.2.1 o b (by omega) hb
      · have ho : o ≤ M1.1 := ho
        have z : o ≠ 406 := fun z => by
          rw [z, k406] at w
          exact absurd w (by decide)
        rw [up o b z]
        by_cases y : n < o
        · exact ⟨b, hb, (new o y (by omega)).2 w b hb⟩
        · rw [out o b (by omega)]
          exact L.2.2.1 o b (by omega) w hb
      · show (if 406 = 406 ∧ b = k.toNat then ((n + 1 : Nat) : Int) else M1.2 406 b) = 0 ∨ ∃ j, j < 3 ∧ 411 + 159 * j + 158 ≤ M1.1 ∧ (if 406 = 406 ∧ b = k.toNat then ((n + 1 : Nat) : Int) else M1.2 406 b) = ((411 + 159 * j : Nat) : Int)
        by_cases z : b = k.toNat
        · rw [if_pos ⟨rfl, z⟩]
          rcases hj with y | y | y
          · exact Or.inr ⟨0, by omega, by omega, by omega⟩
          · exact Or.inr ⟨1, by omega, by omega, by omega⟩
          · exact Or.inr ⟨2, by omega, by omega, by omega⟩
        · rw [if_neg (fun y => z y.2), out 406 b (by omega)]
          rcases L.2.2.2 b hb with y | ⟨j, j1, j2, j3⟩
          · exact Or.inl y
          · exact Or.inr ⟨j, j1, by omega, j3⟩
    refine h _ L2 e1 ?_ ?_ (cZ_far f2 (fun o b y1 y2 y => by omega) (cZ_x hr (s := n + 1) ⟨by omega, by omega⟩ cS))
    · exact fr_trans (fr_mono (P := fun o b => n < o ∧ o ≤ n + 159) (fun o b q => out o b q) (fun o b y => Or.inr y)) (fr_mono f2 (fun o b y => Or.inl y))
    · show (if 406 = 406 ∧ k.toNat = k.toNat then ((n + 1 : Nat) : Int) else M1.2 406 k.toNat).toNat = n + 1
      rw [if_pos ⟨rfl, rfl⟩]
      exact Int.toNat_natCast _
  rw [← N] at go
  exact go
theorem im_yes {bd bd' k : Int} {n1 : Nat} {Z : ab_Z} {M M1 : mm_M} (hk : 0 ≤ k ∧ k < 3) (L1 : nn_L M1) (N1 : M1.1 = n1) (kc : cZ_ M1 2 Z) (km : mY_ bd M1 0 Z) (j : jZ_ bd Z) (g : jI_ Z) (b : jB_ Z) (s : sl_ M1 320 ∧ sl_ M1 164 ∧ s0_ M1 161) (hi : ∀ k', 0 ≤ k' → k' < 3 → k' ≠ k → im1_ bd n1 M1 k') (ha : ∃ q, q < 3 ∧ nn_rr M1 406 k = 411 + 159 * q ∧ 411 + 159 * q + 158 ≤ n1) (ca : cZ_ M1 (nn_rr M1 406 k) Z) (hcnt : n1 = 410 + 159 * (cn1_ M1 0 + cn1_ M1 1 + cn1_ M1 2)) (hd : ∀ k k', 0 ≤ k → k < 3 → 0 ≤ k' → k' < 3 → nn_rr M1 406 k ≠ 0 → nn_rr M1 406 k = nn_rr M1 406 k' → k = k') (hs : scr_ M M1) (hbd : bd ≤ bd') : mm_run 13 mi_M_image [.inr (.inr 407), .inl k] M1 (fun w M2 => w = some (.inl 1) ∧ scr_ M M2 ∧ St_ bd' M2) := by
  refine nn_call (by decide) ((show nr_M_image k M1 (fun x M2 => x = 1 ∧ fr_ (fun o b => mz_ (16422 + 5474 * k) o b ∨ (o = 409 ∧ (b : Int) = k)) M1 M2 ∧ mY_ bd M2 (16422 + 5474 * k) Z ∧ nn_ri M2 409 k = 1) from ct_M_image km j (fun _ M2 f2 m2 e2 => ⟨rfl, f2, m2, e2⟩) (fun y => absurd hk y)) n1 L1 N1) (fun w M2 hw => ?_)
  obtain ⟨y, e2, _, L2, N2, a1, f2, m2, e3⟩ := hw
  have P : ∀ o b, (mz_ (16422 + 5474 * k) o b ∨ (o = 409 ∧ (b : Int) = k)) → o = 408 ∨ o = 409 := fun o b y => by unfold mz_ at y; omega
  have nP : ∀ o b, o ≠ 408 → o ≠ 409 → ¬ (mz_ (16422 + 5474 * k) o b ∨ (o = 409 ∧ (b : Int) = k)) := fun o b h1 h2 y => by have := P o b y; omega
  refine ⟨by rw [e2, a1], fun o b ho => (f2 o b (nP o b (by omega) (by omega))).trans (hs o b ho), L2, Z, ?_⟩
  rw [N2]
  have rr : ∀ k', nn_rr M2 406 k' = nn_rr M1 406 k' := fun k' => fr_rr f2 (nP _ _ (by decide) (by decide))
  have rc : ∀ k', cn1_ M2 k' = cn1_ M1 k' := fun k' => by
    unfold cn1_
    rw [rr]
  have far : ∀ {a : Nat} {W : ab_Z}, a + 159 ≤ 408 ∨ 409 < a → cZ_ M1 a W → cZ_ M2 a W := fun ha c => cZ_far f2 (fun o b y1 y2 => nP o b (by omega) (by omega)) c
  have blk : ∀ {c : Int} {W : ab_Z}, bk_ c → (c + 5474 ≤ 16422 + 5474 * k ∨ 16422 + 5474 * k + 5474 ≤ c) → jZ_ bd W → mY_ bd M1 c W → mY_ bd M2 c W := fun hb hc jw m => mY_fr2 f2 hb (fun b y1 y2 y => by unfold mz_ at y; omega) jw m
  refine ⟨⟨far (by omega) kc, mY_up hbd (blk bk_0 (by omega) j km), jZ_up hbd j, g, b⟩, ⟨sl_fr f2 (fun b => nP _ b (by decide) (by decide)) s.1, sl_fr f2 (fun b => nP _ b (by decide) (by decide)) s.2.1, s0_fr f2 (fun o b y1 y2 => nP o b (by omega) (by omega)) s.2.2⟩, fun k' k0 k1 => ?_, by rw [rc, rc, rc]; exact hcnt, fun k1 k2 a1 a2 a3 a4 a5 a6 => ?_⟩
  · unfold im1_
    rw [rr]
    by_cases z : k' = k
    · rw [z]
      obtain ⟨q, q1, q2, q3⟩ := ha
      exact Or.inr ⟨e3, ⟨q, q1, q2, q3⟩, Z, far (by omega) ca, mY_up hbd m2, jZ_up hbd j, g, b⟩
    · have ri : nn_ri M2 409 k' = nn_ri M1 409 k' := fr_ri f2 (fun y => by unfold mz_ at y; omega)
      rw [ri]
      rcases hi k' k0 k1 z with w | ⟨w1, ⟨q, q1, q2, q3⟩, W, c, m, jz, ji, jb⟩
      · exact Or.inl w
      · exact Or.inr ⟨w1, ⟨q, q1, q2, q3⟩, W, far (by omega) c, mY_up hbd (blk (by unfold bk_; omega) (by omega) jz m), jZ_up hbd jz, ji, jb⟩
  · rw [rr] at a5 a6
    rw [rr] at a6
    exact hd k1 k2 a1 a2 a3 a4 a5 a6
theorem im_no {bd k : Int} {Z : ab_Z} {M : mm_M} (hb : 0 ≤ bd ∧ bd < 500000000) (L : nn_L M) (h : Sx_ bd M.1 M Z) (hk : ¬ (0 ≤ k ∧ k < 3)) : mm_run 13 mi_M_image [.inr (.inr 407), .inl k] M (fun w M2 => w = some (.inl 0) ∧ scr_ M M2 ∧ St_ (bd + 8000) M2) := by
  refine nn_call (by decide) ((show nr_M_image k M (Ar_ (bd + 8000) M.1 M 0) from ct_M_image h.1.2.1 h.1.2.2.1 (fun y => absurd y hk) (fun _ => ar_s h (by omega))) M.1 L rfl) (fun w M2 hw => ?_)
  obtain ⟨y, e2, _, L2, N2, a1, a2, Z2, a3⟩ := hw
  exact ⟨by rw [e2, a1], a2, L2, Z2, by rw [N2]; exact a3⟩
