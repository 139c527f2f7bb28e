/-! image: whole -/
theorem im_old {bd bd' k : Int} {Z : ab_Z} {M M1 : mm_M} (hbd : bd ≤ bd') (hk : 0 ≤ k ∧ k < 3) (h : Sx_ bd M.1 M Z) (ha : nn_rr M 406 k ≠ 0) (f1 : fr_ (fun o _ => nn_rr M 406 k ≤ o ∧ o < nn_rr M 406 k + 159) M M1) (c1 : cZ_ M1 (nn_rr M 406 k) Z) (L1 : nn_L M1) (N1 : M1.1 = M.1) : scr_ M M1 ∧ mm_run 13 mi_M_image [.inr (.inr 407), .inl k] M1 (fun w M2 => w = some (.inl 1) ∧ scr_ M M2 ∧ St_ bd' M2) := by
  obtain ⟨⟨kc, km, j, g, b⟩, s, i1, i2, i3⟩ := h
  have i1k := i1 k hk.1 hk.2
  rcases i1k with ⟨w, _⟩ | ⟨w1, ⟨q, q1, q2, q3⟩, W, cW, mW, jW, iW, bW⟩
  · exact absurd w ha
  generalize hA : nn_rr M 406 k = a at *
  have rr : ∀ k', nn_rr M1 406 k' = nn_rr M 406 k' := fun k' => fr_rr f1 (fun y => by omega)
  have ri : ∀ k', nn_ri M1 409 k' = nn_ri M 409 k' := fun k' => fr_ri f1 (fun y => by omega)
  have rc : ∀ k', cn1_ M1 k' = cn1_ M k' := fun k' => by
    unfold cn1_
    rw [rr]
  have hN : nn_N M1.1 := L1.1
  have hs : scr_ M M1 := fun o b ho => f1 o b (fun y => by unfold nn_N at hN; omega)
  refine ⟨hs, im_yes hk L1 N1 (cZ_far f1 (fun o b y1 y2 y => by omega) kc) (mY_fr2 f1 bk_0 (fun b _ _ y => by omega) j km) j g b ⟨sl_fr f1 (fun b y => by omega) s.1, sl_fr f1 (fun b y => by omega) s.2.1, s0_fr f1 (fun o b y1 y2 y => by omega) s.2.2⟩ (fun k' k0 k1 z => ?_) ⟨q, q1, by rw [rr, hA]; exact q2, q3⟩ (by rw [rr, hA]; exact c1) (by rw [rc, rc, rc]; exact i2) (fun k1 k2 a1 a2 a3 a4 a5 a6 => ?_) hs hbd⟩
  · unfold im1_
    rw [rr, ri]
    rcases i1 k' k0 k1 with w | ⟨x1, ⟨p, p1, p2, p3⟩, V, cV, mV, jV, iV, bV⟩
    · exact Or.inl w
    · have ne : nn_rr M 406 k' ≠ a := fun e => z (i3 k' k k0 k1 hk.1 hk.2 (by omega) (e.trans hA.symm))
      refine Or.inr ⟨x1, ⟨p, p1, p2, p3⟩, V, cZ_far f1 (fun o b y1 y2 y => by omega) cV, mY_fr2 f1 (by unfold bk_; omega) (fun b _ _ y => by omega) jV mV, jV, iV, bV⟩
  · rw [rr] at a5 a6
    rw [rr] at a6
    exact i3 k1 k2 a1 a2 a3 a4 a5 a6
theorem im_new {bd bd' k : Int} {n : Nat} {Z : ab_Z} {M M1 : mm_M} (hbd : bd ≤ bd') (hk : 0 ≤ k ∧ k < 3) (h : Sx_ bd M.1 M Z) (N : M.1 = n) (hj : n = 410 ∨ n = 569 ∨ n = 728) (ha : nn_rr M 406 k = 0) (f1 : fr_ (fun o b => (o = 406 ∧ (b : Int) = k) ∨ (n < o ∧ o ≤ n + 159)) M M1) (r1 : nn_rr M1 406 k = n + 1) (c1 : cZ_ M1 (n + 1) Z) (L1 : nn_L M1) (N1 : M1.1 = n + 159) : scr_ M M1 ∧ mm_run 13 mi_M_image [.inr (.inr 407), .inl k] M1 (fun w M2 => w = some (.inl 1) ∧ scr_ M M2 ∧ St_ bd' M2) := by
  rw [N] at h
  obtain ⟨⟨kc, km, j, g, b⟩, s, i1, i2, i3⟩ := h
  have rr : ∀ k', 0 ≤ k' → k' ≠ k → nn_rr M1 406 k' = nn_rr M 406 k' := fun k' k0 z => fr_rr f1 (fun y => by omega)
  have ri : ∀ k', nn_ri M1 409 k' = nn_ri M 409 k' := fun k' => fr_ri f1 (fun y => by omega)
  have rc : ∀ k', 0 ≤ k' → k' ≠ k → cn1_ M1 k' = cn1_ M k' := fun k' k0 z => by
    unfold cn1_
    rw [rr k' k0 z]
  have rk : cn1_ M1 k = 1 := by
    unfold cn1_
    rw [r1, if_neg (by omega)]
  have rk0 : cn1_ M k = 0 := by
    unfold cn1_
    rw [ha, if_pos rfl]
  have hs : scr_ M M1 := fun o b ho => f1 o b (fun y => by omega)
  have i0 : ∀ k', 0 ≤ k' → k' < 3 → nn_rr M 406 k' = 0 ∨ nn_rr M 406 k' + 158 ≤ n := fun k' k0 k1 => by
    rcases i1 k' k0 k1 with ⟨w, _⟩ | ⟨_, ⟨p, p1, p2, p3⟩, _⟩
    · exact Or.inl w
    · omega
  refine ⟨hs, im_yes hk L1 N1 (cZ_far f1 (fun o b y1 y2 y => by omega) kc) (mY_fr2 f1 bk_0 (fun b _ _ y => by omega) j km) j g b ⟨sl_fr f1 (fun b y => by omega) s.1, sl_fr f1 (fun b y => by omega) s.2.1, s0_fr f1 (fun o b y1 y2 y => by omega) s.2.2⟩ (fun k' k0 k1 z => ?_) ?_ (by rw [r1]; exact c1) ?_ (fun k1 k2 a1 a2 a3 a4 a5 a6 => ?_) hs hbd⟩
  · unfold im1_
    rw [rr k' k0 z, ri]
    rcases i1 k' k0 k1 with w | ⟨x1, ⟨p, p1, p2, p3⟩, V, cV, mV, jV, iV, bV⟩
    · exact Or.inl w
    · exact Or.inr ⟨x1, ⟨p, p1, p2, by omega⟩, V, cZ_far f1 (fun o b y1 y2 y => by omega) cV, mY_fr2 f1 (by unfold bk_; omega) (fun b _ _ y => by omega) jV mV, jV, iV, bV⟩
  · rw [r1]
    rcases hj with y | y | y
    · exact ⟨0, by omega, by omega, by omega⟩
    · exact ⟨1, by omega, by omega, by omega⟩
    · exact ⟨2, by omega, by omega, by omega⟩
  · have hk3 : k = 0 ∨ k = 1 ∨ k = 2 := by omega
    rcases hk3 with z | z | z
    · rw [z] at rk rk0
      have e1 := rc 1 (by decide) (by omega)
      have e2 := rc 2 (by decide) (by omega)
      omega
    · rw [z] at rk rk0
      have e1 := rc 0 (by decide) (by omega)
      have e2 := rc 2 (by decide) (by omega)
      omega
    · rw [z] at rk rk0
      have e1 := rc 0 (by decide) (by omega)
      have e2 := rc 1 (by decide) (by omega)
      omega
  · by_cases z1 : k1 = k
    · by_cases z2 : k2 = k
      · rw [z1, z2]
      · rw [z1, r1, rr k2 a3 z2] at a6
        have := i0 k2 a3 a4
        omega
    · by_cases z2 : k2 = k
      · rw [z2, r1, rr k1 a1 z1] at a6
        have := i0 k1 a1 a2
        omega
      · rw [rr k1 a1 z1] at a5 a6
        rw [rr k2 a3 z2] at a6
        exact i3 k1 k2 a1 a2 a3 a4 a5 a6
theorem arm_image {bd k : Int} {M : mm_M} (hb : 0 ≤ bd ∧ bd < 500000000) (h : St_ bd M) : pr_ (bd + 8000) mi_LI_image mi_M_image [.inl k] [.inl k] M := by
  obtain ⟨L, Z, h⟩ := h
  have h0 := h
  obtain ⟨⟨kc, km, j, g, b⟩, s, i1, i2, i3⟩ := h0
  have NN := nn_L_n L rfl
  show mm_Go (mm_run 12) mc_LI_image _ (0, [(0, .inr (.inr 1)), (1, .inl k)], [], M)
  refine mm_s1 rfl ?_
  refine mm_s1 rfl ⟨fun c1 => ?_, fun c1 => ?_⟩
  · show mm_Go (mm_run 12) mc_LI_image _ (9, [(0, .inr (.inr 1)), (1, .inl k)], [], M)
    have c1 : k < 0 := c1
    refine mm_s1 rfl ?_
    exact mm_s1 rfl ⟨Or.inl rfl, _, rfl, scr_r, im_no hb L h (by omega)⟩
  · show mm_Go (mm_run 12) mc_LI_image _ (4, [(0, .inr (.inr 1)), (1, .inl k)], [], M)
    replace c1 := Int.not_lt.mp c1
    refine mm_s1 rfl ?_
    refine mm_s1 rfl ?_
    refine mm_s1 rfl ⟨fun c6 => ?_, fun c6 => ?_⟩
    · show mm_Go (mm_run 12) mc_LI_image _ (11, [(0, .inr (.inr 1)), (1, .inl k)], [], M)
      have c6 : k < 3 := c6
      have hk : 0 ≤ k ∧ k < 3 := ⟨c1, c6⟩
      refine mm_s1 rfl ?_
      refine nn_getr rfl (nn_c1 NN).1 (lf_1_4 L rfl (nn_c1 NN)) ?_
      refine mm_s1 rfl ?_
      refine nn_aald rfl (nn_bd30 (na_1_4 NN (nn_c1 NN)) (by decide) hk) (nn_l39 L rfl hk).1 ?_
      show mm_Go (mm_run 12) mc_LI_image _ (17, [(0, .inr (.inr 1)), (1, .inl k)], [.inr (.inr (nn_rr M 406 k))], M)
      refine mm_s1 rfl ⟨fun c => ?_, fun c => ?_⟩
      · show mm_Go (mm_run 12) mc_LI_image _ (33, [(0, .inr (.inr 1)), (1, .inl k)], [], M)
        have c : nn_rr M 406 k ≠ 0 := c
        rcases i1 k hk.1 hk.2 with ⟨w, _⟩ | ⟨w1, ⟨q, q1, q2, q3⟩, W, cW, mW, jW, iW, bW⟩
        · exact absurd w c
        · refine li_im33 L hk c (ct_S_copy (by unfold sk_; omega) (Or.inl rfl) (by omega) kc j cW.1.1.2.2.2.1 (s0_cZ cW) (fun M1 f1 d1 L1 N1 => ?_))
          exact ⟨1, rfl, im_old (by omega) hk h c f1 d1 L1 N1⟩
      · show mm_Go (mm_run 12) mc_LI_image _ (20, [(0, .inr (.inr 1)), (1, .inl k)], [], M)
        have c : nn_rr M 406 k = 0 := Decidable.not_not.mp c
        have rk0 : cn1_ M k = 0 := by
          unfold cn1_
          rw [c, if_pos rfl]
        have le1 : ∀ q, cn1_ M q ≤ 1 := fun q => by
          unfold cn1_
          split <;> omega
        have hn : M.1 = 410 ∨ M.1 = 569 ∨ M.1 = 728 := by
          have l0 := le1 0
          have l1 := le1 1
          have l2 := le1 2
          have hk3 : k = 0 ∨ k = 1 ∨ k = 2 := by omega
          rcases hk3 with z | z | z
          · rw [z] at rk0; omega
          · rw [z] at rk0; omega
          · rw [z] at rk0; omega
        have mk : ∀ n W, M.1 = n → (n = 410 ∨ n = 569 ∨ n = 728) → (mm_kd (n + 1)).1 = 9 → xcl_ n 4 126 [.inr (.inr (n + 1))] (n + 1, []) = some (none, (n + 159, W)) → (chS_ W (n + 1) && chO_ W (n + 1) 159) = true → mm_Go (mm_run 12) mc_LI_image (fun v M1 => ∃ x, v = some (.inl x) ∧ scr_ M M1 ∧ mm_run 13 mi_M_image [.inr (.inr 407), .inl k] M1 (fun w M2 => w = some (.inl x) ∧ scr_ M M2 ∧ St_ (bd + 8000) M2)) (20, [(0, .inr (.inr 1)), (1, .inl k)], [], M) := by
          intro n W N hj hkd hx hc
          refine li_mk L N hj hkd hx hc hk (fun M2 L2 N2 f2 r2 z2 => ?_)
          have kc2 : cZ_ M2 2 Z := cZ_far f2 (fun o b y1 y2 y => by omega) kc
          have hS : nr_Store_copy (nn_rr M2 406 k) 2 M2 (fun M' => nn_L M' → M'.1 = M2.1 → ∃ x, (some (.inl 1) : Option mm_V) = some (.inl x) ∧ scr_ M M' ∧ mm_run 13 mi_M_image [.inr (.inr 407), .inl k] M' (fun w M2 => w = some (.inl x) ∧ scr_ M M2 ∧ St_ (bd + 8000) M2)) := by
            rw [r2]
            refine ct_S_copy (by unfold sk_; omega) (Or.inl rfl) (by omega) kc2 j z2.1.1.2.2.2.1 (s0_cZ z2) (fun M3 f3 d3 L3 N3 => ?_)
            refine ⟨1, rfl, im_new (n := n) (by omega) hk h N hj c (fr_trans f2 (fr_mono f3 (fun o b y => Or.inr (by omega)))) ?_ d3 L3 (N3.trans N2)⟩
            rw [fr_rr f3 (by omega)]
            exact r2
          exact li_im33 L2 hk (by rw [r2]; omega) hS
        rcases hn with z | z | z
        · obtain ⟨W, hx, hc⟩ := xnw_e xst_410
          exact mk 410 W z (by omega) (by decide +kernel) hx hc
        · obtain ⟨W, hx, hc⟩ := xnw_e xst_569
          exact mk 569 W z (by omega) (by decide +kernel) hx hc
        · obtain ⟨W, hx, hc⟩ := xnw_e xst_728
          exact mk 728 W z (by omega) (by decide +kernel) hx hc
    · show mm_Go (mm_run 12) mc_LI_image _ (9, [(0, .inr (.inr 1)), (1, .inl k)], [], M)
      replace c6 := Int.not_lt.mp c6
      refine mm_s1 rfl ?_
      exact mm_s1 rfl ⟨Or.inl rfl, _, rfl, scr_r, im_no hb L h (by omega)⟩
