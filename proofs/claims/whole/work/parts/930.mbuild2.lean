/-! a build: the Model's build whole -/
theorem ct_M_build {bd i n : Int} {Z : ab_Z} {M : mm_M} {R : Int → mm_M → Prop} (hbd : 0 ≤ bd ∧ bd < 800000000) (k : mY_ bd M 0 Z) (j : jZ_ bd Z) (h1 : bok_ i n Z → ∀ M', fr_ mod_ M M' → mY_ bd M' 0 (bld_ i n Z) → R (blda_ i n Z) M') (h0 : ¬ bok_ i n Z → R (-1) M) : nr_M_build i n M R := by
  obtain ⟨m1, m2⟩ := m_isIndex (i := i) k j
  obtain ⟨m3, m4⟩ := m_isBuilt (i := i) k j
  refine ng_M_build _ _ _ _ ⟨m1, fun _ => m3, fun z => h0 (fun w => ?_), fun z => ?_⟩
  · obtain ⟨⟨w1, w2⟩, w3⟩ := w
    rcases z with z | z | z
    · exact absurd z (m2.mpr ⟨w1, by rw [w2]; decide⟩)
    · have := (m4.mp z).2
      omega
    · exact absurd w3 (k_in0.mp z)
  obtain ⟨z1, z2, z3⟩ := z
  have z1 := m2.mp z1
  have hi := z1.1
  have hn := k_in.mp z3
  have hh := h012 j hi.1 hi.2
  have h1x : xh_ (aTX_ (zT_ Z) i) = 1 := by
    rcases hh with y | y | y
    · exact absurd y z1.2
    · exact y
    · exact absurd z2 (m4.mpr ⟨hi, y⟩)
  have h1 := h1 ⟨⟨hi, h1x⟩, hn⟩
  have hx : 1784 ≤ xi_ 0 i ∧ xi_ 0 i + 855 ≤ 5204 := by unfold xi_; omega
  have hx0 : xh_ (aTX_ (zT_ Z) i) ≠ 0 := by rw [h1x]; decide
  have jx := j.1.2.2.2.2 i hi.1 hi.2
  obtain ⟨vA, vK, vP⟩ := jX_vl jx hx0
  have dd := j.1.1
  have hst := j.1.2.2.1.1
  have hl := j.2.1.2.2.2.2.1.2
  have hc := j.2.2
  have t : tM_ M 0 (aTm_ (zT_ Z)) (aTn_ (zT_ Z)) (aTq_ (zT_ Z)) := k.1.1.1
  have kx := k.1.1.2.2 i hi.1 hi.2
  obtain ⟨⟨_, _, _, _, _, a6, _⟩, _⟩ := kx.2 hx0
  have kq := kq_of h1x a6 jx
  obtain ⟨⟨q1, q2, q3, q4, q5, q5b⟩, q6, ⟨q7, q7b⟩, q8, q9, q10, q11, q12, q13⟩ := jx hx0
  have q5 := q5 h1x
  have hs : xl_ (aTX_ (zT_ Z) i) < stp_ n (aTX_ (zT_ Z) i) ∧ stp_ n (aTX_ (zT_ Z) i) ≤ 32 ∧ stp_ n (aTX_ (zT_ Z) i) - xl_ (aTX_ (zT_ Z) i) ≤ n ∧ (stp_ n (aTX_ (zT_ Z) i) < 32 → stp_ n (aTX_ (zT_ Z) i) - xl_ (aTX_ (zT_ Z) i) = n) := by unfold stp_; omega
  rw [at0 hi]
  -- what is behind the loop
  have TAIL : ∀ M1, fr_ (fun o c => o = 408 ∧ xi_ 0 i ≤ (c : Int) ∧ (c : Int) < xi_ 0 i + 855) M M1 → mX_ M1 (xi_ 0 i) (kpn_ (aTl_ (zT_ Z)) (stp_ n (aTX_ (zT_ Z) i) - xl_ (aTX_ (zT_ Z) i)).toNat (aTX_ (zT_ Z) i)) →
      ((32 ≤ (nn_ri M1 408 (xi_ 0 i + 4)) → (nr_M_clashes i M1 (fun r114 M114 => ((r114 = 0 → (nr_M_ends (xi_ 0 i) M114 (fun r127 M127 => R r127 M127))) ∧ (r114 ≠ 0 → R (-2) M114))))) ∧ ((nn_ri M1 408 (xi_ 0 i + 4)) < 32 → (((0 : Int) ≤ xi_ 0 i + 4 ∧ xi_ 0 i + 4 < (32844 : Int)) ∧ R (mm_w (32 - (nn_ri M1 408 (xi_ 0 i + 4)))) M1))) := by
    intro M1 f1 kx1
    obtain ⟨s1, s2, s3, s4, s5, s6, s7, s8, s9⟩ := kpn_same (lat := aTl_ (zT_ Z)) (X := aTX_ (zT_ Z) i) (stp_ n (aTX_ (zT_ Z) i) - xl_ (aTX_ (zT_ Z) i)).toNat
    unfold bld_ blda_ at h1
    generalize kpn_ (aTl_ (zT_ Z)) (stp_ n (aTX_ (zT_ Z) i) - xl_ (aTX_ (zT_ Z) i)).toNat (aTX_ (zT_ Z) i) = Y at *
    have hY1 : xh_ Y = 1 := by rw [s1]; exact h1x
    have hY : xh_ Y ≠ 0 := by rw [s1]; exact hx0
    have g4 : nn_ri M1 408 (xi_ 0 i + 4) = stp_ n (aTX_ (zT_ Z) i) := by
      obtain ⟨⟨_, _, _, p4, _⟩, _⟩ := kx1.2 hY
      rw [p4 hY1, s5]; omega
    have k1 : mY_ bd M1 0 (zs_ Z, setX_ i Y (zT_ Z), zC_ Z, zf_ Z) := mY_setX bk_0 hi f1 hl hc k kx1
    have exv : xv_ (aTl_ (zT_ Z)) Y = xv_ (aTl_ (zT_ Z)) (aTX_ (zT_ Z) i) := by
      funext q
      unfold xv_
      rw [s6]
    have f1m : fr_ mod_ M M1 := fr_mono f1 (fun o c y => Or.inl ⟨y.1, by have := y.2; omega⟩)
    rw [g4]
    refine ⟨fun c => ?_, fun c => ⟨by omega, ?_⟩⟩
    · have nc : ¬ stp_ n (aTX_ (zT_ Z) i) < 32 := by omega
      rw [if_neg nc, if_neg nc] at h1
      refine ct_M_clashes hbd hi j hY (by rw [s2]; exact q2) k1 (fun w => ?_) (fun w M2 f2 k2 => ?_)
      · refine ⟨fun _ => ?_, fun z => absurd rfl z⟩
        rw [s2, exv] at w
        rw [if_pos w, if_pos w] at h1
        refine ct_M_ends hbd hi j hY ?_ (by rw [s7]; exact vA) (by rw [s8, s9]; exact vP) (by rw [s8]; omega) (fun r r0 r1 => ?_) k1 (fun M2 f2 k2 => h1 M2 (fr_trans f1m (fr_mono f2 (fun o c y => mod_mz y))) k2)
        · unfold sz_ at q13 ⊢
          rw [s7, s8, s9]
          omega
        · rw [s8] at r1
          rw [s9]
          have := q7b r r0 r1
          exact ⟨this.2.1, this.2.2⟩
      · refine ⟨fun z => absurd z (by decide), fun _ => ?_⟩
        rw [s2, exv] at w
        rw [if_neg w, if_neg w] at h1
        rw [exv] at k2
        exact h1 M2 (fr_trans f1m (fr_mono f2 (fun o c y => mod_mz y))) k2
    · rw [if_pos c, if_pos c] at h1
      rw [mm_w_id (by omega)]
      exact h1 M1 f1m k1
  have L : ∀ s : Int, s ≤ stp_ n (aTX_ (zT_ Z) i) - xl_ (aTX_ (zT_ Z) i) → 0 ≤ s → ∀ M1, fr_ (fun o c => o = 408 ∧ xi_ 0 i ≤ (c : Int) ∧ (c : Int) < xi_ 0 i + 855) M M1 → mX_ M1 (xi_ 0 i) (kpn_ (aTl_ (zT_ Z)) s.toNat (aTX_ (zT_ Z) i)) → nk_M_build_37 i n (xi_ 0 i) s M1 R := by
    refine lp_up (fun s hs2 ih s0 M1 f1 k1 => ?_)
    obtain ⟨s1, s2, s3, s4, s5, s6, s7, s8, s9⟩ := kpn_same (lat := aTl_ (zT_ Z)) (X := aTX_ (zT_ Z) i) s.toNat
    have hY1 : xh_ (kpn_ (aTl_ (zT_ Z)) s.toNat (aTX_ (zT_ Z) i)) = 1 := by rw [s1]; exact h1x
    have g4 : nn_ri M1 408 (xi_ 0 i + 4) = xl_ (aTX_ (zT_ Z) i) + s := by
      obtain ⟨⟨_, _, _, p4, _⟩, _⟩ := k1.2 (by rw [hY1]; decide)
      rw [p4 hY1, s5]; omega
    refine ng_M_build_37 _ _ _ _ _ _ ?_
    rw [mm_w_id (x := xi_ 0 i + 4) (by omega)]
    refine ⟨fun c => ⟨by omega, TAIL M1 f1 (by rw [show stp_ n (aTX_ (zT_ Z) i) - xl_ (aTX_ (zT_ Z) i) = s by omega]; exact k1)⟩, fun c => ⟨by omega, fun z => ⟨by omega, TAIL M1 f1 (by rw [show stp_ n (aTX_ (zT_ Z) i) - xl_ (aTX_ (zT_ Z) i) = s by omega]; exact k1)⟩, fun z => ⟨by omega, ?_⟩⟩⟩
    rw [g4] at z ⊢
    have e5 : xl_ (kpn_ (aTl_ (zT_ Z)) s.toNat (aTX_ (zT_ Z) i)) = xl_ (aTX_ (zT_ Z) i) + s := by rw [s5]; omega
    have t1 : tM_ M1 0 (aTm_ (zT_ Z)) (aTn_ (zT_ Z)) (aTq_ (zT_ Z)) := tM_fr f1 bk_0 (fun c z y => by have := y.2; have := t.2.2.1.2.2; omega) t
    have kp := ct_M_keeps1 (R := fun M80 => nk_M_build_37 i n (xi_ 0 i) (mm_w (s + 1)) M80 R) hx (by omega) t1 dd k1 hY1 (by rw [e5]; omega) (kq_kpn (by omega) dd q6.1 q5.1 kq s.toNat (by omega)) (fun M2 f2 k2 => by
      show nk_M_build_37 i n (xi_ 0 i) (mm_w (s + 1)) M2 R
      rw [mm_w_id (x := s + 1) (by omega)]
      refine ih (by omega) (by omega) M2 (fr_trans f1 f2) ?_
      rw [show (s + 1).toNat = s.toNat + 1 by omega]
      exact k2)
    rw [e5] at kp
    exact kp
  exact L 0 (by omega) (Int.le_refl _) M (fr_refl M) kx
