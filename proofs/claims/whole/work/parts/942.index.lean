/-! index: what is told, both sides -/
noncomputable def ptA_ (X : ab_X) (what : Int) : Int := if what < 60 ∧ what - 20 < xn_ X then cz_ (xg_ X (what - 20)).2.2.2.2 else if what < 60 then -2 else if what < 100 ∧ what - 60 < xn_ X then (xg_ X (what - 60)).2.2.1 else if what < 100 then -2 else if what - 100 < xn_ X then (xg_ X (what - 100)).2.2.2.1 else -2
noncomputable def ixa_ (i what : Int) (Z : ab_Z) : Int :=
  if 20 ≤ what then ptA_ (aTX_ (zT_ Z) i) what
  else if what = 0 then xh_ (aTX_ (zT_ Z) i)
  else if what = 1 then xq_ (aTX_ (zT_ Z) i)
  else if what = 2 then xm_ (aTX_ (zT_ Z) i)
  else if what = 3 then xn_ (aTX_ (zT_ Z) i)
  else if what = 4 then sz_ (aTX_ (zT_ Z) i)
  else if what = 5 then xst_ (aTl_ (zT_ Z)) (aTX_ (zT_ Z) i)
  else if what = 6 then xwa_ (aTl_ (zT_ Z)) (aTX_ (zT_ Z) i)
  else if what = 7 then 32 - xl_ (aTX_ (zT_ Z) i)
  else if what = 8 then os_ (xh_ (aTX_ (zT_ Z) i)) (xb_ (aTX_ (zT_ Z) i)) (xn_ (aTX_ (zT_ Z) i)) (xg_ (aTX_ (zT_ Z) i))
  else if what = 9 then xj_ (aTX_ (zT_ Z) i)
  else if what = 13 then (wo_ (xsr_ (aTl_ (zT_ Z)) (aTX_ (zT_ Z) i)) (xn_ (aTX_ (zT_ Z) i)).toNat).1
  else if xh_ (aTX_ (zT_ Z) i) ≠ 2 then -2
  else if what = 10 then uu_ (xv_ (aTl_ (zT_ Z)) (aTX_ (zT_ Z) i))
  else if what = 11 then (cr_ (xv_ (aTl_ (zT_ Z)) (aTX_ (zT_ Z) i)) 32).1
  else if what = 12 then (cr_ (xv_ (aTl_ (zT_ Z)) (aTX_ (zT_ Z) i)) 32).2
  else -2
def xok_ (i what : Int) (Z : ab_Z) : Prop := ix_ i Z ∧ 0 ≤ what ∧ (what < 14 ∨ 20 ≤ what)
theorem ct_LI_index {bd i what : Int} {Z : ab_Z} {M : mm_M} {R : Int → mm_M → Prop} (hw : -2147483648 ≤ what ∧ what < 2147483648) (k : cZ_ M 2 Z) (j : jZ_ bd Z) (h1 : xok_ i what Z → R (ixa_ i what Z) M) (h0 : ¬ xok_ i what Z → R (-2) M) : nr_LI_index i what M R := by
  refine ng_LI_index _ _ _ _ ?_
  refine ct_S_find k (fun z => ?_) (fun z => ?_)
  · exact ⟨fun w => absurd rfl w, fun _ => h0 (fun w => z w.1)⟩
  refine ⟨fun _ => ?_, fun w => by omega⟩
  have hi := z.1
  have kx := k.1.2.2 i hi.1 hi.2
  have jx := j.1.2.2.2.2 i hi.1 hi.2 z.2
  have jx' := j.1.2.2.2.2 i hi.1 hi.2
  obtain ⟨vA, vK, vP⟩ := jX_vl jx' z.2
  obtain ⟨⟨c1, c2⟩, _⟩ := cX_row kx z.2 vA vP
  obtain ⟨k0, ks, k1⟩ := kx
  obtain ⟨⟨a1, a2, a3, a4⟩, b, e1, ⟨e2, e3⟩, p, vv⟩ := k1 z.2
  obtain ⟨⟨q1, q2, q3, q4, q5, q5b⟩, _, _, _, _, _, _, _, q9⟩ := jx
  have p5 : nn_rf M (2 + 90 + 15 * i.toNat + 8) 5 = xn_ (aTX_ (zT_ Z) i) := p.1.1
  have pn := p.1.2
  have h1 : 0 ≤ what → (what < 14 ∨ 20 ≤ what) → R (ixa_ i what Z) M := fun w w2 => h1 ⟨z, w, w2⟩
  have told : what < 10 ∨ (12 < what ∧ what < 20) → nr_Index_told (2 + 90 + 15 * i.toNat) what 9 M (fun r74 M74 => R r74 M74) := by
    intro hr
    refine ng_Index_told _ _ _ _ _ ⟨fun w => ?_, fun w => ?_, fun w => ?_, fun w => ?_, fun w => ?_, fun w => ?_, fun w => ?_, fun w => ?_, fun w => ?_, fun w => ?_, fun w => ?_, fun w => ?_, fun w => ?_, fun w => ?_, fun w => ?_⟩
    · have h1 := h1 (by omega) (by omega)
      unfold ixa_ at h1
      rw [if_neg (c := 20 ≤ what) (by omega), if_pos w] at h1
      rw [k0]; exact h1
    · have h1 := h1 (by omega) (by omega)
      unfold ixa_ at h1
      rw [if_neg (c := 20 ≤ what) (by omega), if_neg (c := what = 0) (by omega), if_pos w] at h1
      rw [a1]
      refine ⟨fun y => ?_, fun y => ?_⟩
      · rw [y] at h1; exact h1
      · rw [q2.resolve_left y] at h1; exact h1
    · have h1 := h1 (by omega) (by omega)
      unfold ixa_ at h1
      rw [if_neg (c := 20 ≤ what) (by omega), if_neg (c := what = 0) (by omega), if_neg (c := what = 1) (by omega), if_pos w] at h1
      rw [a2]
      refine ⟨fun y => ?_, fun y => ?_⟩
      · rw [y] at h1; exact h1
      · rw [q3.resolve_left y] at h1; exact h1
    · have h1 := h1 (by omega) (by omega)
      unfold ixa_ at h1
      rw [if_neg (c := 20 ≤ what) (by omega), if_neg (c := what = 0) (by omega), if_neg (c := what = 1) (by omega), if_neg (c := what = 2) (by omega), if_pos w] at h1
      rw [p5]; exact h1
    · have h1 := h1 (by omega) (by omega)
      unfold ixa_ at h1
      rw [if_neg (c := 20 ≤ what) (by omega), if_neg (c := what = 0) (by omega), if_neg (c := what = 1) (by omega), if_neg (c := what = 2) (by omega), if_neg (c := what = 3) (by omega), if_pos w] at h1
      unfold nf_Index_size nf_Pile_size nc_Index_size nc_Pile_size
      rw [p5]
      have e10 : nn_ri M (2 + 90 + 15 * i.toNat + 8 + 2) (xn_ (aTX_ (zT_ Z) i)) = pz_ (xg_ (aTX_ (zT_ Z) i)) (xn_ (aTX_ (zT_ Z) i)) := c2 _ pn.1 (Int.le_refl _)
      rw [e10, c1]
      have hz : sz_ (aTX_ (zT_ Z) i) = cz_ (xA_ (aTX_ (zT_ Z) i)) + pz_ (xg_ (aTX_ (zT_ Z) i)) (xn_ (aTX_ (zT_ Z) i)) := rfl
      have := sz_nn (aTX_ (zT_ Z) i)
      rw [← hz, mm_w_id (by omega)]
      exact ⟨by omega, h1⟩
    · have h1 := h1 (by omega) (by omega)
      unfold ixa_ at h1
      rw [if_neg (c := 20 ≤ what) (by omega), if_neg (c := what = 0) (by omega), if_neg (c := what = 1) (by omega), if_neg (c := what = 2) (by omega), if_neg (c := what = 3) (by omega), if_neg (c := what = 4) (by omega), if_pos w] at h1
      exact ct_X_stale (Or.inl rfl) k j z h1
    · have h1 := h1 (by omega) (by omega)
      unfold ixa_ at h1
      rw [if_neg (c := 20 ≤ what) (by omega), if_neg (c := what = 0) (by omega), if_neg (c := what = 1) (by omega), if_neg (c := what = 2) (by omega), if_neg (c := what = 3) (by omega), if_neg (c := what = 4) (by omega), if_neg (c := what = 5) (by omega), if_pos w] at h1
      exact ct_X_waste (Or.inl rfl) k j z h1
    · have h1 := h1 (by omega) (by omega)
      unfold ixa_ at h1
      rw [if_neg (c := 20 ≤ what) (by omega), if_neg (c := what = 0) (by omega), if_neg (c := what = 1) (by omega), if_neg (c := what = 2) (by omega), if_neg (c := what = 3) (by omega), if_neg (c := what = 4) (by omega), if_neg (c := what = 5) (by omega), if_neg (c := what = 6) (by omega), if_pos w] at h1
      rw [a4, mm_w_id (by omega)]
      exact h1
    · have h1 := h1 (by omega) (by omega)
      unfold ixa_ at h1
      rw [if_neg (c := 20 ≤ what) (by omega), if_neg (c := what = 0) (by omega), if_neg (c := what = 1) (by omega), if_neg (c := what = 2) (by omega), if_neg (c := what = 3) (by omega), if_neg (c := what = 4) (by omega), if_neg (c := what = 5) (by omega), if_neg (c := what = 6) (by omega), if_neg (c := what = 7) (by omega), if_pos w] at h1
      refine ct_I_sure p ?_
      rw [k0, a3]
      exact h1
    · have h1 := h1 (by omega) (by omega)
      unfold ixa_ at h1
      rw [if_neg (c := 20 ≤ what) (by omega), if_neg (c := what = 0) (by omega), if_neg (c := what = 1) (by omega), if_neg (c := what = 2) (by omega), if_neg (c := what = 3) (by omega), if_neg (c := what = 4) (by omega), if_neg (c := what = 5) (by omega), if_neg (c := what = 6) (by omega), if_neg (c := what = 7) (by omega), if_neg (c := what = 8) (by omega), if_pos w] at h1
      rw [e3]
      exact h1
    · omega
    · omega
    · omega
    · have h1 := h1 (by omega) (by omega)
      unfold ixa_ at h1
      rw [if_neg (c := 20 ≤ what) (by omega), if_neg (c := what = 0) (by omega), if_neg (c := what = 1) (by omega), if_neg (c := what = 2) (by omega), if_neg (c := what = 3) (by omega), if_neg (c := what = 4) (by omega), if_neg (c := what = 5) (by omega), if_neg (c := what = 6) (by omega), if_neg (c := what = 7) (by omega), if_neg (c := what = 8) (by omega), if_neg (c := what = 9) (by omega), if_pos w] at h1
      exact ct_X_worst k j z h1
    · exact h0 (fun v => by have := v.2; omega)
  refine ⟨fun w => ⟨fun w2 => told (Or.inl w2), fun w2 => ⟨fun w3 => told (Or.inr ⟨w3, w⟩), fun w3 => ?_⟩⟩, fun w => ?_⟩
  · rw [k0]
    have h1 := h1 (by omega) (by omega)
    unfold ixa_ at h1
    rw [if_neg (c := 20 ≤ what) (by omega), if_neg (c := what = 0) (by omega), if_neg (c := what = 1) (by omega), if_neg (c := what = 2) (by omega), if_neg (c := what = 3) (by omega), if_neg (c := what = 4) (by omega), if_neg (c := what = 5) (by omega), if_neg (c := what = 6) (by omega), if_neg (c := what = 7) (by omega), if_neg (c := what = 8) (by omega), if_neg (c := what = 9) (by omega), if_neg (c := what = 13) (by omega)] at h1
    refine ⟨fun w4 => ?_, fun w4 => ?_⟩
    · rw [if_pos w4] at h1; exact h1
    · rw [if_neg (c := xh_ (aTX_ (zT_ Z) i) ≠ 2) (fun y => y w4)] at h1
      have vx : ∀ q, 0 ≤ q → q < 32 → nn_ri M (2 + 90 + 15 * i.toNat + 14) q = xv_ (aTl_ (zT_ Z)) (aTX_ (zT_ Z) i) q := vv
      by_cases w10 : what = 10
      · rw [if_pos w10] at h1
        rw [w10]
        refine ct_I_unused ?_
        rw [uu_cg vx]; exact h1
      · rw [if_neg w10] at h1
        refine ct_I_crowded (by omega) ?_
        rw [cr_cg vx (Nat.le_refl _)]
        by_cases w11 : what = 11
        · rw [if_pos w11] at h1 ⊢; exact h1
        · rw [if_neg w11, if_pos (c := what = 12) (by omega)] at h1
          rw [if_neg w11]; exact h1
  · have h1 := h1 (by omega) (by omega)
    unfold ixa_ at h1
    rw [if_pos (c := 20 ≤ what) w] at h1
    refine ct_P_told p ⟨w, by omega⟩ ?_
    have e : ptl_ M (2 + 90 + 15 * i.toNat + 8) (xn_ (aTX_ (zT_ Z) i)) (xg_ (aTX_ (zT_ Z) i)) what = ptA_ (aTX_ (zT_ Z) i) what := by
      unfold ptl_ ptA_
      rw [if_neg (c := what < 20) (by omega)]
      by_cases y : what < 60 ∧ what - 20 < xn_ (aTX_ (zT_ Z) i)
      · rw [if_pos y, if_pos y]
        have e1 : nn_ri M (2 + 90 + 15 * i.toNat + 8 + 2) (what - 20 + 1) = pz_ (xg_ (aTX_ (zT_ Z) i)) (what - 20 + 1) := c2 _ (by omega) (by omega)
        have e2 : nn_ri M (2 + 90 + 15 * i.toNat + 8 + 2) (what - 20) = pz_ (xg_ (aTX_ (zT_ Z) i)) (what - 20) := c2 _ (by omega) (by omega)
        rw [e1, e2, pz_s (by omega)]; omega
      · rw [if_neg y, if_neg y]
    rw [e]; exact h1
theorem ct_M_index {bd i what : Int} {Z : ab_Z} {M : mm_M} {R : Int → mm_M → Prop} (hw : -2147483648 ≤ what ∧ what < 2147483648) (k : mY_ bd M 0 Z) (j : jZ_ bd Z) (h1 : xok_ i what Z → ∀ M', fr_ (fun o _ => o = 410) M M' → R (ixa_ i what Z) M') (h0 : ¬ xok_ i what Z → R (-2) M) : nr_M_index i what M R := by
  obtain ⟨m1, m2⟩ := m_isIndex (i := i) k j
  obtain ⟨m3, m4⟩ := m_isBuilt (i := i) k j
  have notb : ix_ i Z → nf_M_isBuilt i M = 0 → xh_ (aTX_ (zT_ Z) i) ≠ 2 := fun z w y => absurd w (m4.mpr ⟨z.1, y⟩)
  refine ng_M_index _ _ _ _ ⟨m1, fun _ => m3, fun w => ?_, fun w => ?_⟩
  · by_cases hx : xok_ i what Z
    · have h1 := h1 hx M (fr_refl M)
      have w2 : 9 < what ∧ what < 13 ∧ nf_M_isBuilt i M = 0 := by
        rcases w with w | w | w | w
        · exact absurd w (m2.mpr hx.1)
        · have := hx.2; omega
        · have := k_in.mp w
          have := hx.2; omega
        · exact w
      unfold ixa_ at h1
      rw [if_neg (c := 20 ≤ what) (by omega), if_neg (c := what = 0) (by omega), if_neg (c := what = 1) (by omega), if_neg (c := what = 2) (by omega), if_neg (c := what = 3) (by omega), if_neg (c := what = 4) (by omega), if_neg (c := what = 5) (by omega), if_neg (c := what = 6) (by omega), if_neg (c := what = 7) (by omega), if_neg (c := what = 8) (by omega), if_neg (c := what = 9) (by omega), if_neg (c := what = 13) (by omega), if_pos (c := xh_ (aTX_ (zT_ Z) i) ≠ 2) (notb hx.1 w2.2.2)] at h1
      exact h1
    · exact h0 hx
  · obtain ⟨w1, w2, w3, w4⟩ := w
    have z := m2.mp w1
    have w3 := k_in0.mp w3
    have h1 := h1 ⟨z, w2, by omega⟩
    have h1' := h1 M (fr_refl M)
    have hi := z.1
    have hx : 1784 ≤ xi_ 0 i ∧ xi_ 0 i + 855 ≤ 5204 := by unfold xi_; omega
    have jx' := j.1.2.2.2.2 i hi.1 hi.2
    obtain ⟨vA, vK, vP⟩ := jX_vl jx' z.2
    have kx := k.1.1.2.2 i hi.1 hi.2
    obtain ⟨e, I, hE⟩ := mX_row kx z.2 vA vP
    obtain ⟨k0, k1⟩ := kx
    obtain ⟨⟨a1, a2, a3, a4, a5, a6, a7⟩, b1, c1, d, _⟩ := k1 z.2
    obtain ⟨⟨q1, q2, q3, q4, q5, q5b⟩, _, ⟨q7, q7b⟩, _, _, _, _, _, q9⟩ := jx' z.2
    have t : tM_ M 0 (aTm_ (zT_ Z)) (aTn_ (zT_ Z)) (aTq_ (zT_ Z)) := k.1.1.1
    refine ng_M_index_55 _ _ _ _ _ ?_
    rw [at0 hi]
    unfold ixa_ at h1 h1'
    refine ⟨fun w20 => ?_, fun w20 => ?_⟩
    · rw [if_neg (c := 20 ≤ what) (by omega)] at h1 h1'
      rw [mm_w_id (x := xi_ 0 i + 0) (by omega), show xi_ 0 i + 0 = xi_ 0 i by omega, mm_w_id (x := xi_ 0 i + 1) (by omega), mm_w_id (x := xi_ 0 i + 2) (by omega), mm_w_id (x := xi_ 0 i + 4) (by omega), mm_w_id (x := xi_ 0 i + 5) (by omega), mm_w_id (x := xi_ 0 i + 6) (by omega), mm_w_id (x := xi_ 0 i + 7) (by omega), k0, a1, a2, d.1, e.1, a5]
      refine ⟨fun w => ⟨by omega, ?_⟩, fun w => ⟨by omega, ?_⟩, fun w => ⟨by omega, ?_⟩, fun w => ⟨by omega, ?_⟩, fun w => ⟨by omega, ?_⟩, fun w => ?_, fun w => ?_, fun w => ⟨by omega, ?_⟩, fun w => ?_, fun w => ⟨by omega, ?_⟩, fun w => ?_, fun w => ?_, fun w => ?_, fun w => ?_⟩
      · rw [if_pos w] at h1'; exact h1'
      · rw [if_neg (c := what = 0) (by omega), if_pos w] at h1'; exact h1'
      · rw [if_neg (c := what = 0) (by omega), if_neg (c := what = 1) (by omega), if_pos w] at h1'; exact h1'
      · rw [if_neg (c := what = 0) (by omega), if_neg (c := what = 1) (by omega), if_neg (c := what = 2) (by omega), if_pos w] at h1'; exact h1'
      · rw [if_neg (c := what = 0) (by omega), if_neg (c := what = 1) (by omega), if_neg (c := what = 2) (by omega), if_neg (c := what = 3) (by omega), if_pos w] at h1'; exact h1'
      · rw [if_neg (c := what = 0) (by omega), if_neg (c := what = 1) (by omega), if_neg (c := what = 2) (by omega), if_neg (c := what = 3) (by omega), if_neg (c := what = 4) (by omega), if_pos w] at h1'
        refine ct_M_stales bk_0 hi (by omega) t e ?_
        rw [xsq_all]; exact h1'
      · rw [if_neg (c := what = 0) (by omega), if_neg (c := what = 1) (by omega), if_neg (c := what = 2) (by omega), if_neg (c := what = 3) (by omega), if_neg (c := what = 4) (by omega), if_neg (c := what = 5) (by omega), if_pos w] at h1'
        exact ct_M_waste bk_0 hi t e I h1'
      · rw [if_neg (c := what = 0) (by omega), if_neg (c := what = 1) (by omega), if_neg (c := what = 2) (by omega), if_neg (c := what = 3) (by omega), if_neg (c := what = 4) (by omega), if_neg (c := what = 5) (by omega), if_neg (c := what = 6) (by omega), if_pos w] at h1'
        refine ⟨fun y => ⟨by omega, ?_⟩, fun y => ?_⟩
        · have y1 := q1.resolve_right y
          rw [a4 y1, mm_w_id (by have := q5 y1; omega)]
          exact h1'
        · rw [q5b y] at h1'; exact h1'
      · rw [if_neg (c := what = 0) (by omega), if_neg (c := what = 1) (by omega), if_neg (c := what = 2) (by omega), if_neg (c := what = 3) (by omega), if_neg (c := what = 4) (by omega), if_neg (c := what = 5) (by omega), if_neg (c := what = 6) (by omega), if_neg (c := what = 7) (by omega), if_pos w] at h1'
        exact ct_M_oldest (g := xg_ (aTX_ (zT_ Z) i)) bk_0 hi ⟨k0, fun _ => ⟨a3, q4.1, d, fun r r0 r1 => (q7b r r0 r1).1.1⟩⟩ z.2 h1'
      · rw [if_neg (c := what = 0) (by omega), if_neg (c := what = 1) (by omega), if_neg (c := what = 2) (by omega), if_neg (c := what = 3) (by omega), if_neg (c := what = 4) (by omega), if_neg (c := what = 5) (by omega), if_neg (c := what = 6) (by omega), if_neg (c := what = 7) (by omega), if_neg (c := what = 8) (by omega), if_pos w] at h1'; exact h1'
      · have hb := m4.mp (w4.resolve_left (by omega) |>.resolve_left (by omega))
        rw [if_neg (c := what = 0) (by omega), if_neg (c := what = 1) (by omega), if_neg (c := what = 2) (by omega), if_neg (c := what = 3) (by omega), if_neg (c := what = 4) (by omega), if_neg (c := what = 5) (by omega), if_neg (c := what = 6) (by omega), if_neg (c := what = 7) (by omega), if_neg (c := what = 8) (by omega), if_neg (c := what = 9) (by omega), if_neg (c := what = 13) (by omega), if_neg (c := xh_ (aTX_ (zT_ Z) i) ≠ 2) (fun y => y hb.2), if_pos w] at h1'
        exact ct_M_unused k j z h1'
      · have hb := m4.mp (w4.resolve_left (by omega) |>.resolve_left (by omega))
        rw [if_neg (c := what = 0) (by omega), if_neg (c := what = 1) (by omega), if_neg (c := what = 2) (by omega), if_neg (c := what = 3) (by omega), if_neg (c := what = 4) (by omega), if_neg (c := what = 5) (by omega), if_neg (c := what = 6) (by omega), if_neg (c := what = 7) (by omega), if_neg (c := what = 8) (by omega), if_neg (c := what = 9) (by omega), if_neg (c := what = 13) (by omega), if_neg (c := xh_ (aTX_ (zT_ Z) i) ≠ 2) (fun y => y hb.2), if_neg (c := what = 10) (by omega), if_pos w] at h1
        exact ct_M_crowded k j z h1
      · have hb := m4.mp (w4.resolve_left (by omega) |>.resolve_left (by omega))
        rw [if_neg (c := what = 0) (by omega), if_neg (c := what = 1) (by omega), if_neg (c := what = 2) (by omega), if_neg (c := what = 3) (by omega), if_neg (c := what = 4) (by omega), if_neg (c := what = 5) (by omega), if_neg (c := what = 6) (by omega), if_neg (c := what = 7) (by omega), if_neg (c := what = 8) (by omega), if_neg (c := what = 9) (by omega), if_neg (c := what = 13) (by omega), if_neg (c := xh_ (aTX_ (zT_ Z) i) ≠ 2) (fun y => y hb.2), if_neg (c := what = 10) (by omega), if_neg (c := what = 11) (by omega), if_pos w] at h1
        have xb := xv_b j z
        have ce := (crowd_eq (vv := xv_ (aTl_ (zT_ Z)) (aTX_ (zT_ Z) i)) (fun q => by have := xb q; omega)).2
        refine ct_M_crowded k j z (fun M1 f1 => ?_)
        have k1 := mY_410 f1 j k
        refine ⟨fun y => ?_, fun y => ?_⟩
        · refine ct_M_crowded k1 j z (fun M2 f2 => ?_)
          have k2 := mY_410 f2 j k1
          refine ct_M_withValue y k2 j z ?_
          rw [if_neg y] at ce
          rw [← ce]
          exact h1 M2 (fr_trans f1 f2)
        · rw [if_pos y] at ce
          rw [ce] at h1
          exact h1 M1 f1
      · rw [if_neg (c := what = 0) (by omega), if_neg (c := what = 1) (by omega), if_neg (c := what = 2) (by omega), if_neg (c := what = 3) (by omega), if_neg (c := what = 4) (by omega), if_neg (c := what = 5) (by omega), if_neg (c := what = 6) (by omega), if_neg (c := what = 7) (by omega), if_neg (c := what = 8) (by omega), if_neg (c := what = 9) (by omega), if_pos (c := what = 13) (by omega)] at h1'
        exact ct_M_worst k j z h1'
    · rw [if_pos w20] at h1'
      unfold ptA_ at h1'
      have d2 := d.2
      have cnt : ∀ r, 0 ≤ r → r < xn_ (aTX_ (zT_ Z) i) → ct_ (fun e => eX_ (aTX_ (zT_ Z) i) e / 4503599627370496 == r + 1) 0 (sz_ (aTX_ (zT_ Z) i)).toNat = cz_ (xg_ (aTX_ (zT_ Z) i) r).2.2.2.2 := by
        intro r r0 r1
        obtain ⟨s1, s2⟩ := eX_run I hE vA vP (r := r + 1) ⟨by omega, by omega⟩
        have xn := xs_nn (X := aTX_ (zT_ Z) i) (r := r + 1) (by omega)
        have ez : xz_ (aTX_ (zT_ Z) i) (r + 1) = cz_ (xg_ (aTX_ (zT_ Z) i) r).2.2.2.2 := by
          unfold xz_
          rw [if_neg (by omega), show r + 1 - 1 = r by omega]
        rw [ct_iv (a := xs_0 (aTX_ (zT_ Z) i) (r + 1)) (b := xs_0 (aTX_ (zT_ Z) i) (r + 1) + xz_ (aTX_ (zT_ Z) i) (r + 1)) _ (by omega) (by omega) (fun e e0 e1 => by
          show (eX_ (aTX_ (zT_ Z) i) e / 4503599627370496 == r + 1) = true ↔ _
          rw [beq_iff_eq]
          exact (s2 e e0 (by omega)).1), ← ez]
        omega
      refine ng_M_ofRuns _ _ _ _ ?_
      rw [at0 hi, mm_w_id (x := what - 100) (by omega), mm_w_id (x := what - 60) (by omega), mm_w_id (x := what - 20) (by omega), mm_w_id (x := xi_ 0 i + 5) (by omega), d.1]
      refine ⟨fun w60 => ⟨fun w100 => ⟨by omega, fun y => ⟨fun _ => ⟨fun _ => ?_, fun y2 => by omega⟩, fun y2 => by omega⟩, fun y => ?_⟩, fun w100 => ⟨by omega, fun y => ⟨fun _ => ⟨fun y2 => by omega, fun _ => ?_⟩, fun y2 => by omega⟩, fun y => ?_⟩⟩, fun w60 => ⟨by omega, fun y => ⟨fun y2 => by omega, fun _ => ?_⟩, fun y => ?_⟩⟩
      · rw [nf_head ⟨by omega, by omega⟩ ⟨by omega, by omega⟩, mm_w_id (x := xi_ 0 i + 143 + 3 * (what - 100) + 2) (by omega), (d.2.2.2 (what - 100) (by omega) y).2.2]
        rw [if_neg (c := what < 60 ∧ what - 20 < xn_ (aTX_ (zT_ Z) i)) (by omega), if_neg (c := what < 60) (by omega), if_neg (c := what < 100 ∧ what - 60 < xn_ (aTX_ (zT_ Z) i)) (by omega), if_neg (c := what < 100) (by omega), if_pos y] at h1'
        exact ⟨by omega, h1'⟩
      · rw [if_neg (c := what < 60 ∧ what - 20 < xn_ (aTX_ (zT_ Z) i)) (by omega), if_neg (c := what < 60) (by omega), if_neg (c := what < 100 ∧ what - 60 < xn_ (aTX_ (zT_ Z) i)) (by omega), if_neg (c := what < 100) (by omega), if_neg (by omega)] at h1'
        exact h1'
      · rw [nf_head ⟨by omega, by omega⟩ ⟨by omega, by omega⟩, mm_w_id (x := xi_ 0 i + 143 + 3 * (what - 60) + 1) (by omega), (d.2.2.2 (what - 60) (by omega) y).2.1]
        rw [if_neg (c := what < 60 ∧ what - 20 < xn_ (aTX_ (zT_ Z) i)) (by omega), if_neg (c := what < 60) (by omega), if_pos ⟨w100, y⟩] at h1'
        exact ⟨by omega, h1'⟩
      · rw [if_neg (c := what < 60 ∧ what - 20 < xn_ (aTX_ (zT_ Z) i)) (by omega), if_neg (c := what < 60) (by omega), if_neg (c := what < 100 ∧ what - 60 < xn_ (aTX_ (zT_ Z) i)) (by omega), if_pos w100] at h1'
        exact h1'
      · rw [mm_w_id (x := what - 20 + 1) (by omega)]
        refine ct_M_entriesOf ⟨by omega, by omega⟩ e ?_
        rw [cnt _ (by omega) y]
        rw [if_pos ⟨w60, y⟩] at h1'
        exact h1'
      · rw [if_neg (c := what < 60 ∧ what - 20 < xn_ (aTX_ (zT_ Z) i)) (by omega), if_pos w60] at h1'
        exact h1'
