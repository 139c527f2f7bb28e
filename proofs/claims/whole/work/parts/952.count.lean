/-! what is counted, whole: both sides, any store, any block; count -/
noncomputable def cnt_ (what : Int) (Z : ab_Z) : Int :=
  if what = 0 then aTs_ (zT_ Z)
  else if what = 1 then aTi_ (zT_ Z)
  else if what = 2 then vn_ (aTm_ (zT_ Z)) 32
  else if what = 3 then aTn_ (zT_ Z)
  else if what = 4 then vs_ 0 (aTq_ (zT_ Z)) (aTn_ (zT_ Z)).toNat
  else if what = 5 then thn_ (aTl_ (zT_ Z)) 32
  else if what = 6 then vs_ 1 (aTq_ (zT_ Z)) (aTn_ (zT_ Z)).toNat
  else if what = 7 then sur_ (aTX_ (zT_ Z))
  else if what = 8 then lo1_ (zT_ Z) (zC_ Z) 3
  else if what = 9 then on_ (zC_ Z) 3
  else if what = 10 then ibs_ (aTX_ (zT_ Z)) 4
  else if what = 11 then zs_ Z 6
  else if what = 12 then zs_ Z 7
  else if what = 13 then nxm_ Z
  else -1
theorem lk_rows2 {bd : Int} {Z : ab_Z} (j : jZ_ bd Z) : ∀ k p, aTl_ (zT_ Z) k = some p → p.2 = -1 ∨ 0 ≤ p.2 := fun k p hp => by
  have := (lk_rows j.1.1 k p hp).1
  omega
theorem ct_S_counted {s : Nat} {bd what : Int} {Z : ab_Z} {M : mm_M} {R : Int → mm_M → Prop} (hs : s = 2 ∨ s = 161) (hbd : 0 ≤ bd ∧ bd < 900000000) (k : cZ_ M s Z) (j : jZ_ bd Z) (hsl : sl_ M 320)
    (h : ∀ M', fr_ (tr_ 320) M M' → sl_ M' 320 → R (cnt_ what Z) M') : nr_Store_counted s what 320 M R := by
  have hs' : sk_ s := by unfold sk_; omega
  have h0 := h M (fr_refl M) hsl
  unfold cnt_ at h h0
  obtain ⟨kt, ⟨k6, k7, k8⟩, kX⟩ := k.1
  obtain ⟨x1, x2, x3, x4, x5, x6⟩ := k.2.1
  refine ng_Store_counted _ _ _ _ _ ⟨fun w => ?_, fun w => ?_, fun w => ?_, fun w => ?_, fun w => ?_, fun w => ?_, fun w => ?_, fun w => ?_, fun w => ?_, fun w => ?_, fun w => ?_, fun w => ?_, fun w => ?_, fun w => ?_, fun w => ?_⟩
  · rw [if_pos w] at h0
    rw [k6]; exact h0
  · rw [if_neg (c := what = 0) (by omega), if_pos w] at h0
    rw [k7]; exact h0
  · rw [if_neg (c := what = 0) (by omega), if_neg (c := what = 1) (by omega), if_pos w] at h0
    rw [nf_size, kt.1.1]; exact h0
  · rw [if_neg (c := what = 0) (by omega), if_neg (c := what = 1) (by omega), if_neg (c := what = 2) (by omega), if_pos w] at h0
    rw [kt.2.2.1.1]; exact h0
  · rw [if_neg (c := what = 0) (by omega), if_neg (c := what = 1) (by omega), if_neg (c := what = 2) (by omega), if_neg (c := what = 3) (by omega), if_pos w] at h0
    exact ct_T_versions kt h0
  · rw [if_neg (c := what = 0) (by omega), if_neg (c := what = 1) (by omega), if_neg (c := what = 2) (by omega), if_neg (c := what = 3) (by omega), if_neg (c := what = 4) (by omega), if_pos w] at h0
    have e7 : cv_ M (s + 7) = aTl_ (zT_ Z) := by
      have := kt.2.1.1
      rw [show s + 3 + 4 = s + 7 by omega] at this
      exact this
    refine ct_V_gon2 e7 ?_
    have b1 := vn_b (aTl_ (zT_ Z)) 32
    have b2 := vw_b 1 (aTl_ (zT_ Z)) 32
    rw [nf_size, e7, mm_w_id (by omega), thn_eq (lk_rows2 j) 32]
    exact h0
  · rw [if_neg (c := what = 0) (by omega), if_neg (c := what = 1) (by omega), if_neg (c := what = 2) (by omega), if_neg (c := what = 3) (by omega), if_neg (c := what = 4) (by omega), if_neg (c := what = 5) (by omega), if_pos w] at h0
    exact ct_T_gone kt h0
  · rw [if_neg (c := what = 0) (by omega), if_neg (c := what = 1) (by omega), if_neg (c := what = 2) (by omega), if_neg (c := what = 3) (by omega), if_neg (c := what = 4) (by omega), if_neg (c := what = 5) (by omega), if_neg (c := what = 6) (by omega), if_pos w] at h0
    exact ct_S_sure kX h0
  · rw [if_neg (c := what = 0) (by omega), if_neg (c := what = 1) (by omega), if_neg (c := what = 2) (by omega), if_neg (c := what = 3) (by omega), if_neg (c := what = 4) (by omega), if_neg (c := what = 5) (by omega), if_neg (c := what = 6) (by omega), if_neg (c := what = 7) (by omega), if_pos w] at h0
    exact ct_S_leftOver hs' k j h0
  · rw [if_neg (c := what = 0) (by omega), if_neg (c := what = 1) (by omega), if_neg (c := what = 2) (by omega), if_neg (c := what = 3) (by omega), if_neg (c := what = 4) (by omega), if_neg (c := what = 5) (by omega), if_neg (c := what = 6) (by omega), if_neg (c := what = 7) (by omega), if_neg (c := what = 8) (by omega), if_pos w] at h0
    exact ct_S_openCursors k j h0
  · rw [if_neg (c := what = 0) (by omega), if_neg (c := what = 1) (by omega), if_neg (c := what = 2) (by omega), if_neg (c := what = 3) (by omega), if_neg (c := what = 4) (by omega), if_neg (c := what = 5) (by omega), if_neg (c := what = 6) (by omega), if_neg (c := what = 7) (by omega), if_neg (c := what = 8) (by omega), if_neg (c := what = 9) (by omega), if_pos w] at h0
    exact ct_S_bits k h0
  · rw [if_neg (c := what = 0) (by omega), if_neg (c := what = 1) (by omega), if_neg (c := what = 2) (by omega), if_neg (c := what = 3) (by omega), if_neg (c := what = 4) (by omega), if_neg (c := what = 5) (by omega), if_neg (c := what = 6) (by omega), if_neg (c := what = 7) (by omega), if_neg (c := what = 8) (by omega), if_neg (c := what = 9) (by omega), if_neg (c := what = 10) (by omega), if_pos w] at h0
    rw [x3]; exact h0
  · rw [if_neg (c := what = 0) (by omega), if_neg (c := what = 1) (by omega), if_neg (c := what = 2) (by omega), if_neg (c := what = 3) (by omega), if_neg (c := what = 4) (by omega), if_neg (c := what = 5) (by omega), if_neg (c := what = 6) (by omega), if_neg (c := what = 7) (by omega), if_neg (c := what = 8) (by omega), if_neg (c := what = 9) (by omega), if_neg (c := what = 10) (by omega), if_neg (c := what = 11) (by omega), if_pos w] at h0
    rw [x4]; exact h0
  · rw [if_neg (c := what = 0) (by omega), if_neg (c := what = 1) (by omega), if_neg (c := what = 2) (by omega), if_neg (c := what = 3) (by omega), if_neg (c := what = 4) (by omega), if_neg (c := what = 5) (by omega), if_neg (c := what = 6) (by omega), if_neg (c := what = 7) (by omega), if_neg (c := what = 8) (by omega), if_neg (c := what = 9) (by omega), if_neg (c := what = 10) (by omega), if_neg (c := what = 11) (by omega), if_neg (c := what = 12) (by omega), if_pos w] at h
    exact ct_S_nextMerges hs hbd k j hsl h
  · rw [if_neg (c := what = 0) (by omega), if_neg (c := what = 1) (by omega), if_neg (c := what = 2) (by omega), if_neg (c := what = 3) (by omega), if_neg (c := what = 4) (by omega), if_neg (c := what = 5) (by omega), if_neg (c := what = 6) (by omega), if_neg (c := what = 7) (by omega), if_neg (c := what = 8) (by omega), if_neg (c := what = 9) (by omega), if_neg (c := what = 10) (by omega), if_neg (c := what = 11) (by omega), if_neg (c := what = 12) (by omega), if_neg (c := what = 13) (by omega)] at h0
    exact h0
theorem ct_M_counts {b bd what : Int} {Z : ab_Z} {M : mm_M} {R : Int → mm_M → Prop} (hb : b = 0 ∨ b = 5474) (hbd : 0 ≤ bd ∧ bd < 800000000) (k : mY_ bd M b Z) (j : jZ_ bd Z) (g : jI_ Z)
    (h : ∀ M', fr_ (mz_ 10948) M M' → R (cnt_ what Z) M') : nr_M_counts b what M R := by
  have hb' : bk_ b := by unfold bk_; omega
  have h0 := h M (fr_refl M)
  unfold cnt_ at h h0
  obtain ⟨⟨⟨kt, ⟨k0, k1, k2, k8⟩, kX⟩, ⟨r1, r2, r3⟩⟩, g0, g1⟩ := k
  have k : mY_ bd M b Z := ⟨⟨⟨kt, ⟨k0, k1, k2, k8⟩, kX⟩, ⟨r1, r2, r3⟩⟩, g0, g1⟩
  refine ng_M_counts _ _ _ _ ⟨fun w => ?_, fun w => ?_, fun w => ?_, fun w => ?_, fun w => ?_, fun w => ?_, fun w => ?_, fun w => ?_, fun w => ?_, fun w => ?_, fun w => ?_, fun w => ?_, fun w => ?_, fun w => ?_, fun w => ?_⟩
  · rw [if_pos w] at h0
    rw [mm_w_id (x := b + 0) (by omega), show b + 0 = b by omega, k0]; exact ⟨by omega, h0⟩
  · rw [if_neg (c := what = 0) (by omega), if_pos w] at h0
    rw [mm_w_id (x := b + 1) (by omega), k1]; exact ⟨by omega, h0⟩
  · rw [if_neg (c := what = 0) (by omega), if_neg (c := what = 1) (by omega), if_pos w] at h0
    exact ct_M_inMemory hb' kt h0
  · rw [if_neg (c := what = 0) (by omega), if_neg (c := what = 1) (by omega), if_neg (c := what = 2) (by omega), if_pos w] at h0
    rw [mm_w_id (x := b + 5) (by omega), kt.2.2.1.1]; exact ⟨by omega, h0⟩
  · rw [if_neg (c := what = 0) (by omega), if_neg (c := what = 1) (by omega), if_neg (c := what = 2) (by omega), if_neg (c := what = 3) (by omega), if_pos w] at h0
    exact ct_M_versions hb' kt h0
  · rw [if_neg (c := what = 0) (by omega), if_neg (c := what = 1) (by omega), if_neg (c := what = 2) (by omega), if_neg (c := what = 3) (by omega), if_neg (c := what = 4) (by omega), if_pos w] at h0
    exact ct_M_there hb' kt h0
  · rw [if_neg (c := what = 0) (by omega), if_neg (c := what = 1) (by omega), if_neg (c := what = 2) (by omega), if_neg (c := what = 3) (by omega), if_neg (c := what = 4) (by omega), if_neg (c := what = 5) (by omega), if_pos w] at h0
    exact ct_M_versions hb' kt h0
  · rw [if_neg (c := what = 0) (by omega), if_neg (c := what = 1) (by omega), if_neg (c := what = 2) (by omega), if_neg (c := what = 3) (by omega), if_neg (c := what = 4) (by omega), if_neg (c := what = 5) (by omega), if_neg (c := what = 6) (by omega), if_pos w] at h0
    exact ct_M_sureX hb' kX j.1.2.2.2.2 h0
  · rw [if_neg (c := what = 0) (by omega), if_neg (c := what = 1) (by omega), if_neg (c := what = 2) (by omega), if_neg (c := what = 3) (by omega), if_neg (c := what = 4) (by omega), if_neg (c := what = 5) (by omega), if_neg (c := what = 6) (by omega), if_neg (c := what = 7) (by omega), if_pos w] at h0
    rw [lo_eq g] at h0; exact ct_M_leftOver hb' k j h0
  · rw [if_neg (c := what = 0) (by omega), if_neg (c := what = 1) (by omega), if_neg (c := what = 2) (by omega), if_neg (c := what = 3) (by omega), if_neg (c := what = 4) (by omega), if_neg (c := what = 5) (by omega), if_neg (c := what = 6) (by omega), if_neg (c := what = 7) (by omega), if_neg (c := what = 8) (by omega), if_pos w] at h0
    exact ct_M_cursors hb' k j h0
  · rw [if_neg (c := what = 0) (by omega), if_neg (c := what = 1) (by omega), if_neg (c := what = 2) (by omega), if_neg (c := what = 3) (by omega), if_neg (c := what = 4) (by omega), if_neg (c := what = 5) (by omega), if_neg (c := what = 6) (by omega), if_neg (c := what = 7) (by omega), if_neg (c := what = 8) (by omega), if_neg (c := what = 9) (by omega), if_pos w] at h0
    exact ct_M_indexes hb' k j h0
  · rw [if_neg (c := what = 0) (by omega), if_neg (c := what = 1) (by omega), if_neg (c := what = 2) (by omega), if_neg (c := what = 3) (by omega), if_neg (c := what = 4) (by omega), if_neg (c := what = 5) (by omega), if_neg (c := what = 6) (by omega), if_neg (c := what = 7) (by omega), if_neg (c := what = 8) (by omega), if_neg (c := what = 9) (by omega), if_neg (c := what = 10) (by omega), if_pos w] at h0
    rw [mm_w_id (x := b + 6) (by omega), r1 6 (by unfold hd_; omega)]; exact ⟨by omega, h0⟩
  · rw [if_neg (c := what = 0) (by omega), if_neg (c := what = 1) (by omega), if_neg (c := what = 2) (by omega), if_neg (c := what = 3) (by omega), if_neg (c := what = 4) (by omega), if_neg (c := what = 5) (by omega), if_neg (c := what = 6) (by omega), if_neg (c := what = 7) (by omega), if_neg (c := what = 8) (by omega), if_neg (c := what = 9) (by omega), if_neg (c := what = 10) (by omega), if_neg (c := what = 11) (by omega), if_pos w] at h0
    rw [mm_w_id (x := b + 7) (by omega), r1 7 (by unfold hd_; omega)]; exact ⟨by omega, h0⟩
  · rw [if_neg (c := what = 0) (by omega), if_neg (c := what = 1) (by omega), if_neg (c := what = 2) (by omega), if_neg (c := what = 3) (by omega), if_neg (c := what = 4) (by omega), if_neg (c := what = 5) (by omega), if_neg (c := what = 6) (by omega), if_neg (c := what = 7) (by omega), if_neg (c := what = 8) (by omega), if_neg (c := what = 9) (by omega), if_neg (c := what = 10) (by omega), if_neg (c := what = 11) (by omega), if_neg (c := what = 12) (by omega), if_pos w] at h
    exact ct_M_merging hb hbd k j h
  · rw [if_neg (c := what = 0) (by omega), if_neg (c := what = 1) (by omega), if_neg (c := what = 2) (by omega), if_neg (c := what = 3) (by omega), if_neg (c := what = 4) (by omega), if_neg (c := what = 5) (by omega), if_neg (c := what = 6) (by omega), if_neg (c := what = 7) (by omega), if_neg (c := what = 8) (by omega), if_neg (c := what = 9) (by omega), if_neg (c := what = 10) (by omega), if_neg (c := what = 11) (by omega), if_neg (c := what = 12) (by omega), if_neg (c := what = 13) (by omega)] at h0
    exact h0
noncomputable def coua_ (what : Int) (Z : ab_Z) : Int := if what = 14 then zs_ Z 20 else cnt_ what Z
theorem ct_LI_count {bd what : Int} {Z : ab_Z} {M : mm_M} {R : Int → mm_M → Prop} (hbd : 0 ≤ bd ∧ bd < 900000000) (k : cZ_ M 2 Z) (j : jZ_ bd Z) (hsl : sl_ M 320)
    (h : ∀ M', fr_ (tr_ 320) M M' → sl_ M' 320 → R (coua_ what Z) M') : nr_LI_count what M R := by
  unfold coua_ at h
  refine ng_LI_count _ _ _ ⟨fun w => ?_, fun w => ?_⟩
  · rw [if_neg w] at h
    exact ct_S_counted (Or.inl rfl) hbd k j hsl h
  · rw [if_pos w] at h
    have h0 := h M (fr_refl M) hsl
    have e : nn_rf M 3 1 = zs_ Z 20 := k.2.2.2.2.1.1
    rw [e]; exact h0
theorem ct_M_count {bd what : Int} {Z : ab_Z} {M : mm_M} {R : Int → mm_M → Prop} (hbd : 0 ≤ bd ∧ bd < 800000000) (k : mY_ bd M 0 Z) (j : jZ_ bd Z) (g : jI_ Z)
    (h : ∀ M', fr_ (mz_ 10948) M M' → R (coua_ what Z) M') : nr_M_count what M R := by
  unfold coua_ at h
  refine ng_M_count _ _ _ ⟨fun w => ?_, fun w => ?_⟩
  · rw [if_neg w] at h
    exact ct_M_counts (Or.inl rfl) hbd k j g h
  · rw [if_pos w] at h
    have e := k.1.2.1 20 (by unfold hd_; omega)
    rw [show (0 : Int) + 20 = 20 by omega] at e
    rw [e]; exact h M (fr_refl M)
