/-! open, both sides -/
def fc_ (C : Int → ab_D) : Int := if (C 0).1.1 = 0 then 0 else if (C 1).1.1 = 0 then 1 else if (C 2).1.1 = 0 then 2 else 3
theorem fc_in (C : Int → ab_D) : 0 ≤ fc_ C ∧ fc_ C ≤ 3 := by
  unfold fc_
  split
  · omega
  · split
    · omega
    · split <;> omega
theorem fc_at {C : Int → ab_D} {n : Int} (n0 : 0 ≤ n) (n1 : n < 3) (h : ∀ j, 0 ≤ j → j < n → (C j).1.1 ≠ 0) (h0 : (C n).1.1 = 0) : fc_ C = n := by
  unfold fc_
  have hn : n = 0 ∨ n = 1 ∨ n = 2 := by omega
  rcases hn with z | z | z
  · rw [z] at h0
    rw [if_pos h0, z]
  · rw [z] at h0
    rw [if_neg (h 0 (by omega) (by omega)), if_pos h0, z]
  · rw [z] at h0
    rw [if_neg (h 0 (by omega) (by omega)), if_neg (h 1 (by omega) (by omega)), if_pos h0, z]
theorem fc_3 {C : Int → ab_D} (h : ∀ j, 0 ≤ j → j < 3 → (C j).1.1 ≠ 0) : fc_ C = 3 := by
  unfold fc_
  rw [if_neg (h 0 (by omega) (by omega)), if_neg (h 1 (by omega) (by omega)), if_neg (h 2 (by omega) (by omega))]
def opk_ (i : Int) (Z : ab_Z) : Prop := ib2_ i Z ∧ fc_ (zC_ Z) < 3
def opD_ (i low high : Int) (Z : ab_Z) : ab_D := ((1, (ga_ (xv_ (aTl_ (zT_ Z)) (aTX_ (zT_ Z) i)) low high 32).1, 0, (ga_ (xv_ (aTl_ (zT_ Z)) (aTX_ (zT_ Z) i)) low high 32).2, aTn_ (zT_ Z) + xn_ (aTX_ (zT_ Z) i), fun k => if k < aTn_ (zT_ Z) then (aTq_ (zT_ Z) k).1 else (xg_ (aTX_ (zT_ Z) i) (k - aTn_ (zT_ Z))).1), fun k => if k < aTn_ (zT_ Z) then (aTq_ (zT_ Z) k).2.1 else (xg_ (aTX_ (zT_ Z) i) (k - aTn_ (zT_ Z))).2.1)
def opn_ (i low high : Int) (Z : ab_Z) : ab_Z := setD_ (fc_ (zC_ Z)) (opD_ i low high Z) Z
theorem cu2_cg {M : mm_M} {c : Nat} {s s' : ab_C} (h : cu2_ M c s) (e1 : s'.1 = s.1) (e2 : s'.2.1 = s.2.1) (e3 : s'.2.2.1 = s.2.2.1) (e4 : ∀ i, 0 ≤ i → i < s.2.1 → s'.2.2.2.1 i = s.2.2.2.1 i) (e5 : s'.2.2.2.2.1 = s.2.2.2.2.1) (e6 : ∀ i, 0 ≤ i → i < s.2.2.2.2.1 → s'.2.2.2.2.2 i = s.2.2.2.2.2 i) : cu2_ M c s' := by
  obtain ⟨k1, k2, ⟨k3, k4⟩, ⟨k5, k6⟩, k7, ⟨k8, k9⟩, k10⟩ := h
  unfold cu2_
  rw [e1, e2, e3, e5]
  exact ⟨k1, k2, ⟨k3, k4⟩, ⟨k5, k6⟩, fun i i0 i1 => (k7 i i0 i1).trans (e4 i i0 i1).symm, ⟨k8, k9⟩, fun i i0 i1 => (k10 i i0 i1).trans (e6 i i0 i1).symm⟩
theorem kd_ids {i : Int} (h : 0 ≤ i ∧ i < 4) : (mm_kd (2 + 90 + 15 * i.toNat + 13)).2 = 24 := by
  have : i = 0 ∨ i = 1 ∨ i = 2 ∨ i = 3 := by omega
  rcases this with z | z | z | z <;> rw [z] <;> rfl
theorem jX_n {bd i : Int} {Z : ab_Z} (j : jZ_ bd Z) (h : ix_ i Z) : 0 ≤ xn_ (aTX_ (zT_ Z) i) ∧ xn_ (aTX_ (zT_ Z) i) ≤ 21 := by
  obtain ⟨⟨a, _⟩, _, ⟨b, _⟩, _⟩ := j.1.2.2.2.2 i h.1.1 h.1.2 h.2
  omega
theorem jZ_opn {bd i low high : Int} {Z : ab_Z} (h : opk_ i Z) (j : jZ_ bd Z) : jZ_ bd (opn_ i low high Z) := by
  have b := (ga_spec (xv_ (aTl_ (zT_ Z)) (aTX_ (zT_ Z) i)) low high 32).1
  have n1 := jX_n j (ib_ix h.1)
  have n2 := j.1.2.1
  refine jZ_setD ⟨Or.inr rfl, ⟨b.1, b.2⟩, ⟨Int.le_refl _, b.1⟩, ?_, ?_⟩ j
  · show 0 ≤ aTn_ (zT_ Z) + xn_ (aTX_ (zT_ Z) i); omega
  · show aTn_ (zT_ Z) + xn_ (aTX_ (zT_ Z) i) ≤ 48; omega
theorem ct_LI_open {bd i low high : Int} {Z : ab_Z} {M : mm_M} {R : Int → mm_M → Prop} (kz : cZ_ M 2 Z) (j : jZ_ bd Z) (h1 : opk_ i Z → ∀ M', fr_ now_ M M' → cZ_ M' 2 (opn_ i low high Z) → R (fc_ (zC_ Z)) M') (h0 : ¬ opk_ i Z → R (-1) M) : nr_LI_open i low high M R := by
  refine ng_LI_open _ _ _ _ _ ?_
  refine ct_S_findBuilt kz (fun z => ?_) (fun z => ?_)
  · exact ⟨fun w => absurd rfl w, fun _ => h0 (fun w => z w.1)⟩
  refine ⟨fun _ => ?_, fun w => by omega⟩
  have hi := z.1
  have vx := vv_at kz z
  have nx := jX_n j (ib_ix z)
  have nt := j.1.2.1
  have kt : tb_ M 5 (aTm_ (zT_ Z)) (aTl_ (zT_ Z)) (aTn_ (zT_ Z)) (aTq_ (zT_ Z)) := kz.1.1
  obtain ⟨_, _, _, _, p, _⟩ := (kz.1.2.2 i hi.1 hi.2).2.2 (ib_ix z).2
  refine ng_Store_opened _ _ _ _ _ _ ?_
  have L : ∀ n : Int, n ≤ 3 → 0 ≤ n → (∀ q, 0 ≤ q → q < n → (zC_ Z q).1.1 ≠ 0) → nk_Store_opened_3 2 (2 + 90 + 15 * i.toNat) low high n M R := by
    refine lp_up (fun n hn ih n0 hq => ?_)
    refine ng_Store_opened_3 _ _ _ _ _ _ _ ⟨fun c => ⟨fun w => absurd (by omega : n = 3) w, fun w => h0 (fun y => ?_)⟩, fun c => ⟨⟨n0, c⟩, ?_⟩⟩
    · have := fc_3 (C := zC_ Z) (fun q q0 q1 => hq q q0 (by omega))
      have := y.2
      omega
    have ku := kz.2.2.2.2.2 n n0 c
    rw [ku.1, mm_w_id (x := n + 1) (by omega)]
    refine ⟨fun y => ⟨fun _ => ⟨⟨n0, c⟩, ?_⟩, fun w => by omega⟩, fun y => ih c (by omega) (fun q q0 q1 => ?_)⟩
    · have e := fc_at n0 c hq y
      have hok : opk_ i Z := ⟨z, by omega⟩
      have h1 := h1 hok
      unfold opn_ at h1
      rw [e] at h1
      refine ct_S_gather (s := 2) (vv := xv_ (aTl_ (zT_ Z)) (aTX_ (zT_ Z) i)) (by omega) vx (fun M1 f1 g1 => ?_)
      have b := (ga_spec (xv_ (aTl_ (zT_ Z)) (aTX_ (zT_ Z) i)) low high 32).1
      have hD : opD_ i low high Z = ((1, (ga_ (xv_ (aTl_ (zT_ Z)) (aTX_ (zT_ Z) i)) low high 32).1, 0, (ga_ (xv_ (aTl_ (zT_ Z)) (aTX_ (zT_ Z) i)) low high 32).2, aTn_ (zT_ Z) + xn_ (aTX_ (zT_ Z) i), fun k => if k < aTn_ (zT_ Z) then (aTq_ (zT_ Z) k).1 else (xg_ (aTX_ (zT_ Z) i) (k - aTn_ (zT_ Z))).1), fun k => if k < aTn_ (zT_ Z) then (aTq_ (zT_ Z) k).2.1 else (xg_ (aTX_ (zT_ Z) i) (k - aTn_ (zT_ Z))).2.1) := rfl
      generalize ga_ (xv_ (aTl_ (zT_ Z)) (aTX_ (zT_ Z) i)) low high 32 = g at *
      refine ct_Cu_begin (by rfl) (by omega) ⟨b.1, b.2⟩ (fun M2 f2 k2 => ⟨⟨n0, c⟩, ?_⟩)
      have F2 : fr_ (fun o _ => o = 91 ∨ (2 + 150 + 3 * n.toNat ≤ o ∧ o < 2 + 150 + 3 * n.toNat + 3)) M M2 := fr_trans (fr_mono f1 (fun o _ y => Or.inl y)) (fr_mono f2 (fun o _ y => Or.inr y))
      rw [show nn_rf M2 (2 + 3) 5 = aTn_ (zT_ Z) from (fr_rf F2 (by omega)).trans kt.2.2.1.1]
      refine ct_Cu_hold (by omega) (by show 0 ≤ aTn_ (zT_ Z) ∧ aTn_ (zT_ Z) ≤ 24; omega) k2 (by show 0 + aTn_ (zT_ Z) ≤ 48; omega) (fun M3 f3 k3 => ⟨⟨n0, c⟩, ?_⟩)
      have F3 : fr_ (fun o _ => o = 91 ∨ (2 + 150 + 3 * n.toNat ≤ o ∧ o < 2 + 150 + 3 * n.toNat + 3)) M M3 := fr_trans F2 (fr_mono f3 (fun o _ y => Or.inr y))
      rw [show nn_rf M3 (2 + 90 + 15 * i.toNat + 8) 5 = xn_ (aTX_ (zT_ Z) i) from (fr_rf F3 (by omega)).trans p.1.1]
      refine ct_Cu_hold (by omega) (by rw [kd_ids hi]; omega) k3 (by show 0 + aTn_ (zT_ Z) + xn_ (aTX_ (zT_ Z) i) ≤ 48; omega) (fun M4 f4 k4 => ?_)
      have F4 : fr_ (fun o _ => 2 + 150 + 3 * n.toNat ≤ o ∧ o < 2 + 150 + 3 * n.toNat + 3) M1 M4 := fr_trans (fr_mono f2 (fun o _ y => y)) (fr_trans (fr_mono f3 (fun o _ y => y)) (fr_mono f4 (fun o _ y => y)))
      refine h1 M4 (fr_trans (fr_mono f1 (fun o _ y => by unfold now_; omega)) (fr_mono F4 (fun o _ y => by unfold now_; omega))) (cZ_setD ⟨n0, c⟩ F4 (cZ_91 f1 kz) ?_)
      rw [hD]
      refine cu2_cg k4 rfl rfl rfl (fun q q0 q1 => ?_) ?_ (fun q q0 q1 => ?_)
      · exact (g1 q q0 q1).symm
      · show aTn_ (zT_ Z) + xn_ (aTX_ (zT_ Z) i) = 0 + aTn_ (zT_ Z) + xn_ (aTX_ (zT_ Z) i); omega
      · have q1 : q < 0 + aTn_ (zT_ Z) + xn_ (aTX_ (zT_ Z) i) := q1
        show (if q < aTn_ (zT_ Z) then (aTq_ (zT_ Z) q).1 else (xg_ (aTX_ (zT_ Z) i) (q - aTn_ (zT_ Z))).1) = if q < 0 + aTn_ (zT_ Z) then (if q < 0 then (0 : Int) else nn_ri M2 (2 + 12) (q - 0)) else nn_ri M3 (2 + 90 + 15 * i.toNat + 13) (q - (0 + aTn_ (zT_ Z)))
        by_cases w : q < aTn_ (zT_ Z)
        · rw [if_pos w, if_pos (by omega), if_neg (by omega), show q - 0 = q by omega, fr_ri F2 (by omega)]
          exact ((kt.2.2.2.2 q q0 w).1).symm
        · rw [if_neg w, if_neg (by omega), show q - (0 + aTn_ (zT_ Z)) = q - aTn_ (zT_ Z) by omega, fr_ri F3 (by omega)]
          have := p.2.2.1 (q - aTn_ (zT_ Z)) (by omega) (by omega)
          exact this.1.symm
    · by_cases w : q = n
      · rw [w]; exact y
      · exact hq q q0 (by omega)
  exact L 0 (by omega) (Int.le_refl _) (fun q q0 q1 => by omega)
theorem ct_M_open {bd i low high : Int} {Z : ab_Z} {M : mm_M} {R : Int → mm_M → Prop} (kz : mY_ bd M 0 Z) (j : jZ_ bd Z) (h1 : opk_ i Z → ∀ M', fr_ mod_ M M' → mY_ bd M' 0 (opn_ i low high Z) → R (fc_ (zC_ Z)) M') (h0 : ¬ opk_ i Z → R (-1) M) : nr_M_open i low high M R := by
  obtain ⟨m1, m2⟩ := m_isBuilt (i := i) kz j
  refine ng_M_open _ _ _ _ _ ?_
  have L : ∀ n : Int, n ≤ 3 → 0 ≤ n → (∀ q, 0 ≤ q → q < n → (zC_ Z q).1.1 ≠ 0) → nk_M_open_3 i low high n M R := by
    refine lp_up (fun n hn ih n0 hq => ?_)
    obtain ⟨o1, o2, o3⟩ := m_isOpen (c := n) kz j
    refine ng_M_open_3 _ _ _ _ _ _ ⟨fun c => ⟨m1, fun w => h0 (fun y => ?_), fun w => absurd (by omega : n = 3) w.2⟩, fun c => ⟨o1, fun y => ⟨m1, fun w => ?_, fun w => ?_⟩, fun y => ?_⟩⟩
    · have := fc_3 (C := zC_ Z) (fun q q0 q1 => hq q q0 (by omega))
      have := y.2
      omega
    · rcases w with w | w
      · exact h0 (fun v => absurd w (m2.mpr v.1))
      · omega
    · have z := m2.mp w.1
      have cl : (zC_ Z n).1.1 = 0 := by
        rcases (j.2.2 n n0 c).1 with v | v
        · exact v
        · exact absurd y (o2.mpr ⟨⟨n0, c⟩, v⟩)
      have e := fc_at n0 c hq cl
      have hok : opk_ i Z := ⟨z, by omega⟩
      have h1 := h1 hok
      unfold opn_ at h1
      rw [e] at h1
      have hi := z.1
      have nx := jX_n j (ib_ix z)
      have nt := j.1.2.1
      have hx : 1784 ≤ xi_ 0 i ∧ xi_ 0 i + 855 ≤ 5204 := by unfold xi_; omega
      have t : tM_ M 0 (aTm_ (zT_ Z)) (aTn_ (zT_ Z)) (aTq_ (zT_ Z)) := kz.1.1.1
      obtain ⟨_, b1, _, d, _⟩ := (kz.1.1.2.2 i hi.1 hi.2).2 (ib_ix z).2
      have cu := o3 ⟨n0, c⟩
      rw [cu, at0 hi]
      refine ct_M_asks (T := zT_ Z) (X := aTX_ (zT_ Z) i) hi t j.1.1 b1 (fun M1 f1 g1 => ?_)
      have b := (ga_spec (xv_ (aTl_ (zT_ Z)) (aTX_ (zT_ Z) i)) low high 32).1
      have hD : opD_ i low high Z = ((1, (ga_ (xv_ (aTl_ (zT_ Z)) (aTX_ (zT_ Z) i)) low high 32).1, 0, (ga_ (xv_ (aTl_ (zT_ Z)) (aTX_ (zT_ Z) i)) low high 32).2, aTn_ (zT_ Z) + xn_ (aTX_ (zT_ Z) i), fun k => if k < aTn_ (zT_ Z) then (aTq_ (zT_ Z) k).1 else (xg_ (aTX_ (zT_ Z) i) (k - aTn_ (zT_ Z))).1), fun k => if k < aTn_ (zT_ Z) then (aTq_ (zT_ Z) k).2.1 else (xg_ (aTX_ (zT_ Z) i) (k - aTn_ (zT_ Z))).2.1) := rfl
      generalize ga_ (xv_ (aTl_ (zT_ Z)) (aTX_ (zT_ Z) i)) low high 32 = g at *
      have k1 := mY_410 f1 j kz
      rw [mm_w_id (x := 5204 + 90 * n + 1) (by omega), mm_w_id (x := 5204 + 90 * n + 2) (by omega)]
      refine ⟨by omega, ?_⟩
      intro M2 e2
      refine ⟨by omega, ?_⟩
      intro M3 e3
      refine ⟨by omega, ?_⟩
      intro M4 e4
      have f4 : fr_ (a8_ (5204 + 90 * n) (5204 + 90 * n + 90)) M1 M4 := by
        rw [e4, e3, e2]
        exact fr_ui (fr_ui (fr_ui (fr_refl M1) ⟨rfl, by omega, by omega⟩) ⟨rfl, by omega, by omega⟩) ⟨rfl, by omega, by omega⟩
      have rd : ∀ M5, fr_ (a8_ (5204 + 90 * n) (5204 + 90 * n + 90)) M1 M5 → ∀ q, 0 ≤ q → q < 5204 → nn_ri M5 408 q = nn_ri M 408 q := fun M5 f5 q q0 q1 => (a8_ri f5 q0 (by omega)).trans (fr_ri f1 (by omega))
      have a0 : nn_ri M4 408 (5204 + 90 * n) = 1 := by rw [e4, rd_ii, if_neg (by omega), e3, rd_ii, if_neg (by omega), e2, rd_ii, if_pos ⟨rfl, rfl⟩]
      have a1 : nn_ri M4 408 (5204 + 90 * n + 1) = g.1 := by rw [e4, rd_ii, if_neg (by omega), e3, rd_ii, if_pos ⟨rfl, rfl⟩]
      have a2 : nn_ri M4 408 (5204 + 90 * n + 2) = 0 := by rw [e4, rd_ii, if_pos ⟨rfl, rfl⟩]
      -- the runs of the index
      have L3 : ∀ r : Int, r ≤ xn_ (aTX_ (zT_ Z) i) → 0 ≤ r → ∀ M5, fr_ (a8_ (5204 + 90 * n) (5204 + 90 * n + 90)) M1 M5 → nn_ri M5 408 (5204 + 90 * n) = 1 → nn_ri M5 408 (5204 + 90 * n + 1) = g.1 → nn_ri M5 408 (5204 + 90 * n + 2) = 0 → (∀ q, 0 ≤ q → q < g.1 → nn_ri M5 408 (5204 + 90 * n + 3 + q) = g.2 q) → nn_ri M5 408 (5204 + 90 * n + 35) = aTn_ (zT_ Z) + xn_ (aTX_ (zT_ Z) i) → (∀ q, 0 ≤ q → q < aTn_ (zT_ Z) + r → nn_ri M5 408 (5204 + 90 * n + 36 + q) = if q < aTn_ (zT_ Z) then (aTq_ (zT_ Z) q).2.1 else (xg_ (aTX_ (zT_ Z) i) (q - aTn_ (zT_ Z))).2.1) → nk_M_open_204 n (5204 + 90 * n) (xi_ 0 i) r M5 R := by
        refine lp_up (fun r hr ih3 r0 M5 f5 p0 p1 p2 p3 p4 p5 => ?_)
        refine ng_M_open_204 _ _ _ _ _ _ ?_
        have r5 : nn_ri M5 408 5 = aTn_ (zT_ Z) := (rd M5 f5 5 (by omega) (by omega)).trans t.2.2.1.1
        have rx : nn_ri M5 408 (xi_ 0 i + 5) = xn_ (aTX_ (zT_ Z) i) := (rd M5 f5 _ (by omega) (by omega)).trans d.1
        rw [mm_w_id (x := xi_ 0 i + 5) (by omega), rx]
        refine ⟨by omega, fun w => ?_, fun w => ?_⟩
        · refine h1 M5 (fr_trans (fr_mono f1 (fun o q y => Or.inr (Or.inr y))) (fr_mono f5 (fun o q y => Or.inl ⟨y.1, by have := y.2; omega⟩))) (mY_setD ⟨n0, c⟩ (fr_mono f5 (fun o q y => y)) j.2.1.2.2.2.2.1.2 j.2.2 k1 ?_)
          rw [hD]
          refine ⟨p0, p1, p2, p3, p4, fun q q0 q1 => ?_⟩
          have q1 : q < aTn_ (zT_ Z) + xn_ (aTX_ (zT_ Z) i) := q1
          exact p5 q q0 (by omega)
        · rw [nf_head ⟨by omega, by omega⟩ ⟨by omega, by omega⟩, r5, mm_w_id (x := 5204 + 90 * n + 35) (by omega), mm_w_id (x := 5204 + 90 * n + 35 + 1) (by omega), mm_w_id (x := 5204 + 90 * n + 35 + 1 + aTn_ (zT_ Z)) (by omega), mm_w_id (x := 5204 + 90 * n + 35 + 1 + aTn_ (zT_ Z) + r) (by omega), mm_w_id (x := r + 1) (by omega)]
          refine ⟨by omega, by omega, ?_⟩
          intro M6 e6
          have hv : nn_ri M5 408 (xi_ 0 i + 143 + 3 * r) = (xg_ (aTX_ (zT_ Z) i) r).2.1 := (rd M5 f5 _ (by omega) (by omega)).trans (d.2.2.2 r r0 w).1
          rw [hv] at e6
          refine ih3 w (by omega) M6 (by rw [e6]; exact fr_ui f5 ⟨rfl, by omega, by omega⟩) ?_ ?_ ?_ ?_ ?_ ?_
          · rw [e6, rd_ii, if_neg (by omega)]; exact p0
          · rw [e6, rd_ii, if_neg (by omega)]; exact p1
          · rw [e6, rd_ii, if_neg (by omega)]; exact p2
          · intro q q0 q1
            rw [e6, rd_ii, if_neg (by omega)]; exact p3 q q0 q1
          · rw [e6, rd_ii, if_neg (by omega)]; exact p4
          · intro q q0 q1
            rw [e6, rd_ii]
            by_cases v : q = aTn_ (zT_ Z) + r
            · rw [if_pos ⟨rfl, by omega⟩, if_neg (by omega), show q - aTn_ (zT_ Z) = r by omega]
            · rw [if_neg (by omega)]; exact p5 q q0 (by omega)
      -- the runs of the table
      have L2 : ∀ r : Int, r ≤ aTn_ (zT_ Z) → 0 ≤ r → ∀ M5, fr_ (a8_ (5204 + 90 * n) (5204 + 90 * n + 90)) M1 M5 → nn_ri M5 408 (5204 + 90 * n) = 1 → nn_ri M5 408 (5204 + 90 * n + 1) = g.1 → nn_ri M5 408 (5204 + 90 * n + 2) = 0 → (∀ q, 0 ≤ q → q < g.1 → nn_ri M5 408 (5204 + 90 * n + 3 + q) = g.2 q) → nn_ri M5 408 (5204 + 90 * n + 35) = aTn_ (zT_ Z) + xn_ (aTX_ (zT_ Z) i) → (∀ q, 0 ≤ q → q < r → nn_ri M5 408 (5204 + 90 * n + 36 + q) = (aTq_ (zT_ Z) q).2.1) → nk_M_open_158 n (5204 + 90 * n) (xi_ 0 i) r M5 R := by
        refine lp_up (fun r hr ih2 r0 M5 f5 p0 p1 p2 p3 p4 p5 => ?_)
        refine ng_M_open_158 _ _ _ _ _ _ ?_
        have r5 : nn_ri M5 408 5 = aTn_ (zT_ Z) := (rd M5 f5 5 (by omega) (by omega)).trans t.2.2.1.1
        rw [r5]
        refine ⟨fun w => ?_, fun w => ?_⟩
        · refine L3 0 (by omega) (Int.le_refl _) M5 f5 p0 p1 p2 p3 p4 (fun q q0 q1 => ?_)
          rw [if_pos (by omega)]
          exact p5 q q0 (by omega)
        · rw [nf_runAt bk_0 ⟨by omega, by omega⟩, mm_w_id (x := 5204 + 90 * n + 35) (by omega), mm_w_id (x := 5204 + 90 * n + 35 + 1) (by omega), mm_w_id (x := 5204 + 90 * n + 35 + 1 + r) (by omega), mm_w_id (x := r + 1) (by omega)]
          refine ⟨by omega, by omega, ?_⟩
          intro M6 e6
          have hv : nn_ri M5 408 (0 + 288 + 68 * r) = (aTq_ (zT_ Z) r).2.1 := (rd M5 f5 _ (by omega) (by omega)).trans (t.2.2.2 r r0 w).1
          rw [hv] at e6
          refine ih2 w (by omega) M6 (by rw [e6]; exact fr_ui f5 ⟨rfl, by omega, by omega⟩) ?_ ?_ ?_ ?_ ?_ ?_
          · rw [e6, rd_ii, if_neg (by omega)]; exact p0
          · rw [e6, rd_ii, if_neg (by omega)]; exact p1
          · rw [e6, rd_ii, if_neg (by omega)]; exact p2
          · intro q q0 q1
            rw [e6, rd_ii, if_neg (by omega)]; exact p3 q q0 q1
          · rw [e6, rd_ii, if_neg (by omega)]; exact p4
          · intro q q0 q1
            rw [e6, rd_ii]
            by_cases v : q = r
            · rw [if_pos ⟨rfl, by omega⟩, v]
            · rw [if_neg (by omega)]; exact p5 q q0 (by omega)
      -- the keys
      have L1 : ∀ r : Int, r ≤ g.1 → 0 ≤ r → ∀ M5, fr_ (a8_ (5204 + 90 * n) (5204 + 90 * n + 90)) M1 M5 → nn_ri M5 408 (5204 + 90 * n) = 1 → nn_ri M5 408 (5204 + 90 * n + 1) = g.1 → nn_ri M5 408 (5204 + 90 * n + 2) = 0 → (∀ q, 0 ≤ q → q < r → nn_ri M5 408 (5204 + 90 * n + 3 + q) = g.2 q) → nk_M_open_97 n (5204 + 90 * n) (xi_ 0 i) g.1 r M5 R := by
        refine lp_up (fun r hr ih1 r0 M5 f5 p0 p1 p2 p3 => ?_)
        refine ng_M_open_97 _ _ _ _ _ _ _ ?_
        have r5 : nn_ri M5 408 5 = aTn_ (zT_ Z) := (rd M5 f5 5 (by omega) (by omega)).trans t.2.2.1.1
        have rx : nn_ri M5 408 (xi_ 0 i + 5) = xn_ (aTX_ (zT_ Z) i) := (rd M5 f5 _ (by omega) (by omega)).trans d.1
        rw [r5, mm_w_id (x := xi_ 0 i + 5) (by omega), rx, mm_w_id (x := aTn_ (zT_ Z) + xn_ (aTX_ (zT_ Z) i)) (by omega), mm_w_id (x := 5204 + 90 * n + 35) (by omega), mm_w_id (x := 5204 + 90 * n + 3) (by omega), mm_w_id (x := 5204 + 90 * n + 3 + r) (by omega), mm_w_id (x := r + 1) (by omega)]
        refine ⟨fun w => ⟨by omega, by omega, ?_⟩, fun w => ⟨by omega, by omega, ?_⟩⟩
        · intro M6 e6
          refine L2 0 (by omega) (Int.le_refl _) M6 (by rw [e6]; exact fr_ui f5 ⟨rfl, by omega, by omega⟩) ?_ ?_ ?_ ?_ ?_ (fun q q0 q1 => by omega)
          · rw [e6, rd_ii, if_neg (by omega)]; exact p0
          · rw [e6, rd_ii, if_neg (by omega)]; exact p1
          · rw [e6, rd_ii, if_neg (by omega)]; exact p2
          · intro q q0 q1
            rw [e6, rd_ii, if_neg (by omega)]; exact p3 q q0 (by omega)
          · rw [e6, rd_ii, if_pos ⟨rfl, rfl⟩]
        · intro M6 e6
          have hv : nn_ri M5 410 r = g.2 r := (fr_ri f5 (fun y => absurd y.1 (by decide))).trans (g1 r r0 w)
          rw [hv] at e6
          refine ih1 w (by omega) M6 (by rw [e6]; exact fr_ui f5 ⟨rfl, by omega, by omega⟩) ?_ ?_ ?_ ?_
          · rw [e6, rd_ii, if_neg (by omega)]; exact p0
          · rw [e6, rd_ii, if_neg (by omega)]; exact p1
          · rw [e6, rd_ii, if_neg (by omega)]; exact p2
          · intro q q0 q1
            rw [e6, rd_ii]
            by_cases v : q = r
            · rw [if_pos ⟨rfl, by omega⟩, v]
            · rw [if_neg (by omega)]; exact p3 q q0 (by omega)
      exact L1 0 b.1 (Int.le_refl _) M4 f4 a0 a1 a2 (fun q q0 q1 => by omega)
    · rw [mm_w_id (x := n + 1) (by omega)]
      refine ih c (by omega) (fun q q0 q1 => ?_)
      by_cases w : q = n
      · rw [w, (o2.mp y).2]; decide
      · exact hq q q0 (by omega)
  exact L 0 (by omega) (Int.le_refl _) (fun q q0 q1 => by omega)
