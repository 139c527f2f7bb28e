/-! both, sum, near, both sides -/
def bq_ (p : Int → Bool) : Nat → Int × (Int → Int)
  | 0 => (0, fun _ => 0)
  | k + 1 => if p k = true then ((bq_ p k).1 + 1, fun i => if i = (bq_ p k).1 then (k : Int) else (bq_ p k).2 i) else bq_ p k
theorem bq_s (p : Int → Bool) (k : Nat) : bq_ p (k + 1) = if p k = true then ((bq_ p k).1 + 1, fun i => if i = (bq_ p k).1 then (k : Int) else (bq_ p k).2 i) else bq_ p k := rfl
def an2_ (k : Int) (s : Int × (Int → Int)) : Int := if k = -1 then s.1 else if 0 ≤ k ∧ k < s.1 then s.2 k else -2
theorem bq_in (p : Int → Bool) : ∀ m : Nat, 0 ≤ (bq_ p m).1 ∧ (bq_ p m).1 ≤ m
  | 0 => ⟨Int.le_refl _, Int.le_refl _⟩
  | m + 1 => by
    have := bq_in p m
    unfold bq_
    by_cases z : p m = true
    · rw [if_pos z]; dsimp only; omega
    · rw [if_neg z]; omega
theorem bq_mono (p : Int → Bool) (m : Nat) : ∀ d : Nat, (bq_ p m).1 ≤ (bq_ p (m + d)).1 ∧ ∀ j, j < (bq_ p m).1 → (bq_ p (m + d)).2 j = (bq_ p m).2 j
  | 0 => ⟨Int.le_refl _, fun _ _ => rfl⟩
  | d + 1 => by
    obtain ⟨h1, h2⟩ := bq_mono p m d
    show (bq_ p m).1 ≤ (bq_ p (m + d + 1)).1 ∧ ∀ j, j < (bq_ p m).1 → (bq_ p (m + d + 1)).2 j = (bq_ p m).2 j
    rw [bq_s p (m + d)]
    by_cases z : p ((m + d : Nat) : Int) = true
    · rw [if_pos z]
      refine ⟨by dsimp only; omega, fun j hj => ?_⟩
      show (if j = (bq_ p (m + d)).1 then ((m + d : Nat) : Int) else (bq_ p (m + d)).2 j) = (bq_ p m).2 j
      rw [if_neg (by omega)]
      exact h2 j hj
    · rw [if_neg z]; exact ⟨h1, h2⟩
theorem answered {k n : Int} {F : Int → Int} {M : mm_M} (hn : n ≤ 32) (hF : ∀ i, 0 ≤ i → i < n → nn_ri M 91 i = F i) : nc_LI_answered 91 n k M ∧ nf_LI_answered 91 n k M = an2_ k (n, F) := by
  have kd : ((mm_kd 91).2 : Int) = 32 := rfl
  unfold nc_LI_answered nf_LI_answered an2_
  rw [kd]
  refine ⟨fun _ h1 h2 h3 => ⟨h1, h3⟩, ?_⟩
  by_cases h0 : k = -1
  · rw [if_neg (fun w => w h0), if_pos h0]
  rw [if_pos h0, if_neg h0]
  by_cases h1 : k < 0
  · rw [if_pos h1, if_neg (by omega)]
  rw [if_neg h1]
  by_cases h2 : n ≤ k
  · rw [if_pos h2, if_neg (by dsimp only; omega)]
  rw [if_neg h2, if_neg (by omega), if_pos (by dsimp only; omega)]
  exact hF k (by omega) (by omega)
def bp2_ (vx vy : Int → Int) (value its : Int) (k : Int) : Bool := decide (gw_ vx value value k ∧ gw_ vy its its k)
def bota_ (i value o its k : Int) (Z : ab_Z) : Int := an2_ k (bq_ (bp2_ (xv_ (aTl_ (zT_ Z)) (aTX_ (zT_ Z) i)) (xv_ (aTl_ (zT_ Z)) (aTX_ (zT_ Z) o)) value its) 32)
theorem vv_at {s : Nat} {i : Int} {Z : ab_Z} {M : mm_M} (k : cZ_ M s Z) (h : ib2_ i Z) : ∀ q, 0 ≤ q → q < 32 → nn_ri M (s + 90 + 15 * i.toNat + 14) q = xv_ (aTl_ (zT_ Z)) (aTX_ (zT_ Z) i) q := by
  obtain ⟨_, _, _, _, _, vv⟩ := (k.1.2.2 i h.1.1 h.1.2).2.2 (by rw [h.2]; decide)
  exact vv
theorem ct_LI_both {i value o its k : Int} {Z : ab_Z} {M : mm_M} {R : Int → mm_M → Prop} (kz : cZ_ M 2 Z) (h1 : ib2_ i Z ∧ ib2_ o Z → ∀ M', fr_ (fun o _ => o = 91) M M' → R (bota_ i value o its k Z) M') (h0 : ¬ (ib2_ i Z ∧ ib2_ o Z) → R (-2) M) : nr_LI_both i value o its k M R := by
  refine ng_LI_both _ _ _ _ _ _ _ ?_
  refine ct_S_findBuilt kz (fun z => ?_) (fun z => ?_)
  · refine ct_S_findBuilt kz (fun z2 => ?_) (fun z2 => ?_)
    · exact ⟨fun _ => h0 (fun w => z w.1), fun w => absurd rfl w.1⟩
    · exact ⟨fun _ => h0 (fun w => z w.1), fun w => absurd rfl w.1⟩
  · refine ct_S_findBuilt kz (fun z2 => ?_) (fun z2 => ?_)
    · exact ⟨fun _ => h0 (fun w => z2 w.2), fun w => absurd rfl w.2⟩
    refine ⟨fun w => by omega, fun _ => ?_⟩
    have h1 := h1 ⟨z, z2⟩
    have vx := vv_at kz z
    have vy := vv_at kz z2
    have hz := z.1
    have hz2 := z2.1
    unfold bota_ at h1
    generalize xv_ (aTl_ (zT_ Z)) (aTX_ (zT_ Z) i) = ux at *
    generalize xv_ (aTl_ (zT_ Z)) (aTX_ (zT_ Z) o) = uy at *
    have L : ∀ q : Int, q ≤ 32 → 0 ≤ q → ∀ M1, fr_ (fun o _ => o = 91) M M1 → (∀ j, 0 ≤ j → j < (bq_ (bp2_ ux uy value its) q.toNat).1 → nn_ri M1 91 j = (bq_ (bp2_ ux uy value its) q.toNat).2 j) → nk_LI_both_39 value its k (2 + 90 + 15 * i.toNat) (2 + 90 + 15 * o.toNat) (bq_ (bp2_ ux uy value its) q.toNat).1 q M1 R := by
      refine lp_up (fun q hq ih q0 M1 f1 g1 => ?_)
      have hb := bq_in (bp2_ ux uy value its) q.toNat
      refine ng_LI_both_39 _ _ _ _ _ _ _ _ _ ⟨fun c => ?_, fun c => ?_⟩
      · rw [show q.toNat = 32 by omega] at g1 hb ⊢
        obtain ⟨a1, a2⟩ := answered (k := k) (by omega) g1
        refine ⟨a1, ?_⟩
        rw [a2]
        exact h1 M1 f1
      · have vx1 : ∀ q, 0 ≤ q → q < 32 → nn_ri M1 (2 + 90 + 15 * i.toNat + 14) q = ux q := fun q q0 q1 => (fr_ri f1 (by omega)).trans (vx q q0 q1)
        have vy1 : ∀ q, 0 ≤ q → q < 32 → nn_ri M1 (2 + 90 + 15 * o.toNat + 14) q = uy q := fun q q0 q1 => (fr_ri f1 (by omega)).trans (vy q q0 q1)
        obtain ⟨x1, x0⟩ := hf_gw (low := value) (high := value) ⟨q0, c⟩ vx1
        obtain ⟨y1, y0⟩ := hf_gw (low := its) (high := its) ⟨q0, c⟩ vy1
        have ih := ih c (by omega)
        rw [show (q + 1).toNat = q.toNat + 1 by omega] at ih
        unfold bq_ at ih
        rw [show ((q.toNat : Nat) : Int) = q by omega] at ih
        rw [x1, x0, y1, y0, mm_w_id (x := q + 1) (by omega)]
        refine ⟨nc_hasFrom ⟨q0, c⟩, fun _ => nc_hasFrom ⟨q0, c⟩, fun _ => by omega, fun w => ?_, fun w => ?_⟩
        · have e : bp2_ ux uy value its q = false := decide_eq_false (fun v => w.elim (fun w => w v.1) (fun w => w v.2))
          rw [e, if_neg (by decide)] at ih
          exact ih M1 f1 g1
        · have e : bp2_ ux uy value its q = true := decide_eq_true w
          rw [e, if_pos rfl] at ih
          intro M2 e2
          rw [mm_w_id (x := (bq_ (bp2_ ux uy value its) q.toNat).1 + 1) (by omega)]
          refine ih M2 (by rw [e2]; exact fr_ui f1 rfl) (fun j j0 j1 => ?_)
          rw [e2, rd_ii]
          dsimp only
          by_cases y : j = (bq_ (bp2_ ux uy value its) q.toNat).1
          · rw [if_pos ⟨rfl, by rw [y]⟩, if_pos y]
          · rw [if_neg (by omega), if_neg y]; exact g1 j j0 (by dsimp only at j1; omega)
    exact L 0 (by omega) (Int.le_refl _) M (fr_refl M) (fun j j0 j1 => by have j1 : j < 0 := j1; omega)
theorem ct_M_isWith {bd i key value : Int} {Z : ab_Z} {M : mm_M} {R : Int → mm_M → Prop} (k : mY_ bd M 0 Z) (j : jZ_ bd Z) (hi : ix_ i Z) (hk : 0 ≤ key ∧ key < 32) (h1 : gw_ (xv_ (aTl_ (zT_ Z)) (aTX_ (zT_ Z) i)) value value key → R 1 M) (h0 : ¬ gw_ (xv_ (aTl_ (zT_ Z)) (aTX_ (zT_ Z) i)) value value key → R 0 M) : nr_M_isWith i key value M R := by
  have t : tM_ M 0 (aTm_ (zT_ Z)) (aTn_ (zT_ Z)) (aTq_ (zT_ Z)) := k.1.1.1
  have hx : 1784 ≤ xi_ 0 i ∧ xi_ 0 i + 855 ≤ 5204 := by have := hi.1; unfold xi_; omega
  obtain ⟨_, b1, _⟩ := (k.1.1.2.2 i hi.1.1 hi.1.2).2 hi.2
  refine ng_M_isWith _ _ _ _ _ ?_
  rw [at0 hi.1]
  refine ct_M_wt (X := aTX_ (zT_ Z) i) bk_0 ⟨by omega, by omega⟩ hk t j.1.1 b1 (fun z => ?_) (fun z => ?_)
  · refine ⟨fun w => absurd w (by decide), fun _ => ?_⟩
    refine ct_M_rv (X := aTX_ (zT_ Z) i) bk_0 ⟨by omega, by omega⟩ hk t j.1.1 b1 z ?_
    have z : xv_ (aTl_ (zT_ Z)) (aTX_ (zT_ Z) i) key ≠ -1 := z
    show (xv_ (aTl_ (zT_ Z)) (aTX_ (zT_ Z) i) key ≠ value → R 0 M) ∧ (xv_ (aTl_ (zT_ Z)) (aTX_ (zT_ Z) i) key = value → R 1 M)
    exact ⟨fun w => h0 (fun v => by have := v.2; omega), fun w => h1 ⟨z, by omega, by omega⟩⟩
  · have z : xv_ (aTl_ (zT_ Z)) (aTX_ (zT_ Z) i) key = -1 := z
    exact ⟨fun _ => h0 (fun v => v.1 z), fun w => absurd rfl w⟩
theorem ib_ix {i : Int} {Z : ab_Z} (h : ib2_ i Z) : ix_ i Z := ⟨h.1, by rw [h.2]; decide⟩
theorem ct_M_both {bd i value o its k : Int} {Z : ab_Z} {M : mm_M} {R : Int → mm_M → Prop} (hk : -2147483648 ≤ k) (kz : mY_ bd M 0 Z) (j : jZ_ bd Z) (h1 : ib2_ i Z ∧ ib2_ o Z → R (bota_ i value o its k Z) M) (h0 : ¬ (ib2_ i Z ∧ ib2_ o Z) → R (-2) M) : nr_M_both i value o its k M R := by
  obtain ⟨m1, m2⟩ := m_isBuilt (i := i) kz j
  obtain ⟨m3, m4⟩ := m_isBuilt (i := o) kz j
  refine ng_M_both _ _ _ _ _ _ _ ⟨m1, fun _ => m3, fun z => h0 (fun w => ?_), fun z => ?_⟩
  · rcases z with z | z
    · exact absurd z (m2.mpr w.1)
    · exact absurd z (m4.mpr w.2)
  have z1 := m2.mp z.1
  have z2 := m4.mp z.2
  have h1 := h1 ⟨z1, z2⟩
  unfold bota_ at h1
  have L : ∀ q : Int, q ≤ 32 → 0 ≤ q → (k < 0 ∨ (bq_ (bp2_ (xv_ (aTl_ (zT_ Z)) (aTX_ (zT_ Z) i)) (xv_ (aTl_ (zT_ Z)) (aTX_ (zT_ Z) o)) value its) q.toNat).1 ≤ k) → nk_M_both_25 i value o its k (bq_ (bp2_ (xv_ (aTl_ (zT_ Z)) (aTX_ (zT_ Z) i)) (xv_ (aTl_ (zT_ Z)) (aTX_ (zT_ Z) o)) value its) q.toNat).1 q M R := by
    refine lp_up (fun q hq ih q0 hn => ?_)
    have hb := bq_in (bp2_ (xv_ (aTl_ (zT_ Z)) (aTX_ (zT_ Z) i)) (xv_ (aTl_ (zT_ Z)) (aTX_ (zT_ Z) o)) value its) q.toNat
    refine ng_M_both_25 _ _ _ _ _ _ _ _ _ ⟨fun c => ?_, fun c => ?_⟩
    · rw [show q.toNat = 32 by omega] at hb hn ⊢
      unfold an2_ at h1
      by_cases e : k = -1
      · rw [if_pos e] at h1; exact ⟨fun w => absurd e w, fun _ => h1⟩
      · rw [if_neg e, if_neg (by omega)] at h1; exact ⟨fun _ => h1, fun w => absurd w e⟩
    · have ih := ih c (by omega)
      have bm := bq_mono (bp2_ (xv_ (aTl_ (zT_ Z)) (aTX_ (zT_ Z) i)) (xv_ (aTl_ (zT_ Z)) (aTX_ (zT_ Z) o)) value its) (q.toNat + 1) (32 - (q.toNat + 1))
      rw [show q.toNat + 1 + (32 - (q.toNat + 1)) = 32 by omega] at bm
      rw [show (q + 1).toNat = q.toNat + 1 by omega] at ih
      have e1 : bq_ (bp2_ (xv_ (aTl_ (zT_ Z)) (aTX_ (zT_ Z) i)) (xv_ (aTl_ (zT_ Z)) (aTX_ (zT_ Z) o)) value its) (q.toNat + 1) = if bp2_ (xv_ (aTl_ (zT_ Z)) (aTX_ (zT_ Z) i)) (xv_ (aTl_ (zT_ Z)) (aTX_ (zT_ Z) o)) value its q = true then ((bq_ (bp2_ (xv_ (aTl_ (zT_ Z)) (aTX_ (zT_ Z) i)) (xv_ (aTl_ (zT_ Z)) (aTX_ (zT_ Z) o)) value its) q.toNat).1 + 1, fun i' => if i' = (bq_ (bp2_ (xv_ (aTl_ (zT_ Z)) (aTX_ (zT_ Z) i)) (xv_ (aTl_ (zT_ Z)) (aTX_ (zT_ Z) o)) value its) q.toNat).1 then q else (bq_ (bp2_ (xv_ (aTl_ (zT_ Z)) (aTX_ (zT_ Z) i)) (xv_ (aTl_ (zT_ Z)) (aTX_ (zT_ Z) o)) value its) q.toNat).2 i') else bq_ (bp2_ (xv_ (aTl_ (zT_ Z)) (aTX_ (zT_ Z) i)) (xv_ (aTl_ (zT_ Z)) (aTX_ (zT_ Z) o)) value its) q.toNat := by
        show (if bp2_ _ _ value its ((q.toNat : Nat) : Int) = true then (_, fun i' => if i' = _ then ((q.toNat : Nat) : Int) else _) else _) = _
        rw [show ((q.toNat : Nat) : Int) = q by omega]
      rw [e1] at bm ih
      rw [mm_w_id (x := q + 1) (by omega)]
      have no : ¬ (gw_ (xv_ (aTl_ (zT_ Z)) (aTX_ (zT_ Z) i)) value value q ∧ gw_ (xv_ (aTl_ (zT_ Z)) (aTX_ (zT_ Z) o)) its its q) → nk_M_both_25 i value o its k (bq_ (bp2_ (xv_ (aTl_ (zT_ Z)) (aTX_ (zT_ Z) i)) (xv_ (aTl_ (zT_ Z)) (aTX_ (zT_ Z) o)) value its) q.toNat).1 (q + 1) M R := by
        intro w
        have e : bp2_ (xv_ (aTl_ (zT_ Z)) (aTX_ (zT_ Z) i)) (xv_ (aTl_ (zT_ Z)) (aTX_ (zT_ Z) o)) value its q = false := decide_eq_false w
        rw [e, if_neg (by decide)] at ih
        exact ih hn
      refine ct_M_isWith kz j (ib_ix z1) ⟨q0, c⟩ (fun w1 => ?_) (fun w1 => ⟨fun _ => no (fun v => w1 v.1), fun w => absurd rfl w⟩)
      refine ⟨fun w => absurd w (by decide), fun _ => ?_⟩
      refine ct_M_isWith kz j (ib_ix z2) ⟨q0, c⟩ (fun w2 => ?_) (fun w2 => ⟨fun w => absurd rfl w, fun _ => no (fun v => w2 v.2)⟩)
      refine ⟨fun _ => ?_, fun w => absurd w (by decide)⟩
      have e : bp2_ (xv_ (aTl_ (zT_ Z)) (aTX_ (zT_ Z) i)) (xv_ (aTl_ (zT_ Z)) (aTX_ (zT_ Z) o)) value its q = true := decide_eq_true ⟨w1, w2⟩
      rw [e, if_pos rfl] at bm ih
      dsimp only at bm ih
      rw [mm_w_id (x := (bq_ (bp2_ (xv_ (aTl_ (zT_ Z)) (aTX_ (zT_ Z) i)) (xv_ (aTl_ (zT_ Z)) (aTX_ (zT_ Z) o)) value its) q.toNat).1 + 1) (by omega)]
      refine ⟨fun w => ih (by omega), fun w => ?_⟩
      have b2 := bm.2 k (by omega)
      rw [if_pos w.symm] at b2
      unfold an2_ at h1
      rw [if_neg (by omega), if_pos (by omega), b2] at h1
      exact h1
  exact L 0 (by omega) (Int.le_refl _) (by show k < 0 ∨ (0 : Int) ≤ k; omega)
