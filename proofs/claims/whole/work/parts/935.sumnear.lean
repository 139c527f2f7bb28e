/-! sum, near, both sides -/
theorem cZ_91 {M M' : mm_M} {Z : ab_Z} (f : fr_ (fun o _ => o = 91) M M') (k : cZ_ M 2 Z) : cZ_ M' 2 Z := ⟨cT_fr f (fun o b y y2 => by unfold sw_ at y; omega) k.1, cR_fr f (fun o b y y2 => by unfold crr_ at y; omega) k.2⟩
theorem mY_410 {M M' : mm_M} {bd : Int} {Z : ab_Z} (f : fr_ (fun o _ => o = 410) M M') (j : jZ_ bd Z) (k : mY_ bd M 0 Z) : mY_ bd M' 0 Z := mY_407 bk_0 f (fun c _ _ => by omega) j.2.1.2.2.2.2.1.2 j.2.2 k
/-- a sum over keys -/
def sq_ (p : Int → Bool) (c : Int → Int) : Nat → Int
  | 0 => 0
  | k + 1 => sq_ p c k + if p k = true then c k else 0
theorem sq_s (p : Int → Bool) (c : Int → Int) (k : Nat) : sq_ p c (k + 1) = sq_ p c k + if p k = true then c k else 0 := rfl
theorem sq_in {p : Int → Bool} {c : Int → Int} (h : ∀ k : Int, 0 ≤ c k ∧ c k < 16) : ∀ m : Nat, 0 ≤ sq_ p c m ∧ sq_ p c m ≤ 16 * m
  | 0 => ⟨Int.le_refl _, Int.le_refl _⟩
  | m + 1 => by
    have := sq_in (p := p) h m
    have := h m
    rw [sq_s]
    by_cases z : p m = true
    · rw [if_pos z]; omega
    · rw [if_neg z]; omega
theorem sm_s (st : Int → Int) (k : Nat) : sm_ st (k + 1) = sm_ st k + st k := rfl
theorem sm_upd {c F : Int → Int} {j v : Int} : ∀ {N : Nat}, 0 ≤ j → j < N → sm_ (fun i => c (if i = j then v else F i)) N = sm_ (fun i => c (F i)) N - c (F j) + c v
  | 0, h0, h1 => by omega
  | N + 1, h0, h1 => by
    rw [sm_s, sm_s]
    by_cases z : (N : Int) = j
    · rw [if_pos z, sm_cg (st := fun i => c (if i = j then v else F i)) (su := fun i => c (F i)) (fun i i0 i1 => by show c (if i = j then v else F i) = c (F i); rw [if_neg (by omega)]), z]; omega
    · rw [if_neg z, sm_upd (N := N) h0 (by omega)]; omega
theorem sm_gl {c : Int → Int} {vv : Int → Int} {key : Int} {N : Nat} : ∀ {p : Nat} {F : Int → Int}, p < N → sm_ (fun i => c (gl_ vv key p F i)) N = sm_ (fun i => c (F i)) N - c (F p) + c key
  | 0, F, h => by
    have := sm_upd (c := c) (F := F) (j := 0) (v := key) (N := N) (Int.le_refl _) (by omega)
    exact this
  | p + 1, F, h => by
    have e : gl_ vv key (p + 1) F = if vv key < vv (F (p : Int)) then gl_ vv key p (fun i => if i = (p : Int) + 1 then F (p : Int) else F i) else fun i => if i = (p : Int) + 1 then key else F i := rfl
    rw [e]
    by_cases w : vv key < vv (F (p : Int))
    · rw [if_pos w, sm_gl (p := p) (by omega)]
      have := sm_upd (c := c) (F := F) (j := (p : Int) + 1) (v := F p) (N := N) (by omega) (by omega)
      rw [this, if_neg (by omega), show ((p + 1 : Nat) : Int) = (p : Int) + 1 by omega]
      omega
    · rw [if_neg w]
      have := sm_upd (c := c) (F := F) (j := (p : Int) + 1) (v := key) (N := N) (by omega) (by omega)
      rw [show ((p + 1 : Nat) : Int) = (p : Int) + 1 by omega]
      exact this
theorem ga_s (vv : Int → Int) (low high : Int) (k : Nat) : ga_ vv low high (k + 1) = if gw_ vv low high k then ((ga_ vv low high k).1 + 1, gl_ vv k (ga_ vv low high k).1.toNat (ga_ vv low high k).2) else ga_ vv low high k := rfl
theorem ga_sum (vv c : Int → Int) (low high : Int) : ∀ k : Nat, sm_ (fun i => c ((ga_ vv low high k).2 i)) (ga_ vv low high k).1.toNat = sq_ (fun q => decide (gw_ vv low high q)) c k
  | 0 => rfl
  | k + 1 => by
    have ih := ga_sum vv c low high k
    have hs := (ga_spec vv low high k).1
    rw [sq_s, ga_s]
    by_cases z : gw_ vv low high k
    · rw [if_pos z, if_pos (decide_eq_true z)]
      dsimp only
      rw [show ((ga_ vv low high k).1 + 1).toNat = (ga_ vv low high k).1.toNat + 1 by omega, sm_gl (by omega), sm_s, ih]
      omega
    · rw [if_neg z, if_neg (by rw [decide_eq_true_eq]; exact z), ih]
      omega
def rw0_ (lat : ab_V) (k : Int) : Int := match lat k.toNat with
  | some p => p.2
  | none => 0
def suma_ (i low high col : Int) (Z : ab_Z) : Int := sq_ (fun q => decide (gw_ (xv_ (aTl_ (zT_ Z)) (aTX_ (zT_ Z) i)) low high q)) (fun q => co_ (rw0_ (aTl_ (zT_ Z)) q) col) 32
def sok_ (i col : Int) (Z : ab_Z) : Prop := ib2_ i Z ∧ 0 ≤ col ∧ col < 4
theorem ct_LI_sum {bd i low high col : Int} {Z : ab_Z} {M : mm_M} {R : Int → mm_M → Prop} (k : cZ_ M 2 Z) (j : jZ_ bd Z) (h1 : sok_ i col Z → R (suma_ i low high col Z) M) (h0 : ¬ sok_ i col Z → R (-1) M) : nr_LI_sum i low high col M R := by
  refine ng_LI_sum _ _ _ _ _ _ ?_
  refine ct_S_findBuilt k (fun z => ?_) (fun z => ?_)
  · exact ⟨fun _ => h0 (fun w => z w.1), fun w => absurd rfl w.1⟩
  refine ⟨fun w => h0 (fun v => ?_), fun w => ?_⟩
  · rcases w with w | w
    · omega
    · exact absurd w (k_col.mpr v.2)
  have hc := k_col.mp w.2
  have h1 := h1 ⟨z, hc⟩
  unfold suma_ at h1
  have vx := vv_at k z
  have hl : cv_ M 9 = aTl_ (zT_ Z) := k.1.1.2.1.1
  have hxr : ∀ q, xv_ (aTl_ (zT_ Z)) (aTX_ (zT_ Z) i) q ≠ -1 → ∃ p, aTl_ (zT_ Z) q.toNat = some p ∧ 0 ≤ p.2 ∧ p.2 < 65536 := fun q hq => by
    obtain ⟨p, p1, p2, _⟩ := xv_row j.1.1 hq
    exact ⟨p, p1, p2⟩
  generalize xv_ (aTl_ (zT_ Z)) (aTX_ (zT_ Z) i) = ux at *
  have L : ∀ q : Int, q ≤ 32 → 0 ≤ q → nk_LI_sum_31 low high col (2 + 90 + 15 * i.toNat) (sq_ (fun q => decide (gw_ ux low high q)) (fun q => co_ (rw0_ (aTl_ (zT_ Z)) q) col) q.toNat) q M R := by
    refine lp_up (fun q hq ih q0 => ?_)
    have hb := sq_in (p := fun q => decide (gw_ ux low high q)) (c := fun q => co_ (rw0_ (aTl_ (zT_ Z)) q) col) (fun q => co_in _ _) q.toNat
    refine ng_LI_sum_31 _ _ _ _ _ _ _ _ ⟨fun c => ?_, fun c => ?_⟩
    · rw [show q.toNat = 32 by omega]; exact h1
    · obtain ⟨x1, x0⟩ := hf_gw (low := low) (high := high) ⟨q0, c⟩ vx
      have ih := ih c (by omega)
      rw [show (q + 1).toNat = q.toNat + 1 by omega, sq_s, show ((q.toNat : Nat) : Int) = q by omega] at ih
      rw [x1, x0, mm_w_id (x := q + 1) (by omega)]
      refine ⟨nc_hasFrom ⟨q0, c⟩, fun w => ?_, fun w => ⟨by omega, ?_⟩⟩
      · rw [if_neg (by rw [decide_eq_true_eq]; exact w)] at ih
        rw [show sq_ (fun q => decide (gw_ ux low high q)) (fun q => co_ (rw0_ (aTl_ (zT_ Z)) q) col) q.toNat + 0 = sq_ (fun q => decide (gw_ ux low high q)) (fun q => co_ (rw0_ (aTl_ (zT_ Z)) q) col) q.toNat by omega] at ih
        exact ih
      · rw [if_pos (decide_eq_true w)] at ih
        obtain ⟨p, p1, p2, p3⟩ := hxr q w.1
        have e := cv_rd (M := M) (v := 9) ⟨q0, c⟩ ((hs1 ⟨q0, c⟩).mpr (by rw [hl, p1]; exact Option.some_ne_none p))
        rw [hl, p1] at e
        have e := Option.some.inj e
        have e10 : nn_ri M 10 q = rw0_ (aTl_ (zT_ Z)) q := by unfold rw0_; rw [p1, e]
        have hr : 0 ≤ rw0_ (aTl_ (zT_ Z)) q ∧ rw0_ (aTl_ (zT_ Z)) q < 65536 := by unfold rw0_; rw [p1]; exact ⟨p2, p3⟩
        have hco := co_in (rw0_ (aTl_ (zT_ Z)) q) col
        intro y ey
        rw [e10, nf_columnOf hr hc, mm_w_id (by omega)] at ey
        rw [ey]
        exact ih
  exact L 0 (by omega) (Int.le_refl _)
theorem ct_M_sum {bd i low high col : Int} {Z : ab_Z} {M : mm_M} {R : Int → mm_M → Prop} (k : mY_ bd M 0 Z) (j : jZ_ bd Z) (h1 : sok_ i col Z → ∀ M', fr_ (fun o _ => o = 410) M M' → R (suma_ i low high col Z) M') (h0 : ¬ sok_ i col Z → R (-1) M) : nr_M_sum i low high col M R := by
  obtain ⟨m1, m2⟩ := m_isBuilt (i := i) k j
  refine ng_M_sum _ _ _ _ _ _ ⟨m1, fun z => h0 (fun w => ?_), fun z => ?_⟩
  · rcases z with z | z
    · exact absurd z (m2.mpr w.1)
    · have := k_in0.mp z
      have := w.2
      omega
  have z1 := m2.mp z.1
  have hc := k_in.mp z.2
  have h1 := h1 ⟨z1, hc.1, by omega⟩
  have hx : 1784 ≤ xi_ 0 i ∧ xi_ 0 i + 855 ≤ 5204 := by have := z1.1; unfold xi_; omega
  obtain ⟨_, b1, _⟩ := (k.1.1.2.2 i z1.1.1 z1.1.2).2 (ib_ix z1).2
  refine ct_M_asks (T := zT_ Z) (X := aTX_ (zT_ Z) i) z1.1 k.1.1.1 j.1.1 b1 (fun M1 f1 g1 => ?_)
  have t1 : tM_ M1 0 (aTm_ (zT_ Z)) (aTn_ (zT_ Z)) (aTq_ (zT_ Z)) := tM_fr f1 bk_0 (fun c z y => by omega) k.1.1.1
  have h1 := h1 M1 f1
  unfold suma_ at h1
  rw [← ga_sum] at h1
  obtain ⟨s1, s2, s3, s4⟩ := ga_spec (xv_ (aTl_ (zT_ Z)) (aTX_ (zT_ Z) i)) low high 32
  have hxr : ∀ q, xv_ (aTl_ (zT_ Z)) (aTX_ (zT_ Z) i) q ≠ -1 → ∃ p, aTl_ (zT_ Z) q.toNat = some p ∧ 0 ≤ p.2 ∧ p.2 < 65536 := fun q hq => by
    obtain ⟨p, p1, p2, _⟩ := xv_row j.1.1 hq
    exact ⟨p, p1, p2⟩
  generalize xv_ (aTl_ (zT_ Z)) (aTX_ (zT_ Z) i) = ux at *
  generalize (ga_ ux low high 32).2 = F at *
  generalize (ga_ ux low high 32).1 = n at *
  have L : ∀ q : Int, q ≤ n → 0 ≤ q → nk_M_sum_36 col (sm_ (fun i => co_ (rw0_ (aTl_ (zT_ Z)) (F i)) col) q.toNat) n q M1 R := by
    refine lp_up (fun q hq ih q0 => ?_)
    have hb : 0 ≤ sm_ (fun i => co_ (rw0_ (aTl_ (zT_ Z)) (F i)) col) q.toNat ∧ sm_ (fun i => co_ (rw0_ (aTl_ (zT_ Z)) (F i)) col) q.toNat ≤ 16 * q := by
      have : ∀ m : Nat, 0 ≤ sm_ (fun i => co_ (rw0_ (aTl_ (zT_ Z)) (F i)) col) m ∧ sm_ (fun i => co_ (rw0_ (aTl_ (zT_ Z)) (F i)) col) m ≤ 16 * m := by
        intro m
        induction m with
        | zero => exact ⟨Int.le_refl _, Int.le_refl _⟩
        | succ m ih =>
          have := co_in (rw0_ (aTl_ (zT_ Z)) (F m)) col
          rw [sm_s]; omega
      have := this q.toNat
      omega
    refine ng_M_sum_36 _ _ _ _ _ _ ⟨fun c => ?_, fun c => ?_⟩
    · rw [show q.toNat = n.toNat by omega]; exact h1
    · have ih := ih c (by omega)
      rw [show (q + 1).toNat = q.toNat + 1 by omega, sm_s, show ((q.toNat : Nat) : Int) = q by omega] at ih
      obtain ⟨⟨a1, a2⟩, a3⟩ := s2 q q0 c
      obtain ⟨p, p1, p2, p3⟩ := hxr _ a3.1
      rw [g1 q q0 c, mm_w_id (x := q + 1) (by omega)]
      refine ⟨by omega, ?_⟩
      refine ct_M_rowOf bk_0 ⟨a1, by omega⟩ t1 p1 ?_
      have er : rw0_ (aTl_ (zT_ Z)) (F q) = p.2 := by unfold rw0_; rw [p1]
      have hco := co_in p.2 col
      intro y ey
      rw [nf_M_column' ⟨p2, p3⟩ ⟨hc.1, by omega⟩, mm_w_id (by omega)] at ey
      rw [ey]
      rw [er] at ih
      exact ih
  exact L 0 s1.1 (Int.le_refl _)
/-- near -/
def fa_ (vv : Int → Int) (value k : Int) : Int := max (vv k - value) (value - vv k)
def nm_ (vv : Int → Int) (value : Int) (F : Int → Int) : Nat → Int × Int
  | 0 => (-1, 0)
  | k + 1 => if (nm_ vv value F k).1 < 0 ∨ fa_ vv value (F k) < (nm_ vv value F k).2 then (F k, fa_ vv value (F k)) else nm_ vv value F k
theorem nm_s (vv : Int → Int) (value : Int) (F : Int → Int) (k : Nat) : nm_ vv value F (k + 1) = if (nm_ vv value F k).1 < 0 ∨ fa_ vv value (F k) < (nm_ vv value F k).2 then (F k, fa_ vv value (F k)) else nm_ vv value F k := rfl
theorem nm_char {vv : Int → Int} {value : Int} {F : Int → Int} : ∀ n : Nat, (∀ i : Int, 0 ≤ i → i < n → 0 ≤ F i) → (n = 0 ∧ nm_ vv value F n = (-1, 0)) ∨ ∃ a : Int, (0 ≤ a ∧ a < n) ∧ (nm_ vv value F n).1 = F a ∧ (nm_ vv value F n).2 = fa_ vv value (F a) ∧ ∀ i : Int, 0 ≤ i → i < n → fa_ vv value (F a) < fa_ vv value (F i) ∨ (fa_ vv value (F a) = fa_ vv value (F i) ∧ a ≤ i)
  | 0, _ => Or.inl ⟨rfl, rfl⟩
  | n + 1, hF => by
    rw [nm_s]
    rcases nm_char n (fun i i0 i1 => hF i i0 (by omega)) with ⟨e, e2⟩ | ⟨a, a0, a1, a2, a3⟩
    · rw [e2, if_pos (Or.inl (by decide))]
      refine Or.inr ⟨n, by omega, rfl, rfl, fun i i0 i1 => ?_⟩
      rw [show i = (n : Int) by omega]
      exact Or.inr ⟨rfl, Int.le_refl _⟩
    · rw [a1, a2]
      have := hF a a0.1 (by omega)
      by_cases z : fa_ vv value (F n) < fa_ vv value (F a)
      · rw [if_pos (Or.inr z)]
        refine Or.inr ⟨n, by omega, rfl, rfl, fun i i0 i1 => ?_⟩
        by_cases y : i = (n : Int)
        · rw [y]; exact Or.inr ⟨rfl, Int.le_refl _⟩
        · rcases a3 i i0 (by omega) with w | w
          · exact Or.inl (by omega)
          · exact Or.inl (by omega)
      · rw [if_neg (by omega)]
        refine Or.inr ⟨a, by omega, a1, a2, fun i i0 i1 => ?_⟩
        by_cases y : i = (n : Int)
        · rw [y]
          by_cases w : fa_ vv value (F a) = fa_ vv value (F n)
          · exact Or.inr ⟨w, by omega⟩
          · exact Or.inl (by omega)
        · exact a3 i i0 (by omega)
theorem nq_s (vv : Int → Int) (value : Int) (k : Nat) : nq_ vv value (k + 1) = if vv k ≠ -1 ∧ ((nq_ vv value k).1 = -1 ∨ fa_ vv value k < (nq_ vv value k).2 ∨ (fa_ vv value k = (nq_ vv value k).2 ∧ vv k < vv (nq_ vv value k).1)) then ((k : Int), fa_ vv value k) else nq_ vv value k := rfl
theorem nq_char {vv : Int → Int} {value : Int} : ∀ n : Nat, ((nq_ vv value n).1 = -1 ∧ ∀ q : Int, 0 ≤ q → q < n → vv q = -1) ∨ ((0 ≤ (nq_ vv value n).1 ∧ (nq_ vv value n).1 < n) ∧ vv (nq_ vv value n).1 ≠ -1 ∧ (nq_ vv value n).2 = fa_ vv value (nq_ vv value n).1 ∧ ∀ q : Int, 0 ≤ q → q < n → vv q ≠ -1 → fa_ vv value (nq_ vv value n).1 < fa_ vv value q ∨ (fa_ vv value (nq_ vv value n).1 = fa_ vv value q ∧ (vv (nq_ vv value n).1 < vv q ∨ (vv (nq_ vv value n).1 = vv q ∧ (nq_ vv value n).1 ≤ q))))
  | 0 => Or.inl ⟨rfl, fun q q0 q1 => by omega⟩
  | n + 1 => by
    rw [nq_s]
    rcases nq_char n with ⟨e, e2⟩ | ⟨a0, a1, a2, a3⟩
    · by_cases z : vv n = -1
      · rw [if_neg (fun w => w.1 z)]
        refine Or.inl ⟨e, fun q q0 q1 => ?_⟩
        by_cases y : q = (n : Int)
        · rw [y]; exact z
        · exact e2 q q0 (by omega)
      · rw [if_pos ⟨z, Or.inl e⟩]
        refine Or.inr ⟨by dsimp only; omega, z, rfl, fun q q0 q1 hq => ?_⟩
        by_cases y : q = (n : Int)
        · rw [y]; exact Or.inr ⟨rfl, Or.inr ⟨rfl, Int.le_refl _⟩⟩
        · exact absurd (e2 q q0 (by omega)) hq
    · by_cases z : vv n ≠ -1 ∧ ((nq_ vv value n).1 = -1 ∨ fa_ vv value n < (nq_ vv value n).2 ∨ (fa_ vv value n = (nq_ vv value n).2 ∧ vv n < vv (nq_ vv value n).1))
      · rw [if_pos z]
        refine Or.inr ⟨by dsimp only; omega, z.1, rfl, fun q q0 q1 hq => ?_⟩
        dsimp only
        by_cases y : q = (n : Int)
        · rw [y]; exact Or.inr ⟨rfl, Or.inr ⟨rfl, Int.le_refl _⟩⟩
        · have h3 := a3 q q0 (by omega) hq
          have h4 := z.2.resolve_left (by omega)
          rw [a2] at h4
          omega
      · rw [if_neg z]
        refine Or.inr ⟨by omega, a1, a2, fun q q0 q1 hq => ?_⟩
        by_cases y : q = (n : Int)
        · rw [y] at hq ⊢
          have h4 : ¬ (fa_ vv value n < (nq_ vv value n).2 ∨ (fa_ vv value n = (nq_ vv value n).2 ∧ vv n < vv (nq_ vv value n).1)) := fun w => z ⟨hq, Or.inr w⟩
          rw [a2] at h4
          omega
        · exact a3 q q0 (by omega) hq
theorem near_eq {vv : Int → Int} {value : Int} (hv : ∀ q, -1 ≤ vv q ∧ vv q ≤ 9999) : (nm_ vv value (ga_ vv 0 9999 32).2 (ga_ vv 0 9999 32).1.toNat).1 = (nq_ vv value 32).1 := by
  obtain ⟨s1, s2, s3, s4⟩ := ga_spec vv 0 9999 32
  generalize (ga_ vv 0 9999 32).2 = F at *
  generalize (ga_ vv 0 9999 32).1 = n at *
  have gw : ∀ q, vv q ≠ -1 → gw_ vv 0 9999 q := fun q hq => ⟨hq, by have := hv q; omega, (hv q).2⟩
  rcases nm_char (vv := vv) (value := value) (F := F) n.toNat (fun i i0 i1 => (s2 i i0 (by omega)).1.1) with ⟨e, e2⟩ | ⟨a, a0, a1, a2, a3⟩
  · rw [e2]
    rcases nq_char (vv := vv) (value := value) 32 with ⟨c, _⟩ | ⟨c0, c1, c2, c3⟩
    · exact c.symm
    · obtain ⟨i, i0, i1, _⟩ := s4 _ c0.1 c0.2 (gw _ c1)
      omega
  · rw [a1]
    obtain ⟨b1, b2⟩ := s2 a a0.1 (by omega)
    rcases nq_char (vv := vv) (value := value) 32 with ⟨c, c'⟩ | ⟨c0, c1, c2, c3⟩
    · exact absurd (c' (F a) b1.1 b1.2) b2.1
    · obtain ⟨i, i0, i1, i2⟩ := s4 _ c0.1 c0.2 (gw _ c1)
      have h1 := c3 (F a) b1.1 b1.2 b2.1
      have h2 := a3 i i0 (by omega)
      rw [i2] at h2
      by_cases y : a = i
      · rw [y]; exact i2
      · by_cases w : a < i
        · have h3 := s3 a i a0.1 w i1
          unfold bf_ at h3
          rw [i2] at h3
          omega
        · omega
theorem nq_cg {vv ww : Int → Int} {value : Int} (h : ∀ k, 0 ≤ k → k < 32 → vv k = ww k) : ∀ {n : Nat}, n ≤ 32 → nq_ vv value n = nq_ ww value n
  | 0, _ => rfl
  | n + 1, hn => by
    have ih := nq_cg (value := value) h (n := n) (by omega)
    have hin := nq_in ww value n
    rw [nq_s, nq_s, ih]
    unfold fa_
    rw [h n (by omega) (by omega)]
    rcases hin with e | e
    · rw [e]
      by_cases z : ww n = -1
      · rw [if_neg (fun w => w.1 z), if_neg (fun w => w.1 z)]
      · rw [if_pos ⟨z, Or.inl rfl⟩, if_pos ⟨z, Or.inl rfl⟩]
    · rw [h (nq_ ww value n).1 e.1 (by omega)]
def neara_ (i value : Int) (Z : ab_Z) : Int := (nq_ (xv_ (aTl_ (zT_ Z)) (aTX_ (zT_ Z) i)) value 32).1
theorem xv_b {bd i : Int} {Z : ab_Z} (j : jZ_ bd Z) (h : ix_ i Z) (q : Int) : -1 ≤ xv_ (aTl_ (zT_ Z)) (aTX_ (zT_ Z) i) q ∧ xv_ (aTl_ (zT_ Z)) (aTX_ (zT_ Z) i) q ≤ 6000 := by
  obtain ⟨_, ⟨q1, _⟩, _⟩ := j.1.2.2.2.2 i h.1.1 h.1.2 h.2
  have := xv_in (X := aTX_ (zT_ Z) i) j.1.1 q1 q
  exact ⟨this.1, this.2.1⟩
theorem ct_LI_near {bd i value : Int} {Z : ab_Z} {M : mm_M} {R : Int → mm_M → Prop} (hv : -2147483648 ≤ value ∧ value < 2147483648) (k : cZ_ M 2 Z) (j : jZ_ bd Z) (h1 : ib2_ i Z → R (neara_ i value Z) M) (h0 : ¬ ib2_ i Z → R (-1) M) : nr_LI_near i value M R := by
  refine ng_LI_near _ _ _ _ ?_
  refine ct_S_findBuilt k (fun z => ?_) (fun z => ?_)
  · exact ⟨fun w => absurd rfl w, fun _ => h0 z⟩
  refine ⟨fun _ => ?_, fun w => by omega⟩
  have vx := vv_at k z
  have h1 := h1 z
  unfold neara_ at h1
  refine ct_I_nearest hv (fun q q0 q1 => ?_) ?_
  · rw [vx q q0 q1]
    have := xv_b j (ib_ix z) q
    omega
  · rw [nq_cg (ww := xv_ (aTl_ (zT_ Z)) (aTX_ (zT_ Z) i)) vx (Nat.le_refl _)]
    exact h1
theorem lcmp_lt (x y : Int) : mm_lcmp x y < 0 ↔ x < y := by
  unfold mm_lcmp
  by_cases z : x < y
  · rw [if_pos z]; exact ⟨fun _ => z, fun _ => by decide⟩
  · rw [if_neg z]
    by_cases w : y < x
    · rw [if_pos w]; exact ⟨fun q => absurd q (by decide), fun q => absurd q z⟩
    · rw [if_neg w]; exact ⟨fun q => absurd q (by decide), fun q => absurd q z⟩
theorem lcmp_ge (x y : Int) : 0 ≤ mm_lcmp x y ↔ y ≤ x := by rw [← Int.not_lt, lcmp_lt, Int.not_lt]
theorem ct_M_near {bd i value : Int} {Z : ab_Z} {M : mm_M} {R : Int → mm_M → Prop} (hv : -2147483648 ≤ value ∧ value < 2147483648) (k : mY_ bd M 0 Z) (j : jZ_ bd Z) (h1 : ib2_ i Z → ∀ M', fr_ (fun o _ => o = 410) M M' → R (neara_ i value Z) M') (h0 : ¬ ib2_ i Z → R (-1) M) : nr_M_near i value M R := by
  obtain ⟨m1, m2⟩ := m_isBuilt (i := i) k j
  refine ng_M_near _ _ _ _ ⟨m1, fun z => ?_, fun z => h0 (fun w => absurd z (m2.mpr w))⟩
  have z1 := m2.mp z
  have h1 := h1 z1
  have hx : 1784 ≤ xi_ 0 i ∧ xi_ 0 i + 855 ≤ 5204 := by have := z1.1; unfold xi_; omega
  have xb := xv_b j (ib_ix z1)
  obtain ⟨_, b1, _⟩ := (k.1.1.2.2 i z1.1.1 z1.1.2).2 (ib_ix z1).2
  refine ct_M_asks (T := zT_ Z) (X := aTX_ (zT_ Z) i) z1.1 k.1.1.1 j.1.1 b1 (fun M1 f1 g1 => ?_)
  have t1 : tM_ M1 0 (aTm_ (zT_ Z)) (aTn_ (zT_ Z)) (aTq_ (zT_ Z)) := tM_fr f1 bk_0 (fun c z y => by omega) k.1.1.1
  have b2 : rlM_ M1 (xi_ 0 i) (xu_ (aTX_ (zT_ Z) i)) := rlM_cg (fun q z0 z1 => fr_ri f1 (fun y => by omega)) b1
  have h1 := h1 M1 f1
  unfold neara_ at h1
  have ne := near_eq (vv := xv_ (aTl_ (zT_ Z)) (aTX_ (zT_ Z) i)) (value := value) (fun q => by have := xb q; omega)
  rw [← ne] at h1
  obtain ⟨s1, s2, s3, s4⟩ := ga_spec (xv_ (aTl_ (zT_ Z)) (aTX_ (zT_ Z) i)) 0 9999 32
  generalize hvv : xv_ (aTl_ (zT_ Z)) (aTX_ (zT_ Z) i) = ux at *
  have hvv : xv_ (lk_ (aTm_ (zT_ Z)) (aTn_ (zT_ Z)) (aTq_ (zT_ Z))) (aTX_ (zT_ Z) i) = ux := hvv
  generalize (ga_ ux 0 9999 32).2 = F at *
  generalize (ga_ ux 0 9999 32).1 = n at *
  have L : ∀ q : Int, q ≤ n → 0 ≤ q → nk_M_near_30 i value (nm_ ux value F q.toNat).1 (nm_ ux value F q.toNat).2 n q M1 R := by
    refine lp_up (fun q hq ih q0 => ?_)
    refine ng_M_near_30 _ _ _ _ _ _ _ _ ⟨fun c => ?_, fun c => ?_⟩
    · rw [show q.toNat = n.toNat by omega]; exact h1
    · have ih := ih c (by omega)
      rw [show (q + 1).toNat = q.toNat + 1 by omega, nm_s, show ((q.toNat : Nat) : Int) = q by omega] at ih
      obtain ⟨⟨a1, a2⟩, a3⟩ := s2 q q0 c
      have hb := xb (F q)
      rw [g1 q q0 c, mm_w_id (x := q + 1) (by omega), at0 z1.1]
      refine ⟨by omega, ?_⟩
      refine ct_M_rv (X := aTX_ (zT_ Z) i) bk_0 ⟨by omega, by omega⟩ ⟨a1, by omega⟩ t1 j.1.1 b2 (by rw [hvv]; exact a3.1) ?_
      rw [hvv, mm_w64_id (x := ux (F q) - value) (by omega), mm_w64_id (x := -(ux (F q) - value)) (by omega), g1 q q0 c]
      simp only [lcmp_lt, lcmp_ge]
      have step : ∀ far, far = fa_ ux value (F q) → ((((nm_ ux value F q.toNat).1 < 0) → ((0 : Int) ≤ q ∧ q < (32 : Int))) ∧ ((0 ≤ (nm_ ux value F q.toNat).1) ∧ (far < (nm_ ux value F q.toNat).2) → ((0 : Int) ≤ q ∧ q < (32 : Int))) ∧ (((nm_ ux value F q.toNat).1 < 0 ∨ (far < (nm_ ux value F q.toNat).2)) → nk_M_near_30 i value (F q) far n (q + 1) M1 R) ∧ ((0 ≤ (nm_ ux value F q.toNat).1 ∧ ((nm_ ux value F q.toNat).2 ≤ far)) → nk_M_near_30 i value (nm_ ux value F q.toNat).1 (nm_ ux value F q.toNat).2 n (q + 1) M1 R)) := by
        intro far ef
        refine ⟨fun _ => by omega, fun _ => by omega, fun w => ?_, fun w => ?_⟩
        · rw [← ef, if_pos w] at ih; exact ih
        · rw [← ef, if_neg (by omega)] at ih; exact ih
      refine ⟨fun w => step (ux (F q) - value) (by unfold fa_; omega), fun w => ?_⟩
      intro y ey
      rw [ey]
      exact step (-(ux (F q) - value)) (by unfold fa_; omega)
  exact L 0 s1.1 (Int.le_refl _)
