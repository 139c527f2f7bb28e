/-! unused and crowded values, both sides -/
def hv_ (vv : Int → Int) (v : Int) : Int := ct_ (fun k => vv k == v) 0 32
theorem hv_pos {vv : Int → Int} {v : Int} : 0 < hv_ vv v ↔ ∃ k, 0 ≤ k ∧ k < 32 ∧ vv k = v := by
  constructor
  · intro h
    by_cases z : ∃ k, 0 ≤ k ∧ k < 32 ∧ vv k = v
    · exact z
    · exfalso
      have : hv_ vv v = 0 := ct_0 (fun i i0 i1 => by
        show (vv i == v) = false
        rw [beq_eq_false_iff_ne]
        intro e
        exact z ⟨i, i0, by omega, e⟩)
      omega
  · rintro ⟨k, k0, k1, e⟩
    exact ct_pos k0 (by omega) (beq_iff_eq.mpr e)
theorem sm_le2 {a b : Int → Int} : ∀ {n : Nat}, (∀ i : Int, 0 ≤ i → i < n → a i ≤ b i) → sm_ a n ≤ sm_ b n
  | 0, _ => Int.le_refl _
  | n + 1, h => by
    have := sm_le2 (n := n) (fun i i0 i1 => h i i0 (by omega))
    have := h n (by omega) (by omega)
    rw [sm_s, sm_s]; omega
theorem sm_one (n : Nat) : sm_ (fun _ => 1) n = n := by
  induction n with
  | zero => rfl
  | succ n ih => rw [sm_s, ih]; omega
theorem sm_ind (x : Int) : ∀ m : Nat, sm_ (fun v => if x = v then 1 else 0) m ≤ 1 ∧ ((m : Int) ≤ x ∨ x < 0 → sm_ (fun v => if x = v then 1 else 0) m = 0)
  | 0 => ⟨by show (0 : Int) ≤ 1; omega, fun _ => rfl⟩
  | m + 1 => by
    obtain ⟨h1, h2⟩ := sm_ind x m
    rw [sm_s]
    by_cases z : x = (m : Int)
    · have := h2 (Or.inl (by omega))
      rw [if_pos z]
      exact ⟨by omega, fun w => by omega⟩
    · rw [if_neg z]
      exact ⟨by omega, fun w => by have := h2 (by omega); omega⟩
theorem sm_ct (vv : Int → Int) (m : Nat) : ∀ n : Nat, sm_ (fun v => ct_ (fun k => vv k == v) 0 n) m ≤ n
  | 0 => by
    have : sm_ (fun v => ct_ (fun k => vv k == v) 0 0) m = 0 := by
      induction m with
      | zero => rfl
      | succ m ih => rw [sm_s, ih]; rfl
    rw [this]; omega
  | n + 1 => by
    have ih := sm_ct vv m n
    have e : sm_ (fun v => ct_ (fun k => vv k == v) 0 (n + 1)) m = sm_ (fun v => ct_ (fun k => vv k == v) 0 n) m + sm_ (fun v => if vv n = v then 1 else 0) m := by
      have : ∀ m : Nat, sm_ (fun v => ct_ (fun k => vv k == v) 0 (n + 1)) m = sm_ (fun v => ct_ (fun k => vv k == v) 0 n) m + sm_ (fun v => if vv n = v then 1 else 0) m := by
        intro m
        induction m with
        | zero => rfl
        | succ m ih =>
          rw [sm_s, sm_s, sm_s, ih, ct_s]
          rw [show (0 : Int) + (n : Int) = (n : Int) by omega]
          by_cases z : vv n = (m : Int)
          · rw [if_pos (beq_iff_eq.mpr z), if_pos z]; omega
          · rw [if_neg (fun y => z (beq_iff_eq.mp y)), if_neg z]; omega
      exact this m
    have := (sm_ind (vv n) m).1
    omega
/-- one value of 0 .. 32 no key has -/
theorem unused_some (vv : Int → Int) : ∃ v : Int, 0 ≤ v ∧ v ≤ 32 ∧ hv_ vv v = 0 := by
  by_cases z : ∃ v : Int, 0 ≤ v ∧ v ≤ 32 ∧ hv_ vv v = 0
  · exact z
  · exfalso
    have h1 := sm_ct vv 33 32
    have h2 : sm_ (fun _ => 1) 33 ≤ sm_ (fun v => ct_ (fun k => vv k == v) 0 32) 33 := sm_le2 (fun i i0 i1 => by
      have h := ct_in (fun k => vv k == i) 0 32
      have : ct_ (fun k => vv k == i) 0 32 ≠ 0 := fun w => z ⟨i, i0, by omega, w⟩
      show (1 : Int) ≤ ct_ (fun k => vv k == i) 0 32
      omega)
    rw [sm_one] at h2
    omega
theorem an_hv {vv : Int → Int} {v : Int} : an_ vv v (-1) = -1 ↔ hv_ vv v = 0 := by
  have h := ct_in (fun k => vv k == v) 0 32
  have hp := hv_pos (vv := vv) (v := v)
  unfold hv_ at hp ⊢
  rcases an_spec vv v (-1) with ⟨e, w⟩ | ⟨w0, w1, w2, w3, w4⟩
  · refine ⟨fun _ => ?_, fun _ => e⟩
    by_cases z : 0 < ct_ (fun k => vv k == v) 0 32
    · obtain ⟨k, k0, k1, k2⟩ := hp.mp z
      exact absurd k2 (w k k0 k1 (by omega))
    · omega
  · refine ⟨fun z => by omega, fun z => ?_⟩
    have := hp.mpr ⟨_, w0, w1, w3⟩
    omega
theorem uu_char (vv : Int → Int) : (0 ≤ uu_ vv ∧ uu_ vv ≤ 32 ∧ hv_ vv (uu_ vv) = 0) ∧ ∀ v, 0 ≤ v → v < uu_ vv → 0 < hv_ vv v := by
  have L : ∀ i : Int, i ≤ 32 → 0 ≤ i → (∀ v, 0 ≤ v → v < i → 0 < hv_ vv v) → (if ff_ (fun v => decide (an_ vv v (-1) = -1)) (32 - i).toNat i = -1 then (32 : Int) else ff_ (fun v => decide (an_ vv v (-1) = -1)) (32 - i).toNat i) = uu_ vv → (0 ≤ uu_ vv ∧ uu_ vv ≤ 32 ∧ hv_ vv (uu_ vv) = 0) ∧ ∀ v, 0 ≤ v → v < uu_ vv → 0 < hv_ vv v := by
    refine lp_up (fun i hi ih h0 hl hR => ?_)
    by_cases c : i = 32
    · rw [c] at hR hl
      have e : uu_ vv = 32 := hR.symm
      rw [e]
      refine ⟨⟨by omega, by omega, ?_⟩, hl⟩
      obtain ⟨v, v0, v1, v2⟩ := unused_some vv
      by_cases y : v = 32
      · rw [y] at v2; exact v2
      · have := hl v v0 (by omega); omega
    · rw [ff_up (m := 32) (by omega) h0] at hR
      by_cases z : an_ vv i (-1) = -1
      · rw [if_pos (decide_eq_true z), if_neg (by omega)] at hR
        rw [← hR]
        exact ⟨⟨h0, hi, an_hv.mp z⟩, hl⟩
      · rw [if_neg (c := decide (an_ vv i (-1) = -1) = true) (by rw [decide_eq_true_eq]; exact z)] at hR
        refine ih (by omega) (by omega) (fun v v0 v1 => ?_) hR
        by_cases y : v = i
        · rw [y]
          have h := ct_in (fun k => vv k == i) 0 32
          have : hv_ vv i ≠ 0 := fun w => z (an_hv.mpr w)
          unfold hv_ at this ⊢
          omega
        · exact hl v v0 (by omega)
  exact L 0 (by omega) (Int.le_refl _) (fun v v0 v1 => by omega) rfl
theorem uu_cg {vv ww : Int → Int} (h : ∀ k, 0 ≤ k → k < 32 → vv k = ww k) : uu_ vv = uu_ ww := by
  have e : (fun v => decide (an_ vv v (-1) = -1)) = fun v => decide (an_ ww v (-1) = -1) := by
    funext v
    rw [an_cg h]
  unfold uu_
  rw [e]
theorem cr_s (vv : Int → Int) (k : Nat) : cr_ vv (k + 1) = if vv k ≠ -1 ∧ ((cr_ vv k).2 < hv_ vv (vv k) ∨ (hv_ vv (vv k) = (cr_ vv k).2 ∧ vv k < (cr_ vv k).1)) then (vv k, hv_ vv (vv k)) else cr_ vv k := rfl
theorem hv_cg {vv ww : Int → Int} (h : ∀ k, 0 ≤ k → k < 32 → vv k = ww k) (v : Int) : hv_ vv v = hv_ ww v := ct_cg (fun i i0 i1 => by rw [h i i0 (by omega)])
theorem cr_cg {vv ww : Int → Int} (h : ∀ k, 0 ≤ k → k < 32 → vv k = ww k) : ∀ {n : Nat}, n ≤ 32 → cr_ vv n = cr_ ww n
  | 0, _ => rfl
  | n + 1, hn => by rw [cr_s, cr_s, cr_cg h (n := n) (by omega), h n (by omega) (by omega), hv_cg h]
theorem cr_char {vv : Int → Int} : ∀ n : Nat, n ≤ 32 → (cr_ vv n = (-1, 0) ∧ ∀ q : Int, 0 ≤ q → q < n → vv q = -1) ∨ ((∃ q : Int, 0 ≤ q ∧ q < n ∧ vv q = (cr_ vv n).1) ∧ (cr_ vv n).1 ≠ -1 ∧ (cr_ vv n).2 = hv_ vv (cr_ vv n).1 ∧ ∀ q : Int, 0 ≤ q → q < n → vv q ≠ -1 → hv_ vv (vv q) < (cr_ vv n).2 ∨ (hv_ vv (vv q) = (cr_ vv n).2 ∧ (cr_ vv n).1 ≤ vv q))
  | 0, _ => Or.inl ⟨rfl, fun q q0 q1 => by omega⟩
  | n + 1, hn => by
    rw [cr_s]
    rcases cr_char n (by omega) with ⟨e, e2⟩ | ⟨⟨a, a0, a1, a2⟩, b, c, d⟩
    · by_cases z : vv n = -1
      · rw [if_neg (fun w => w.1 z)]
        refine Or.inl ⟨e, fun q q0 q1 => ?_⟩
        by_cases y : q = (n : Int)
        · rw [y]; exact z
        · exact e2 q q0 (by omega)
      · have hp : 0 < hv_ vv (vv n) := hv_pos.mpr ⟨n, by omega, by omega, rfl⟩
        rw [e]
        rw [if_pos ⟨z, Or.inl hp⟩]
        refine Or.inr ⟨⟨n, by omega, by omega, rfl⟩, z, rfl, fun q q0 q1 hq => ?_⟩
        by_cases y : q = (n : Int)
        · rw [y]; exact Or.inr ⟨rfl, Int.le_refl _⟩
        · exact absurd (e2 q q0 (by omega)) hq
    · by_cases z : vv n ≠ -1 ∧ ((cr_ vv n).2 < hv_ vv (vv n) ∨ (hv_ vv (vv n) = (cr_ vv n).2 ∧ vv n < (cr_ vv n).1))
      · rw [if_pos z]
        refine Or.inr ⟨⟨n, by omega, by omega, rfl⟩, z.1, rfl, fun q q0 q1 hq => ?_⟩
        dsimp only
        by_cases y : q = (n : Int)
        · rw [y]; exact Or.inr ⟨rfl, Int.le_refl _⟩
        · have := d q q0 (by omega) hq
          have := z.2
          omega
      · rw [if_neg z]
        refine Or.inr ⟨⟨a, a0, by omega, a2⟩, b, c, fun q q0 q1 hq => ?_⟩
        by_cases y : q = (n : Int)
        · rw [y] at hq ⊢
          have : ¬ ((cr_ vv n).2 < hv_ vv (vv n) ∨ (hv_ vv (vv n) = (cr_ vv n).2 ∧ vv n < (cr_ vv n).1)) := fun w => z ⟨hq, w⟩
          omega
        · exact d q q0 (by omega) hq
/-- as the Model looks for it -/
def mc_r (vv : Int → Int) (F : Int → Int) : Nat → Int
  | 0 => -1
  | k + 1 => if mc_r vv F k = -1 then vv (F k) else if hv_ vv (mc_r vv F k) < hv_ vv (vv (F k)) then vv (F k) else mc_r vv F k
theorem mc_s (vv F : Int → Int) (k : Nat) : mc_r vv F (k + 1) = if mc_r vv F k = -1 then vv (F k) else if hv_ vv (mc_r vv F k) < hv_ vv (vv (F k)) then vv (F k) else mc_r vv F k := rfl
theorem mc_char {vv F : Int → Int} : ∀ n : Nat, (∀ i : Int, 0 ≤ i → i < n → vv (F i) ≠ -1) → (n = 0 ∧ mc_r vv F n = -1) ∨ ∃ a : Int, (0 ≤ a ∧ a < n) ∧ mc_r vv F n = vv (F a) ∧ ∀ i : Int, 0 ≤ i → i < n → hv_ vv (vv (F i)) < hv_ vv (vv (F a)) ∨ (hv_ vv (vv (F i)) = hv_ vv (vv (F a)) ∧ a ≤ i)
  | 0, _ => Or.inl ⟨rfl, rfl⟩
  | n + 1, h => by
    rw [mc_s]
    rcases mc_char n (fun i i0 i1 => h i i0 (by omega)) with ⟨e, e2⟩ | ⟨a, a0, a1, a2⟩
    · rw [if_pos e2]
      refine Or.inr ⟨n, by omega, rfl, fun i i0 i1 => ?_⟩
      rw [show i = (n : Int) by omega]
      exact Or.inr ⟨rfl, Int.le_refl _⟩
    · rw [a1, if_neg (h a a0.1 (by omega))]
      by_cases z : hv_ vv (vv (F a)) < hv_ vv (vv (F n))
      · rw [if_pos z]
        refine Or.inr ⟨n, by omega, rfl, fun i i0 i1 => ?_⟩
        by_cases y : i = (n : Int)
        · rw [y]; exact Or.inr ⟨rfl, Int.le_refl _⟩
        · have := a2 i i0 (by omega)
          exact Or.inl (by omega)
      · rw [if_neg z]
        refine Or.inr ⟨a, by omega, rfl, fun i i0 i1 => ?_⟩
        by_cases y : i = (n : Int)
        · rw [y]; omega
        · exact a2 i i0 (by omega)
theorem crowd_eq {vv : Int → Int} (hv : ∀ q, -1 ≤ vv q ∧ vv q ≤ 9999) : mc_r vv (ga_ vv 0 9999 32).2 (ga_ vv 0 9999 32).1.toNat = (cr_ vv 32).1 ∧ (cr_ vv 32).2 = (if (cr_ vv 32).1 = -1 then 0 else hv_ vv (cr_ vv 32).1) := by
  obtain ⟨s1, s2, s3, s4⟩ := ga_spec vv 0 9999 32
  generalize (ga_ vv 0 9999 32).2 = F at *
  generalize (ga_ vv 0 9999 32).1 = n at *
  have gw : ∀ q, vv q ≠ -1 → gw_ vv 0 9999 q := fun q hq => ⟨hq, by have := hv q; omega, (hv q).2⟩
  rcases cr_char (vv := vv) 32 (Nat.le_refl _) with ⟨c, c'⟩ | ⟨⟨a, a0, a1, a2⟩, b, cc, d⟩
  · refine ⟨?_, by rw [c]; rfl⟩
    rw [c]
    rcases mc_char (vv := vv) (F := F) n.toNat (fun i i0 i1 => (s2 i i0 (by omega)).2.1) with ⟨e, e2⟩ | ⟨a, a0, a1, a2⟩
    · exact e2
    · obtain ⟨b1, b2⟩ := s2 a a0.1 (by omega)
      exact absurd (c' (F a) b1.1 b1.2) b2.1
  · refine ⟨?_, by rw [if_neg b]; exact cc⟩
    have ha : vv a ≠ -1 := by rw [a2]; exact b
    obtain ⟨i, i0, i1, i2⟩ := s4 a a0 a1 (gw _ ha)
    rcases mc_char (vv := vv) (F := F) n.toNat (fun i i0 i1 => (s2 i i0 (by omega)).2.1) with ⟨e, e2⟩ | ⟨a', a0', a1', a2'⟩
    · omega
    · rw [a1']
      obtain ⟨b1, b2⟩ := s2 a' a0'.1 (by omega)
      have h1 := d (F a') b1.1 b1.2 b2.1
      have h2 := a2' i i0 (by omega)
      rw [i2, a2] at h2
      rw [cc] at h1
      by_cases y : a' = i
      · rw [y, i2]; exact a2
      · by_cases w : a' < i
        · have h3 := s3 a' i a0'.1 w i1
          unfold bf_ at h3
          rw [i2, a2] at h3
          omega
        · omega
theorem hv_gw {vv : Int → Int} {v : Int} (hv : v ≠ -1) : hv_ vv v = ct_ (fun k => decide (gw_ vv v v k)) 0 32 := ct_cg (fun i _ _ => by
  rw [Bool.eq_iff_iff, beq_iff_eq, decide_eq_true_eq]
  unfold gw_
  exact ⟨fun e => by omega, fun e => by omega⟩)
theorem ct_M_withValue {bd i v : Int} {Z : ab_Z} {M : mm_M} {R : Int → mm_M → Prop} (hv : v ≠ -1) (k : mY_ bd M 0 Z) (j : jZ_ bd Z) (hi : ix_ i Z) (h : R (hv_ (xv_ (aTl_ (zT_ Z)) (aTX_ (zT_ Z) i)) v) M) : nr_M_withValue i v M R := by
  rw [hv_gw hv] at h
  refine ng_M_withValue _ _ _ _ ?_
  have L : ∀ q : Int, q ≤ 32 → 0 ≤ q → nk_M_withValue_5 i v (ct_ (fun k => decide (gw_ (xv_ (aTl_ (zT_ Z)) (aTX_ (zT_ Z) i)) v v k)) 0 q.toNat) q M R := by
    refine lp_up (fun q hq ih q0 => ?_)
    have hc := ct_in (fun k => decide (gw_ (xv_ (aTl_ (zT_ Z)) (aTX_ (zT_ Z) i)) v v k)) 0 q.toNat
    refine ng_M_withValue_5 _ _ _ _ _ _ ⟨fun c => ?_, fun c => ?_⟩
    · rw [show q.toNat = 32 by omega]; exact h
    have ih := ih c (by omega)
    rw [show (q + 1).toNat = q.toNat + 1 by omega, ct_s, show (0 : Int) + ((q.toNat : Nat) : Int) = q by omega] at ih
    rw [mm_w_id (x := q + 1) (by omega), mm_w_id (x := _ + (0 : Int)) (by omega), mm_w_id (x := _ + (1 : Int)) (by omega)]
    refine ct_M_isWith k j hi ⟨q0, c⟩ (fun w => ?_) (fun w => ?_)
    · rw [if_pos (decide_eq_true w)] at ih
      exact ⟨fun y => absurd y (by decide), fun _ => ih⟩
    · rw [if_neg (by rw [decide_eq_true_eq]; exact w)] at ih
      exact ⟨fun _ => ih, fun y => absurd rfl y⟩
  exact L 0 (by omega) (Int.le_refl _)
theorem ct_M_unused {bd i : Int} {Z : ab_Z} {M : mm_M} {R : Int → mm_M → Prop} (k : mY_ bd M 0 Z) (j : jZ_ bd Z) (hi : ix_ i Z) (h : R (uu_ (xv_ (aTl_ (zT_ Z)) (aTX_ (zT_ Z) i))) M) : nr_M_unused i M R := by
  obtain ⟨⟨u1, u2, u3⟩, u4⟩ := uu_char (xv_ (aTl_ (zT_ Z)) (aTX_ (zT_ Z) i))
  refine ng_M_unused _ _ _ ?_
  have L : ∀ v : Int, v ≤ uu_ (xv_ (aTl_ (zT_ Z)) (aTX_ (zT_ Z) i)) → 0 ≤ v → nk_M_unused_2 i v M R := by
    refine lp_up (fun v hv ih v0 => ?_)
    refine ng_M_unused_2 _ _ _ _ ?_
    refine ct_M_withValue (by omega) k j hi ?_
    rw [mm_w_id (x := v + 1) (by omega)]
    refine ⟨fun w => ?_, fun w => ?_⟩
    · have : v = uu_ (xv_ (aTl_ (zT_ Z)) (aTX_ (zT_ Z) i)) := by
        by_cases y : v < uu_ (xv_ (aTl_ (zT_ Z)) (aTX_ (zT_ Z) i))
        · have := u4 v v0 y; omega
        · omega
      rw [this]; exact h
    · refine ih ?_ (by omega)
      by_cases y : v = uu_ (xv_ (aTl_ (zT_ Z)) (aTX_ (zT_ Z) i))
      · rw [y, u3] at w; omega
      · omega
  exact L 0 u1 (Int.le_refl _)
theorem ct_M_crowded {bd i : Int} {Z : ab_Z} {M : mm_M} {R : Int → mm_M → Prop} (k : mY_ bd M 0 Z) (j : jZ_ bd Z) (hi : ix_ i Z) (h : ∀ M', fr_ (fun o _ => o = 410) M M' → R (cr_ (xv_ (aTl_ (zT_ Z)) (aTX_ (zT_ Z) i)) 32).1 M') : nr_M_crowded i M R := by
  have hx : 1784 ≤ xi_ 0 i ∧ xi_ 0 i + 855 ≤ 5204 := by have := hi.1; unfold xi_; omega
  have xb := xv_b j hi
  obtain ⟨_, b1, _⟩ := (k.1.1.2.2 i hi.1.1 hi.1.2).2 hi.2
  refine ng_M_crowded _ _ _ ?_
  refine ct_M_asks (T := zT_ Z) (X := aTX_ (zT_ Z) i) hi.1 k.1.1.1 j.1.1 b1 (fun M1 f1 g1 => ?_)
  have k1 : mY_ bd M1 0 Z := mY_410 f1 j k
  have t1 : tM_ M1 0 (aTm_ (zT_ Z)) (aTn_ (zT_ Z)) (aTq_ (zT_ Z)) := k1.1.1.1
  have b2 : rlM_ M1 (xi_ 0 i) (xu_ (aTX_ (zT_ Z) i)) := rlM_cg (fun q z0 z1 => fr_ri f1 (fun y => by omega)) b1
  have h1 := h M1 f1
  rw [← (crowd_eq (vv := xv_ (aTl_ (zT_ Z)) (aTX_ (zT_ Z) i)) (fun q => by have := xb q; omega)).1] at h1
  obtain ⟨s1, s2, s3, s4⟩ := ga_spec (xv_ (aTl_ (zT_ Z)) (aTX_ (zT_ Z) i)) 0 9999 32
  have wv : ∀ v, v ≠ -1 → ∀ R' : Int → mm_M → Prop, R' (hv_ (xv_ (aTl_ (zT_ Z)) (aTX_ (zT_ Z) i)) v) M1 → nr_M_withValue i v M1 R' := fun v hv R' hR => ct_M_withValue hv k1 j hi hR
  generalize hvv : xv_ (aTl_ (zT_ Z)) (aTX_ (zT_ Z) i) = ux at *
  have hvv : xv_ (lk_ (aTm_ (zT_ Z)) (aTn_ (zT_ Z)) (aTq_ (zT_ Z))) (aTX_ (zT_ Z) i) = ux := hvv
  generalize (ga_ ux 0 9999 32).2 = F at *
  generalize (ga_ ux 0 9999 32).1 = n at *
  have L : ∀ q : Int, q ≤ n → 0 ≤ q → nk_M_crowded_16 i (mc_r ux F q.toNat) n q M1 R := by
    refine lp_up (fun q hq ih q0 => ?_)
    refine ng_M_crowded_16 _ _ _ _ _ _ ⟨fun c => ?_, fun c => ?_⟩
    · rw [show q.toNat = n.toNat by omega]; exact h1
    · have ih := ih c (by omega)
      rw [show (q + 1).toNat = q.toNat + 1 by omega, mc_s, show ((q.toNat : Nat) : Int) = q by omega] at ih
      obtain ⟨⟨a1, a2⟩, a3⟩ := s2 q q0 c
      rw [g1 q q0 c, mm_w_id (x := q + 1) (by omega), at0 hi.1]
      refine ⟨by omega, ?_⟩
      refine ct_M_rv (X := aTX_ (zT_ Z) i) bk_0 ⟨by omega, by omega⟩ ⟨a1, by omega⟩ t1 j.1.1 b2 (by rw [hvv]; exact a3.1) ?_
      rw [hvv]
      refine ⟨fun w => ?_, fun w => ?_⟩
      · rw [if_pos w] at ih; exact ih
      · rw [if_neg w] at ih
        refine wv _ a3.1 _ ?_
        refine wv _ w _ ?_
        refine ⟨fun y => ?_, fun y => ?_⟩
        · rw [if_neg (by omega)] at ih; exact ih
        · rw [if_pos y] at ih; exact ih
  exact L 0 s1.1 (Int.le_refl _)
