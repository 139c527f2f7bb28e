/-! what is told of an index: the Model's stales, waste, worst -/
theorem ct_part {p q : Int → Bool} {a b : Int} {m : Nat} (h0 : 0 ≤ a) (hab : a ≤ b) (hb : b ≤ m) (h : ∀ e : Int, 0 ≤ e → e < m → (q e = true ↔ (a ≤ e ∧ e < b) ∧ p e = true)) : ct_ q 0 m = ct_ p a (b - a).toNat := by
  have e : m = a.toNat + (b - a).toNat + (m - b.toNat) := by omega
  rw [e, ct_add, ct_add]
  have z1 : ct_ q 0 a.toNat = 0 := ct_0 (fun i i0 i1 => by
    cases y : q i with
    | false => rfl
    | true => have := (h i i0 (by omega)).mp y; omega)
  have z2 : ct_ q (0 + ((a.toNat + (b - a).toNat : Nat) : Int)) (m - b.toNat) = 0 := ct_0 (fun i i0 i1 => by
    cases y : q i with
    | false => rfl
    | true => have := (h i (by omega) (by omega)).mp y; omega)
  have z3 : ct_ q (0 + ((a.toNat : Nat) : Int)) (b - a).toNat = ct_ p a (b - a).toNat := ct_sh (fun i i0 i1 => by
    rw [show (0 : Int) + ((a.toNat : Nat) : Int) + i = a + i by omega, Bool.eq_iff_iff, h (a + i) (by omega) (by omega)]
    exact ⟨fun w => w.2, fun w => ⟨⟨by omega, by omega⟩, w⟩⟩)
  rw [z1, z2, z3]
  omega
noncomputable def xsq_ (lat : ab_V) (X : ab_X) (r e : Int) : Bool := (decide (r = -2) || (eX_ X e / 4503599627370496 == r + 1)) && sl0_ lat X e
theorem ct_M_stales {b r i n : Int} {mem : ab_V} {q : Int → ab_R} {X : ab_X} {M : mm_M} {R : Int → mm_M → Prop} (hb : bk_ b) (hi : 0 ≤ i ∧ i < 4) (hr : -2147483648 ≤ r ∧ r < 2147483647) (t : tM_ M b mem n q) (e : eM_ M (xi_ b i) (sz_ X) (eX_ X)) (h : R (ct_ (xsq_ (lk_ mem n q) X r) 0 (sz_ X).toNat) M) : nr_M_stales b i r M R := by
  have hb' := hb
  unfold bk_ at hb'
  have hx : b + 1784 ≤ xi_ b i ∧ xi_ b i + 855 ≤ 32844 := by unfold xi_; omega
  refine ng_M_stales _ _ _ _ _ ?_
  have hat : nf_M_at b i = xi_ b i := nf_at hb hi
  rw [hat]
  have hsz := e.2.2.1
  have L : ∀ k : Int, k ≤ sz_ X → 0 ≤ k → nk_M_stales_13 b r (xi_ b i) (ct_ (xsq_ (lk_ mem n q) X r) 0 k.toNat) k M R := by
    refine lp_up (fun k hk ih k0 => ?_)
    have hc := ct_in (xsq_ (lk_ mem n q) X r) 0 k.toNat
    refine ng_M_stales_13 _ _ _ _ _ _ _ ?_
    rw [mm_w_id (x := xi_ b i + 6) (by omega), e.1, mm_w_id (x := k + 1) (by omega), mm_w_id (x := r + 1) (by omega), mm_w_id (x := _ + (0 : Int)) (by omega), mm_w_id (x := _ + (1 : Int)) (by omega), nf_entryAt ⟨by omega, by omega⟩ ⟨by omega, by omega⟩]
    refine ⟨by omega, fun c => ?_, fun c => ⟨fun _ => by omega, ?_⟩⟩
    · rw [show k.toNat = (sz_ X).toNat by omega]; exact h
    have ih := ih c (by omega)
    rw [show (k + 1).toNat = k.toNat + 1 by omega, ct_s, show (0 : Int) + ((k.toNat : Nat) : Int) = k by omega] at ih
    have e4 := e.2.2.2 k k0 c
    rw [e4.2.2.1]
    refine ⟨fun w => ?_, fun w => ?_⟩
    · refine ct_M_isStale hb ⟨by omega, by omega⟩ t e4 ?_
      have w2 : (decide (r = -2) || (eX_ X k / 4503599627370496 == r + 1)) = true := by
        rw [Bool.or_eq_true, decide_eq_true_eq, beq_iff_eq]; exact w
      have e1 : xsq_ (lk_ mem n q) X r k = !fs_ (lk_ mem n q) (eX_ X k % 4503599627370496) := by
        unfold xsq_ sl0_
        rw [w2, Bool.true_and]
      rw [e1] at ih
      by_cases f : fs_ (lk_ mem n q) (eX_ X k % 4503599627370496) = true
      · rw [if_pos f]
        rw [f] at ih
        exact ⟨fun _ => ih, fun y => absurd rfl y⟩
      · rw [if_neg f]
        have f : fs_ (lk_ mem n q) (eX_ X k % 4503599627370496) = false := Bool.eq_false_iff.mpr f
        rw [f] at ih
        exact ⟨fun y => absurd y (by decide), fun _ => ih⟩
    · have w2 : (decide (r = -2) || (eX_ X k / 4503599627370496 == r + 1)) = false := by
        rw [Bool.eq_false_iff]
        intro y
        rw [Bool.or_eq_true, decide_eq_true_eq, beq_iff_eq] at y
        exact y.elim w.1 w.2
      have e1 : xsq_ (lk_ mem n q) X r k = false := by
        unfold xsq_
        rw [w2, Bool.false_and]
      rw [e1, if_neg (by decide)] at ih
      exact ih
  exact L 0 (sz_nn X) (Int.le_refl _)
theorem xsq_all {lat : ab_V} {X : ab_X} : ct_ (xsq_ lat X (-2)) 0 (sz_ X).toNat = xst_ lat X := ct_cg (fun i _ _ => by
  unfold xsq_
  rw [decide_eq_true rfl, Bool.true_or, Bool.true_and])
theorem xsq_run {lat : ab_V} {X : ab_X} (I : iE_ (sz_ X) (eX_ X) (xn_ X) (xg_ X) (xA_ X)) (h : hE_ (sz_ X) (eX_ X)) (vA : ∀ y, xA_ X y → ve_ y) (vP : vl_ (xn_ X) (xg_ X)) {r : Int} (hr : 0 ≤ r ∧ r < xn_ X) : ct_ (xsq_ lat X r) 0 (sz_ X).toNat = xsr_ lat X r := by
  obtain ⟨r1, r2⟩ := eX_run I h vA vP (r := r + 1) ⟨by omega, by omega⟩
  have xn := xs_nn (X := X) (r := r + 1) (by omega)
  unfold xsr_
  rw [ct_part (p := sl0_ lat X) (a := xs_0 X (r + 1)) (b := xs_0 X (r + 1) + xz_ X (r + 1)) (by omega) (by omega) (by omega) (fun e e0 e1 => by
    unfold xsq_
    rw [Bool.and_eq_true, Bool.or_eq_true, decide_eq_true_eq, beq_iff_eq, ← (r2 e e0 (by omega)).1]
    exact ⟨fun w => ⟨w.1.resolve_left (by omega), w.2⟩, fun w => ⟨Or.inr w.1, w.2⟩⟩)]
  rw [show xs_0 X (r + 1) + xz_ X (r + 1) - xs_0 X (r + 1) = xz_ X (r + 1) by omega]
theorem ct_M_waste {b i n : Int} {mem : ab_V} {q : Int → ab_R} {X : ab_X} {M : mm_M} {R : Int → mm_M → Prop} (hb : bk_ b) (hi : 0 ≤ i ∧ i < 4) (t : tM_ M b mem n q) (e : eM_ M (xi_ b i) (sz_ X) (eX_ X)) (I : iE_ (sz_ X) (eX_ X) (xn_ X) (xg_ X) (xA_ X)) (h : R (xwa_ (lk_ mem n q) X) M) : nr_M_waste b i M R := by
  have hb' := hb
  unfold bk_ at hb'
  have hx : b + 1784 ≤ xi_ b i ∧ xi_ b i + 855 ≤ 32844 := by unfold xi_; omega
  refine ng_M_waste _ _ _ _ ?_
  have hat : nf_M_at b i = xi_ b i := nf_at hb hi
  rw [hat]
  have hsz := e.2.2.1
  unfold xwa_ at h
  have L : ∀ k : Int, k ≤ sz_ X → 0 ≤ k → nk_M_waste_12 b (xi_ b i) (ct_ (fun k => sl0_ (lk_ mem n q) X k || du_ X k) 0 k.toNat) k M R := by
    refine lp_up (fun k hk ih k0 => ?_)
    have hc := ct_in (fun k => sl0_ (lk_ mem n q) X k || du_ X k) 0 k.toNat
    refine ng_M_waste_12 _ _ _ _ _ _ ?_
    rw [mm_w_id (x := xi_ b i + 6) (by omega), e.1, nf_entryAt ⟨by omega, by omega⟩ ⟨by omega, by omega⟩]
    refine ⟨by omega, fun c => ?_, fun c => ?_⟩
    · rw [show k.toNat = (sz_ X).toNat by omega]; exact h
    have ih := ih c (by omega)
    rw [show (k + 1).toNat = k.toNat + 1 by omega, ct_s, show (0 : Int) + ((k.toNat : Nat) : Int) = k by omega] at ih
    have e4 := e.2.2.2 k k0 c
    have L2 : ∀ j : Int, j ≤ k → 0 ≤ j → ∀ w : Int, (w = 0 ∨ w = 1) → (w = 1 ↔ sl0_ (lk_ mem n q) X k = true ∨ ∃ j', 0 ≤ j' ∧ j' < j ∧ eX_ X j' % 4503599627370496 = eX_ X k % 4503599627370496) → nk_M_waste_46 b (xi_ b i) (ct_ (fun k => sl0_ (lk_ mem n q) X k || du_ X k) 0 k.toNat) k (xi_ b i + 215 + 4 * k) w j M R := by
      refine lp_up (fun j hj ih2 j0 w w01 hw => ?_)
      refine ng_M_waste_46 _ _ _ _ _ _ _ _ _ ⟨fun cj => ?_, fun cj => ?_⟩
      · have ej : j = k := by omega
        rw [ej, ← du_t, ← Bool.or_eq_true] at hw
        rw [mm_w_id (x := k + 1) (by omega), mm_w_id (x := _ + (0 : Int)) (by omega), mm_w_id (x := _ + (1 : Int)) (by omega)]
        refine ⟨fun z => ?_, fun z => ?_⟩
        · rw [if_neg (fun y => by have := hw.mpr y; omega)] at ih
          exact ih
        · rw [if_pos (hw.mp (by omega))] at ih
          exact ih
      · have ih2 := ih2 cj (by omega)
        rw [nf_entryAt ⟨by omega, by omega⟩ ⟨by omega, by omega⟩, mm_w_id (x := xi_ b i + 215 + 4 * j + 1) (by omega), mm_w_id (x := xi_ b i + 215 + 4 * j + 2) (by omega), mm_w_id (x := xi_ b i + 215 + 4 * j + 3) (by omega), mm_w_id (x := xi_ b i + 215 + 4 * k + 1) (by omega), mm_w_id (x := xi_ b i + 215 + 4 * k + 2) (by omega), mm_w_id (x := xi_ b i + 215 + 4 * k + 3) (by omega), mm_w_id (x := j + 1) (by omega)]
        have f4 := e.2.2.2 j j0 (by omega)
        rw [e4.2.2.1, e4.2.2.2.1, e4.2.2.2.2.1, e4.2.2.2.2.2, f4.2.2.1, f4.2.2.2.1, f4.2.2.2.2.1, f4.2.2.2.2.2]
        have hlt := I.1 j k j0 cj (by omega)
        have same : (eX_ X j % 4503599627370496 = eX_ X k % 4503599627370496) ↔ (eX_ X j / 4503599627370496 < eX_ X k / 4503599627370496 ∧ ev_ (eX_ X j % 4503599627370496) = ev_ (eX_ X k % 4503599627370496) ∧ ek_ (eX_ X j % 4503599627370496) = ek_ (eX_ X k % 4503599627370496) ∧ et_ (eX_ X j % 4503599627370496) = et_ (eX_ X k % 4503599627370496)) := by
          constructor
          · intro z
            rw [z]
            exact ⟨by omega, rfl, rfl, rfl⟩
          · rintro ⟨_, z1, z2, z3⟩
            rw [← en_of (x := eX_ X j % 4503599627370496), ← en_of (x := eX_ X k % 4503599627370496), z1, z2, z3]
        refine ⟨fun _ => by omega, fun _ => by omega, fun _ => by omega, fun _ => by omega, fun _ => by omega, fun _ => by omega, fun _ => by omega, fun _ => by omega, fun z => ?_, fun z => ?_⟩
        · refine ih2 1 (Or.inr rfl) ⟨fun _ => ?_, fun _ => rfl⟩
          rcases z with z | z
          · rcases hw.mp (by omega) with y | ⟨j', a1, a2, a3⟩
            · exact Or.inl y
            · exact Or.inr ⟨j', a1, by omega, a3⟩
          · exact Or.inr ⟨j, j0, by omega, same.mpr z⟩
        · refine ih2 0 (Or.inl rfl) ⟨fun y => absurd y (by decide), fun y => ?_⟩
          exfalso
          rcases y with y | ⟨j', a1, a2, a3⟩
          · have := hw.mpr (Or.inl y); omega
          · by_cases ej : j' = j
            · rw [ej] at a3
              have := same.mp a3
              rcases z.2 with z2 | z2 | z2 | z2
              · omega
              · exact z2 this.2.1
              · exact z2 this.2.2.1
              · exact z2 this.2.2.2
            · have := hw.mpr (Or.inr ⟨j', a1, by omega, a3⟩); omega
    refine ct_M_isStale hb ⟨by omega, by omega⟩ t e4 ?_
    by_cases f : fs_ (lk_ mem n q) (eX_ X k % 4503599627370496) = true
    · rw [if_pos f]
      refine L2 0 k0 (Int.le_refl _) 0 (Or.inl rfl) ⟨fun y => absurd y (by decide), fun y => ?_⟩
      exfalso
      rcases y with y | ⟨j', a1, a2, _⟩
      · unfold sl0_ at y
        rw [f] at y
        exact absurd y (by decide)
      · omega
    · rw [if_neg f]
      refine L2 0 k0 (Int.le_refl _) 1 (Or.inr rfl) ⟨fun _ => Or.inl ?_, fun _ => rfl⟩
      unfold sl0_
      rw [Bool.eq_false_iff.mpr f]
      rfl
  exact L 0 (sz_nn X) (Int.le_refl _)
theorem wo_in (st : Int → Int) : ∀ k : Nat, ((wo_ st k).1 = -1 ∧ (wo_ st k).2 = 0) ∨ ((0 ≤ (wo_ st k).1 ∧ (wo_ st k).1 < k) ∧ (wo_ st k).2 = st (wo_ st k).1)
  | 0 => Or.inl ⟨rfl, rfl⟩
  | k + 1 => by
    have ih := wo_in st k
    have e : wo_ st (k + 1) = if (wo_ st k).2 < st k then ((k : Int), st k) else wo_ st k := rfl
    rw [e]
    by_cases z : (wo_ st k).2 < st k
    · rw [if_pos z]
      exact Or.inr ⟨⟨by dsimp only; omega, by dsimp only; omega⟩, rfl⟩
    · rw [if_neg z]
      rcases ih with h | h
      · exact Or.inl h
      · exact Or.inr ⟨⟨h.1.1, by omega⟩, h.2⟩
theorem ct_M_worst {bd i : Int} {Z : ab_Z} {M : mm_M} {R : Int → mm_M → Prop} (k : mY_ bd M 0 Z) (j : jZ_ bd Z) (hi : ix_ i Z) (h : R (wo_ (xsr_ (aTl_ (zT_ Z)) (aTX_ (zT_ Z) i)) (xn_ (aTX_ (zT_ Z) i)).toNat).1 M) : nr_M_worst i M R := by
  have hx : 1784 ≤ xi_ 0 i ∧ xi_ 0 i + 855 ≤ 5204 := by have := hi.1; unfold xi_; omega
  have jx := j.1.2.2.2.2 i hi.1.1 hi.1.2
  obtain ⟨vA, vK, vP⟩ := jX_vl jx hi.2
  have kx := k.1.1.2.2 i hi.1.1 hi.1.2
  obtain ⟨e, I, hE⟩ := mX_row kx hi.2 vA vP
  obtain ⟨_, _, _, d, _⟩ := kx.2 hi.2
  have t : tM_ M 0 (aTm_ (zT_ Z)) (aTn_ (zT_ Z)) (aTq_ (zT_ Z)) := k.1.1.1
  refine ng_M_worst _ _ _ ?_
  have L : ∀ r : Int, r ≤ xn_ (aTX_ (zT_ Z) i) → 0 ≤ r → nk_M_worst_4 i (wo_ (xsr_ (aTl_ (zT_ Z)) (aTX_ (zT_ Z) i)) r.toNat).1 r M R := by
    refine lp_up (fun r hr ih r0 => ?_)
    refine ng_M_worst_4 _ _ _ _ _ ?_
    have d2 := d.2
    rw [at0 hi.1, mm_w_id (x := xi_ 0 i + 5) (by omega), d.1, mm_w_id (x := r + 1) (by omega)]
    refine ⟨by omega, fun c => ?_, fun c => ?_⟩
    · rw [show r.toNat = (xn_ (aTX_ (zT_ Z) i)).toNat by omega]; exact h
    have ih := ih c (by omega)
    have e1 : wo_ (xsr_ (aTl_ (zT_ Z)) (aTX_ (zT_ Z) i)) (r + 1).toNat = if (wo_ (xsr_ (aTl_ (zT_ Z)) (aTX_ (zT_ Z) i)) r.toNat).2 < xsr_ (aTl_ (zT_ Z)) (aTX_ (zT_ Z) i) r then (r, xsr_ (aTl_ (zT_ Z)) (aTX_ (zT_ Z) i) r) else wo_ (xsr_ (aTl_ (zT_ Z)) (aTX_ (zT_ Z) i)) r.toNat := by
      rw [show (r + 1).toNat = r.toNat + 1 by omega]
      show (if _ < xsr_ _ _ ((r.toNat : Nat) : Int) then (((r.toNat : Nat) : Int), xsr_ _ _ ((r.toNat : Nat) : Int)) else _) = _
      rw [show ((r.toNat : Nat) : Int) = r by omega]
    rw [e1] at ih
    have wi := wo_in (xsr_ (aTl_ (zT_ Z)) (aTX_ (zT_ Z) i)) r.toNat
    generalize wo_ (xsr_ (aTl_ (zT_ Z)) (aTX_ (zT_ Z) i)) r.toNat = w at *
    refine ct_M_stales bk_0 hi.1 (by omega) t e ?_
    rw [show ct_ (xsq_ (lk_ (aTm_ (zT_ Z)) (aTn_ (zT_ Z)) (aTq_ (zT_ Z))) (aTX_ (zT_ Z) i) r) 0 (sz_ (aTX_ (zT_ Z) i)).toNat = xsr_ (aTl_ (zT_ Z)) (aTX_ (zT_ Z) i) r from xsq_run I hE vA vP ⟨r0, c⟩]
    refine ⟨fun z => ?_, fun z => ?_⟩
    · obtain ⟨w1, w2⟩ := wi.resolve_left (fun y => z y.1)
      refine ct_M_stales bk_0 hi.1 (by omega) t e ?_
      rw [show ct_ (xsq_ (lk_ (aTm_ (zT_ Z)) (aTn_ (zT_ Z)) (aTq_ (zT_ Z))) (aTX_ (zT_ Z) i) w.1) 0 (sz_ (aTX_ (zT_ Z) i)).toNat = xsr_ (aTl_ (zT_ Z)) (aTX_ (zT_ Z) i) w.1 from xsq_run I hE vA vP ⟨w1.1, by omega⟩, ← w2]
      refine ⟨fun y => ?_, fun y => ?_⟩
      · rw [if_neg (by omega)] at ih; exact ih
      · rw [if_pos y] at ih; exact ih
    · have w2 : w.2 = 0 := by
        rcases wi with y | y
        · exact y.2
        · omega
      rw [w2] at ih
      refine ⟨fun y => ?_, fun y => ?_⟩
      · rw [if_neg (by omega)] at ih; exact ih
      · rw [if_pos y] at ih; exact ih
  exact L 0 d.2.1 (Int.le_refl _)
