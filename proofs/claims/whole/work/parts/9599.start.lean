/-! how all begins, both sides -/
def X0_ : ab_X := ((0, 0, 0, 0, 0), (fun _ _ => 0, fun _ => 0, 0), (fun _ => False), (fun _ => False), 0, 0, fun _ => (0, 0, 0, 0, fun _ => False))
def T0_ : ab_T := ((0, 0), nov_, 0, (fun _ => (0, 0, 0, 0, 0, nov_)), (0, 0), fun _ => X0_)
def sc0_ : Int → Int := fun k => if k = 3 then 4 else if k = 4 then 2 else if k = 9 then -1 else if k = 22 then -1 else 0
def Z0_ : ab_Z := (sc0_, T0_, (fun _ => ((0, 0, 0, fun _ => 0, 0, fun _ => 0), fun _ => 0)), fun _ => 0)
theorem lat0 : aTl_ T0_ = nov_ := funext (fun _ => rfl)
section xsec2_
variable {n0 n : Nat} {f : Nat → Nat → Int} {W : List (Nat × Nat × Int)} {M : mm_M}
theorem rd_x (hr : xr_ n0 f (n, W) M) {o b : Nat} (h : n0 < o ∧ o ≤ n) : M.2 o b = xlk_ W o b := (hr.2.2.2 o b).trans (if_pos h)
theorem sl_x (hr : xr_ n0 f (n, W) M) {t : Nat} (ht : n0 < t ∧ t + 8 ≤ n) (c : chT_ W t = true) : sl_ M t := by
  have c2 := (Bool.and_eq_true_iff.mp c).2
  have e : ∀ i : Int, 0 ≤ i → i < 24 → nn_rr M (t + 7) i = t + 10 + 3 * i.toNat := by
    intro i i0 i1
    have := of_decide_eq_true (rg_all c2 (i := i.toNat) (by omega))
    show (M.2 (t + 7) i.toNat).toNat = _
    rw [rd_x hr ⟨by omega, by omega⟩, this]
    omega
  exact ⟨fun i i0 i1 => ⟨i.toNat, by omega, e i i0 i1⟩, fun i j i0 i1 j0 j1 h => by rw [e i i0 i1, e j j0 j1] at h; omega⟩
theorem cv_none {v : Nat} (h : nn_rf M v 2 = 0) : cv_ M v = nov_ := funext (fun k => by
  show (if bt_ (nn_rf M v 2) k = true then _ else none) = none
  rw [h, if_neg]
  unfold bt_
  simp)
theorem cZ_x (hr : xr_ n0 f (n, W) M) {s : Nat} (hs : n0 < s ∧ s + 159 ≤ n + 1) (c : chS_ W s = true) : cZ_ M s Z0_ := by
  obtain ⟨c1, c⟩ := Bool.and_eq_true_iff.mp c
  obtain ⟨c2, c⟩ := Bool.and_eq_true_iff.mp c
  obtain ⟨c3, c⟩ := Bool.and_eq_true_iff.mp c
  obtain ⟨c4, c⟩ := Bool.and_eq_true_iff.mp c
  obtain ⟨c5, c6⟩ := Bool.and_eq_true_iff.mp c
  obtain ⟨d1, d2, d3, d4, d5, d6, d7⟩ := of_decide_eq_true c1
  obtain ⟨t1, t2⟩ := Bool.and_eq_true_iff.mp c4
  obtain ⟨u1, u2, u3, u4, u5, u6⟩ := of_decide_eq_true t1
  have rd : ∀ o b, s ≤ o → o < s + 159 → M.2 o b = xlk_ W o b := fun o b h1 h2 => rd_x hr ⟨by omega, by omega⟩
  have rf : ∀ o b, s ≤ o → o < s + 159 → nn_rf M o b = xlk_ W o b := fun o b h1 h2 => rd o b h1 h2
  have m1 : nn_rf M (s + 3 + 1) 2 = 0 := (rf _ _ (by omega) (by omega)).trans u5
  have m4 : nn_rf M (s + 3 + 4) 2 = 0 := (rf _ _ (by omega) (by omega)).trans u6
  refine ⟨⟨⟨⟨cv_none m1, ?_⟩, ⟨?_, ?_⟩, ⟨(rf _ _ (by omega) (by omega)).trans u1, Int.le_refl _, by show (0 : Int) ≤ 24; decide⟩, sl_x hr ⟨by omega, by omega⟩ c4, fun i i0 i1 => by have i1 : i < 0 := i1; omega⟩, ⟨(rf _ _ (by omega) (by omega)).trans u2, (rf _ _ (by omega) (by omega)).trans u3, (rf _ _ (by omega) (by omega)).trans u4⟩, fun i i0 i1 => ?_⟩, ⟨(rf _ _ (by omega) (by omega)).trans d1, (rf _ _ (by omega) (by omega)).trans d2, (rf _ _ (by omega) (by omega)).trans d3, (rf _ _ (by omega) (by omega)).trans d4, (rf _ _ (by omega) (by omega)).trans d5, (rf _ _ (by omega) (by omega)).trans d6⟩, fun i i0 i1 => ?_, ⟨?_, ?_, ?_, ?_, ?_⟩, ⟨(rf _ _ (by omega) (by omega)).trans d7, Int.le_refl _, by show (0 : Int) ≤ 200; decide, fun i i0 i1 => by have i1 : i < 0 := i1; omega⟩, fun i i0 i1 => ?_⟩
  · unfold kr_; rw [m1]; decide
  · exact (cv_none m4).trans lat0.symm
  · unfold kr_; rw [m4]; decide
  · have q := of_decide_eq_true (rg_all c5 (i := i.toNat) (by omega))
    exact ⟨(rf _ _ (by omega) (by omega)).trans q.1, (rd _ _ (by omega) (by omega)).trans q.2, fun w => absurd rfl w⟩
  · have q := of_decide_eq_true (rg_all c2 (i := i.toNat) (by omega))
    exact (rd _ _ (by omega) (by omega)).trans q
  · exact (rf _ _ (by omega) (by omega)).trans (of_decide_eq_true (rg_all c3 (i := 0) (by omega)))
  · exact (rf _ _ (by omega) (by omega)).trans (of_decide_eq_true (rg_all c3 (i := 1) (by omega)))
  · exact (rf _ _ (by omega) (by omega)).trans (of_decide_eq_true (rg_all c3 (i := 2) (by omega)))
  · exact (rf _ _ (by omega) (by omega)).trans (of_decide_eq_true (rg_all c3 (i := 3) (by omega)))
  · exact (rf _ _ (by omega) (by omega)).trans (of_decide_eq_true (rg_all c3 (i := 4) (by omega)))
  · have q := rg_all c6 (i := i.toNat) (by omega)
    have g : ∀ b, 2 ≤ b → b < 7 → nn_rf M (s + 150 + 3 * i.toNat) b = 0 := by
      intro b b0 b1
      have w := rg_all q b1
      rcases Bool.or_eq_true_iff.mp w with y | y
      · have := Nat.le_of_ble_eq_true y
        omega
      · exact (rf _ _ (by omega) (by omega)).trans (of_decide_eq_true y)
    exact ⟨g 2 (by omega) (by omega), Or.inl rfl, ⟨g 3 (by omega) (by omega), Int.le_refl _, by show (0 : Int) ≤ 32; decide⟩, ⟨g 4 (by omega) (by omega), Int.le_refl _, Int.le_refl _⟩, fun j j0 j1 => by have j1 : j < 0 := j1; omega, ⟨g 5 (by omega) (by omega), Int.le_refl _, by show (0 : Int) ≤ 48; decide⟩, fun j j0 j1 => by have j1 : j < 0 := j1; omega⟩
theorem O_x (hr : xr_ n0 f (n, W) M) {lo k : Nat} (h : n0 < lo ∧ lo + k ≤ n + 1) (c : chO_ W lo k = true) {o : Nat} (h1 : lo ≤ o) (h2 : o < lo + k) : (∀ b, nn_off (mm_kd o).1 b ≠ 0 → M.2 o b = ((o + nn_off (mm_kd o).1 b : Nat) : Int)) ∧ ((mm_kd o).1 = 42 → ∀ b, b < 24 → M.2 o b = ((o + 3 + 3 * b : Nat) : Int)) := by
  have q := rg_all c (i := o - lo) (by omega)
  rw [show lo + (o - lo) = o by omega] at q
  generalize mm_kd o = z at q ⊢
  obtain ⟨kc, kn⟩ := z
  obtain ⟨q1, q2⟩ := Bool.and_eq_true_iff.mp q
  refine ⟨fun b hb => ?_, fun hc b hb => ?_⟩
  · have b11 : b < 11 := by
      by_cases y : b < 11
      · exact y
      · exact absurd (nn_off_11 (by omega)) hb
    rw [rd_x hr ⟨by omega, by omega⟩]
    rcases Bool.or_eq_true_iff.mp (rg_all q1 b11) with y | y
    · exact absurd (of_decide_eq_true y) hb
    · exact of_decide_eq_true y
  · rw [rd_x hr ⟨by omega, by omega⟩]
    rcases Bool.or_eq_true_iff.mp q2 with y | y
    · exact absurd hc (of_decide_eq_true y)
    · exact of_decide_eq_true (rg_all y hb)
end xsec2_
theorem mY_x {bd : Int} {M : mm_M} (hbd : 0 ≤ bd) (h : ∀ b : Int, 0 ≤ b → nn_ri M 408 b = sc0_ b) : mY_ bd M 0 Z0_ := by
  have z : ∀ b : Int, 0 ≤ b → b ≠ 3 → b ≠ 4 → b ≠ 9 → b ≠ 22 → nn_ri M 408 b = 0 := by
    intro b b0 b1 b2 b3 b4
    rw [h b b0]
    unfold sc0_
    rw [if_neg b1, if_neg b2, if_neg b3, if_neg b4]
  refine ⟨⟨⟨⟨funext (fun k => ?_), fun k k0 k1 => ?_, ⟨z _ (by decide) (by decide) (by decide) (by decide) (by decide), Int.le_refl _, by show (0 : Int) ≤ 22; decide⟩, fun r r0 r1 => by have r1 : r < 0 := r1; omega⟩, ⟨z _ (by decide) (by decide) (by decide) (by decide) (by decide), z _ (by decide) (by decide) (by decide) (by decide) (by decide), fun w => absurd rfl w, z _ (by decide) (by decide) (by decide) (by decide) (by decide)⟩, fun i i0 i1 => ⟨z _ (by unfold xi_; omega) (by unfold xi_; omega) (by unfold xi_; omega) (by unfold xi_; omega) (by unfold xi_; omega), fun w => absurd rfl w⟩⟩, ⟨fun k hk => ?_, fun i i0 i1 => by have i1 : i < 0 := i1; omega, fun i i0 i1 => ?_⟩⟩, ?_, ?_⟩
  · show (if k < 32 ∧ 0 < nn_ri M 408 (0 + 24 + (k : Int)) then _ else none) = none
    rw [z _ (by omega) (by omega) (by omega) (by omega) (by omega), if_neg (by omega)]
  · rw [z _ (by omega) (by omega) (by omega) (by omega) (by omega)]
    exact Int.le_refl _
  · rw [h _ (by unfold hd_ at hk; omega), show (0 : Int) + k = k by omega]
    rfl
  · exact ⟨z _ (by omega) (by omega) (by omega) (by omega) (by omega), z _ (by omega) (by omega) (by omega) (by omega) (by omega), z _ (by omega) (by omega) (by omega) (by omega) (by omega), fun j j0 j1 => by have j1 : j < 0 := j1; omega, z _ (by omega) (by omega) (by omega) (by omega) (by omega), fun j j0 j1 => by have j1 : j < 0 := j1; omega⟩
  · rw [z _ (by omega) (by omega) (by omega) (by omega) (by omega)]; exact Int.le_refl _
  · rw [z _ (by omega) (by omega) (by omega) (by omega) (by omega)]; exact hbd
theorem jZ_x {bd : Int} (hbd : 0 ≤ bd) : jZ_ bd Z0_ := by
  refine ⟨⟨⟨fun k p hp => (by cases hp), fun r r0 r1 => by have r1 : r < 0 := r1; omega, fun r r' r0 r1 r2 => by have r2 : r' < 0 := r2; omega⟩, ⟨Int.le_refl _, by show (0 : Int) ≤ 20; decide⟩, ⟨⟨Int.le_refl _, hbd⟩, ⟨Int.le_refl _, by show (0 : Int) ≤ 11; decide, Int.le_refl _⟩, ⟨Int.le_refl _, hbd⟩, ⟨Int.le_refl _, hbd⟩⟩, fun r r0 r1 => by have r1 : r < 0 := r1; omega, fun i i0 i1 => jX_0 rfl⟩, ⟨by decide, by decide, ⟨by decide, hbd⟩, ⟨by decide, hbd⟩, by decide, Or.inl rfl⟩, fun i i0 i1 => ⟨Or.inl rfl, ⟨Int.le_refl _, by show (0 : Int) ≤ 32; decide⟩, ⟨Int.le_refl _, Int.le_refl _⟩, Int.le_refl _, by show (0 : Int) ≤ 48; decide⟩⟩
theorem jI_x : jI_ Z0_ := by
  have no : ∀ p, ¬ alZ_ Z0_ p := by
    intro p hp
    rcases hp with ⟨c, h, _, y, _⟩ | ⟨r, r0, r1, _⟩ | ⟨i, _, _, y, _⟩
    · exact y rfl
    · have r1 : r < 0 := r1
      omega
    · exact y rfl
  exact ⟨fun p hp => (no p hp).elim, fun p p' hp => (no p hp).elim⟩
theorem jB_x : jB_ Z0_ := fun i i0 i1 => by
  have i1 : i < 0 := i1
  omega
