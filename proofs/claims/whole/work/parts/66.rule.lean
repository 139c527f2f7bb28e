/-! the class's Rule: sums and atoms of a row -/
abbrev ab_U : Type := (Int → Int → Int) × (Int → Int) × Int
def su_ (u : ab_U) (f row : Int) : Int := u.1 f 4 + u.1 f 0 * co_ row 0 + u.1 f 1 * co_ row 1 + u.1 f 2 * co_ row 2 + u.1 f 3 * co_ row 3
def ho_ (u : ab_U) (row a : Int) : Bool := if u.2.1 a = 10 then decide (su_ u (2 * a + 1) row < su_ u (2 * a + 2) row) else if u.2.1 a = 12 then decide (su_ u (2 * a + 2) row < su_ u (2 * a + 1) row) else decide (su_ u (2 * a + 1) row = su_ u (2 * a + 2) row)
def wn_ (u : ab_U) (row : Int) : Nat → Bool
  | 0 => true
  | k + 1 => wn_ u row k && ho_ u row k
def va_ (u : ab_U) (row : Int) : Int := if wn_ u row u.2.2.toNat = true then su_ u 0 row else -1
/-- a rule that can be -/
def rb_ (u : ab_U) : Prop := (0 ≤ u.2.2 ∧ u.2.2 ≤ 3) ∧ (∀ f c, 0 ≤ f → f ≤ 2 * u.2.2 → 0 ≤ c → c < 5 → 0 ≤ u.1 f c) ∧ ∀ f, 0 ≤ f → f ≤ 2 * u.2.2 → u.1 f 0 + u.1 f 1 + u.1 f 2 + u.1 f 3 + u.1 f 4 ≤ 400
def rl_ (M : mm_M) (r : Nat) (u : ab_U) : Prop := rb_ u ∧ nn_rf M r 2 = u.2.2 ∧ (∀ f c, 0 ≤ f → f ≤ 2 * u.2.2 → 0 ≤ c → c < 5 → nn_ri M (r + 1) (5 * f + c) = u.1 f c) ∧ ∀ a, 0 ≤ a → a < u.2.2 → nn_ri M (r + 2) a = u.2.1 a
theorem rl_fr {P : Nat → Nat → Prop} {M M' : mm_M} (h : fr_ P M M') {r : Nat} {u : ab_U} (hv : ∀ o b, r ≤ o → o < r + 3 → ¬ P o b) (k : rl_ M r u) : rl_ M' r u := by
  obtain ⟨k1, k2, k3, k4⟩ := k
  exact ⟨k1, (fr_rf h (hv _ _ (by omega) (by omega))).trans k2, fun f c f0 f1 c0 c1 => (fr_ri h (hv _ _ (by omega) (by omega))).trans (k3 f c f0 f1 c0 c1), fun a a0 a1 => (fr_ri h (hv _ _ (by omega) (by omega))).trans (k4 a a0 a1)⟩
theorem mul_le15 {x y b : Int} (hx : 0 ≤ x ∧ x ≤ b) (hy : 0 ≤ y ∧ y < 16) : 0 ≤ x * y ∧ x * y ≤ 15 * x := by
  obtain ⟨k, rfl⟩ := Int.eq_ofNat_of_zero_le hy.1
  have : k < 16 := by omega
  constructor
  · exact Int.mul_nonneg hx.1 hy.1
  · rw [Int.mul_comm x]
    exact Int.mul_le_mul_of_nonneg_right (by omega) hx.1
theorem su_in {u : ab_U} (h : rb_ u) {f : Int} (hf : 0 ≤ f ∧ f ≤ 2 * u.2.2) (row : Int) : 0 ≤ su_ u f row ∧ su_ u f row ≤ 6000 ∧ (0 ≤ u.1 f 0 * co_ row 0 ∧ u.1 f 0 * co_ row 0 ≤ 6000) ∧ (0 ≤ u.1 f 1 * co_ row 1 ∧ u.1 f 1 * co_ row 1 ≤ 6000) ∧ (0 ≤ u.1 f 2 * co_ row 2 ∧ u.1 f 2 * co_ row 2 ≤ 6000) ∧ (0 ≤ u.1 f 3 * co_ row 3 ∧ u.1 f 3 * co_ row 3 ≤ 6000) := by
  have h0 := h.2.1 f 0 hf.1 hf.2 (by omega) (by omega)
  have h1 := h.2.1 f 1 hf.1 hf.2 (by omega) (by omega)
  have h2 := h.2.1 f 2 hf.1 hf.2 (by omega) (by omega)
  have h3 := h.2.1 f 3 hf.1 hf.2 (by omega) (by omega)
  have h4 := h.2.1 f 4 hf.1 hf.2 (by omega) (by omega)
  have hs := h.2.2 f hf.1 hf.2
  have m0 := mul_le15 (b := 400) ⟨h0, by omega⟩ (co_in row 0)
  have m1 := mul_le15 (b := 400) ⟨h1, by omega⟩ (co_in row 1)
  have m2 := mul_le15 (b := 400) ⟨h2, by omega⟩ (co_in row 2)
  have m3 := mul_le15 (b := 400) ⟨h3, by omega⟩ (co_in row 3)
  unfold su_
  omega
theorem va_in {u : ab_U} (h : rb_ u) (row : Int) : -1 ≤ va_ u row ∧ va_ u row ≤ 6000 := by
  unfold va_
  have := su_in h (f := 0) ⟨by omega, by have := h.1; omega⟩ row
  split <;> omega
theorem ct_R_reckoned {r : Nat} {f row : Int} {M : mm_M} {R : Int → mm_M → Prop} {u : ab_U} (k : rl_ M r u) (hf : 0 ≤ f ∧ f ≤ 2 * u.2.2) (hrow : 0 ≤ row ∧ row < 65536) (h : R (su_ u f row) M) : nr_Rule_reckoned r f row M R := by
  obtain ⟨kb, k2, k3, k4⟩ := k
  obtain ⟨s0, s1, m0, m1, m2, m3⟩ := su_in kb hf row
  have a4 := kb.2.1 f 4 hf.1 hf.2 (by omega) (by omega)
  have hat := kb.1
  have a4' := kb.2.2 f hf.1 hf.2
  have a0 := kb.2.1 f 0 hf.1 hf.2 (by omega) (by omega)
  have a1 := kb.2.1 f 1 hf.1 hf.2 (by omega) (by omega)
  have a2 := kb.2.1 f 2 hf.1 hf.2 (by omega) (by omega)
  have a3 := kb.2.1 f 3 hf.1 hf.2 (by omega) (by omega)
  have w5 : ∀ c : Int, 0 ≤ c → c < 5 → mm_w (mm_w (5 * f) + c) = 5 * f + c := fun c c0 c1 => by
    rw [mm_w_id (x := 5 * f) (by omega), mm_w_id (x := 5 * f + c) (by omega)]
  refine ng_Rule_reckoned _ _ _ _ _ ?_
  rw [w5 4 (by omega) (by omega)]
  refine ⟨by omega, ?_⟩
  rintro _ rfl
  rw [k3 f 4 hf.1 hf.2 (by omega) (by omega)]
  -- one turn
  have T : ∀ c acc : Int, 0 ≤ c → c < 4 → 0 ≤ acc → acc ≤ 20000 → 0 ≤ u.1 f c * co_ row c → u.1 f c * co_ row c ≤ 6000 → nk_Rule_reckoned_14 r f row (acc + u.1 f c * co_ row c) (c + 1) M R → nk_Rule_reckoned_14 r f row acc c M R := by
    intro c acc c0 c1 p0 p1 q0 q1 nx
    refine ng_Rule_reckoned_14 _ _ _ _ _ _ _ ⟨fun z => by omega, fun _ => ?_⟩
    rw [w5 c c0 (by omega), k3 f c hf.1 hf.2 c0 (by omega), nf_columnOf hrow ⟨c0, c1⟩, mm_w_id (x := u.1 f c * co_ row c) (by omega), mm_w_id (x := acc + u.1 f c * co_ row c) (by omega), mm_w_id (x := c + 1) (by omega)]
    refine ⟨by omega, ?_⟩
    rintro _ rfl
    exact nx
  refine T 0 _ (by omega) (by omega) (by omega) (by omega) m0.1 m0.2 ?_
  refine T 1 _ (by omega) (by omega) (by omega) (by omega) m1.1 m1.2 ?_
  refine T 2 _ (by omega) (by omega) (by omega) (by omega) m2.1 m2.2 ?_
  refine T 3 _ (by omega) (by omega) (by omega) (by omega) m3.1 m3.2 ?_
  refine ng_Rule_reckoned_14 _ _ _ _ _ _ _ ⟨fun _ => ?_, fun z => absurd z (by decide)⟩
  exact h
theorem wn_false {u : ab_U} {row : Int} : ∀ {m n : Nat}, n ≤ m → wn_ u row n = false → wn_ u row m = false
  | 0, n, h, e => by
    have : n = 0 := by omega
    rw [this] at e
    exact e
  | m + 1, n, h, e => by
    by_cases z : n = m + 1
    · rw [← z]; exact e
    · unfold wn_
      rw [wn_false (m := m) (by omega) e]
      rfl
theorem ct_R_valueOf {r : Nat} {row : Int} {M : mm_M} {R : Int → mm_M → Prop} {u : ab_U} (k : rl_ M r u) (hsg : ∀ a, 0 ≤ a → a < u.2.2 → u.2.1 a = 10 ∨ u.2.1 a = 11 ∨ u.2.1 a = 12) (hrow : 0 ≤ row ∧ row < 65536) (h : R (va_ u row) M) : nr_Rule_valueOf r row M R := by
  have hat := k.1.1
  refine ng_Rule_valueOf _ _ _ _ ?_
  have L : ∀ i : Int, i ≤ u.2.2 → 0 ≤ i → wn_ u row i.toNat = true → nk_Rule_valueOf_2 r row i M R := by
    refine lp_up (fun i hi ih h0 hw => ?_)
    refine ng_Rule_valueOf_2 _ _ _ _ _ ?_
    rw [k.2.1]
    refine ⟨fun c => ?_, fun c => ?_⟩
    · have : i = u.2.2 := by omega
      refine ct_R_reckoned k ⟨by omega, by omega⟩ hrow ?_
      unfold va_ at h
      rw [← this, hw, if_pos rfl] at h
      exact h
    rw [mm_w_id (x := 2 * i) (by omega), mm_w_id (x := 2 * i + 1) (by omega), mm_w_id (x := 2 * i + 2) (by omega), mm_w_id (x := i + 1) (by omega)]
    refine ct_R_reckoned k ⟨by omega, by omega⟩ hrow ?_
    refine ct_R_reckoned k ⟨by omega, by omega⟩ hrow ?_
    rw [k.2.2.2 i h0 c]
    have hs := hsg i h0 c
    have e : wn_ u row (i.toNat + 1) = ho_ u row i := by
      unfold wn_
      rw [hw, show ((i.toNat : Nat) : Int) = i by omega, Bool.true_and]
    refine ⟨by omega, fun _ => by omega, fun z => ?_, fun z => ?_⟩
    · have hf : ho_ u row i = false := by
        unfold ho_
        rcases hs with hs | hs | hs
        · rw [if_pos hs]; exact decide_eq_false (by omega)
        · rw [if_neg (by omega), if_neg (by omega)]; exact decide_eq_false (by omega)
        · rw [if_neg (by omega), if_pos hs]; exact decide_eq_false (by omega)
      unfold va_ at h
      rw [wn_false (n := i.toNat + 1) (by omega) (e.trans hf), if_neg (by decide)] at h
      exact h
    · have ht : ho_ u row i = true := by
        unfold ho_
        rcases hs with hs | hs | hs
        · rw [if_pos hs]; exact decide_eq_true (by omega)
        · rw [if_neg (by omega), if_neg (by omega)]; exact decide_eq_true (by omega)
        · rw [if_neg (by omega), if_pos hs]; exact decide_eq_true (by omega)
      refine ih c (by omega) ?_
      rw [show (i + 1).toNat = i.toNat + 1 by omega, e]
      exact ht
  exact L 0 hat.1 (Int.le_refl _) rfl
theorem ct_R_copy {r w : Nat} {M : mm_M} {R : mm_M → Prop} {u : ab_U} (hd : r + 3 ≤ w ∨ w + 3 ≤ r) (k : rl_ M w u) (h : ∀ M', fr_ (fun o _ => r ≤ o ∧ o < r + 3) M M' → rl_ M' r u → R M') : nr_Rule_copy r w M R := by
  obtain ⟨kb, k2, k3, k4⟩ := k
  have hat := kb.1
  refine ng_Rule_copy _ _ _ _ ⟨by omega, ?_⟩
  rintro _ rfl
  refine ⟨by omega, ?_⟩
  rintro _ rfl _ rfl
  have f : fr_ (fun o _ => r ≤ o ∧ o < r + 3) M (mm_cp (mm_cp M (w + 1) 0 (r + 1) 0 35) (w + 2) 0 (r + 2) 0 3) := fr_cp (fr_cp (fr_refl M) (fun _ _ _ => ⟨by omega, by omega⟩)) (fun _ _ _ => ⟨by omega, by omega⟩)
  have e2 : nn_rf (mm_cp (mm_cp M (w + 1) 0 (r + 1) 0 35) (w + 2) 0 (r + 2) 0 3) w 2 = u.2.2 := (fr_rf f (by omega)).trans k2
  rw [e2]
  refine h _ (fr_uf f ⟨by omega, by omega⟩) ⟨kb, by rw [rd_ff, if_pos ⟨rfl, rfl⟩], fun g c g0 g1 c0 c1 => ?_, fun a a0 a1 => ?_⟩
  · rw [rd_if, if_neg (by omega), rd_ci _ _ _ _ _ _ _ _ (by omega), rd_cc _ _ _ _ _ _ _ (by omega), if_pos (by omega), show 5 * g + c - 0 + 0 = 5 * g + c by omega]
    exact k3 g c g0 g1 c0 c1
  · rw [rd_if, if_neg (by omega), rd_cc _ _ _ _ _ _ _ a0, if_pos (by omega), rd_ci _ _ _ _ _ _ _ _ (by omega), show a - 0 + 0 = a by omega]
    exact k4 a a0 a1
