/-! the Model: an index' entries as one row of numbers: run * 2^52 + entry -/
def e4_ (M : mm_M) (a y : Int) : Prop := 0 ≤ y ∧ ve_ (y % 4503599627370496) ∧ nn_ri M 408 a = y / 4503599627370496 ∧ nn_ri M 408 (a + 1) = ev_ (y % 4503599627370496) ∧ nn_ri M 408 (a + 2) = ek_ (y % 4503599627370496) ∧ nn_ri M 408 (a + 3) = et_ (y % 4503599627370496)
def eM_ (M : mm_M) (x m : Int) (E : Int → Int) : Prop := nn_ri M 408 (x + 6) = m ∧ 0 ≤ m ∧ m ≤ 160 ∧ ∀ e, 0 ≤ e → e < m → e4_ M (x + 215 + 4 * e) (E e)
/-- a stretch of the one array -/
def a8_ (lo hi : Int) (o b : Nat) : Prop := o = 408 ∧ lo ≤ (b : Int) ∧ (b : Int) < hi
theorem a8_ri {lo hi : Int} {M M' : mm_M} (h : fr_ (a8_ lo hi) M M') {i : Int} (h0 : 0 ≤ i) (hn : i < lo ∨ hi ≤ i) : nn_ri M' 408 i = nn_ri M 408 i := fr_ri h (fun z => by have := z.2; omega)
theorem e4_parts {M : mm_M} {a y : Int} (h : e4_ M a y) : y = nn_ri M 408 a * 4503599627370496 + nn_ri M 408 (a + 1) * 137438953472 + nn_ri M 408 (a + 2) * 4294967296 + nn_ri M 408 (a + 3) ∧ 0 ≤ nn_ri M 408 a ∧ (0 ≤ nn_ri M 408 (a + 1) ∧ nn_ri M 408 (a + 1) < 32768) ∧ (0 ≤ nn_ri M 408 (a + 2) ∧ nn_ri M 408 (a + 2) < 32) ∧ (0 ≤ nn_ri M 408 (a + 3) ∧ nn_ri M 408 (a + 3) < 2147483648) := by
  obtain ⟨h0, ⟨v0, v1, v2⟩, h1, h2, h3, h4⟩ := h
  rw [h1, h2, h3, h4]
  unfold ev_ ek_ et_
  omega
theorem e4_cg {M M' : mm_M} {a c y : Int} (h : e4_ M a y) (g0 : nn_ri M' 408 c = nn_ri M 408 a) (g1 : nn_ri M' 408 (c + 1) = nn_ri M 408 (a + 1)) (g2 : nn_ri M' 408 (c + 2) = nn_ri M 408 (a + 2)) (g3 : nn_ri M' 408 (c + 3) = nn_ri M 408 (a + 3)) : e4_ M' c y := by
  obtain ⟨h0, hv, h1, h2, h3, h4⟩ := h
  exact ⟨h0, hv, g0.trans h1, g1.trans h2, g2.trans h3, g3.trans h4⟩
theorem ct_M_isAhead {a c y z : Int} {M : mm_M} {R : Int → mm_M → Prop} (ha : 0 ≤ a ∧ a + 4 ≤ 32844) (hc : 0 ≤ c ∧ c + 4 ≤ 32844) (hy : e4_ M a y) (hz : e4_ M c z) (h1 : y < z → R 1 M) (h0 : z ≤ y → R 0 M) : nr_M_isAhead a c M R := by
  obtain ⟨ey, y0, y1, y2, y3⟩ := e4_parts hy
  obtain ⟨ez, z0, z1, z2, z3⟩ := e4_parts hz
  refine ng_M_isAhead _ _ _ _ ?_
  have T : ∀ i : Int, 0 ≤ i → i < 4 → (nn_ri M 408 (a + i) = nn_ri M 408 (c + i) → nk_M_isAhead_2 a c (i + 1) M R) → (nn_ri M 408 (a + i) < nn_ri M 408 (c + i) → y < z) → (nn_ri M 408 (c + i) < nn_ri M 408 (a + i) → z ≤ y) → nk_M_isAhead_2 a c i M R := by
    intro i i0 i1 nx hl hg
    refine ng_M_isAhead_2 _ _ _ _ _ ?_
    rw [mm_w_id (x := a + i) (by omega), mm_w_id (x := c + i) (by omega), mm_w_id (x := i + 1) (by omega)]
    refine ⟨fun q => by omega, fun _ => ⟨by omega, by omega, fun q => nx q, fun q => ⟨by omega, by omega, fun w => ?_, fun w => h1 (hl w)⟩⟩⟩
    exact h0 (hg (by omega))
  have sa : a + 0 = a := by omega
  have sc : c + 0 = c := by omega
  refine T 0 (by omega) (by omega) (fun q0 => ?_) (fun q => by rw [sa, sc] at q; omega) (fun q => by rw [sa, sc] at q; omega)
  rw [sa, sc] at q0
  refine T 1 (by omega) (by omega) (fun q1 => ?_) (fun q => by omega) (fun q => by omega)
  refine T 2 (by omega) (by omega) (fun q2 => ?_) (fun q => by omega) (fun q => by omega)
  refine T 3 (by omega) (by omega) (fun q3 => ?_) (fun q => by omega) (fun q => by omega)
  refine ng_M_isAhead_2 _ _ _ _ _ ⟨fun _ => h0 ?_, fun q => absurd q (by decide)⟩
  have q2' : nn_ri M 408 (a + 2) = nn_ri M 408 (c + 2) := q2
  have q3' : nn_ri M 408 (a + 3) = nn_ri M 408 (c + 3) := q3
  have q1' : nn_ri M 408 (a + 1) = nn_ri M 408 (c + 1) := q1
  omega
theorem ct_M_swaps {a c : Int} {M : mm_M} {R : mm_M → Prop} (ha : 0 ≤ a ∧ a + 4 ≤ 32844) (hc : 0 ≤ c ∧ c + 4 ≤ 32844) (hac : c + 4 ≤ a) (h : ∀ M', fr_ (fun o b => o = 408 ∧ ((a ≤ (b : Int) ∧ (b : Int) < a + 4) ∨ (c ≤ (b : Int) ∧ (b : Int) < c + 4))) M M' → (∀ i, 0 ≤ i → i < 4 → nn_ri M' 408 (a + i) = nn_ri M 408 (c + i) ∧ nn_ri M' 408 (c + i) = nn_ri M 408 (a + i)) → R M') : nr_M_swaps a c M R := by
  refine ng_M_swaps _ _ _ _ ?_
  have L : ∀ i : Int, i ≤ 4 → 0 ≤ i → ∀ M1, fr_ (fun o b => o = 408 ∧ ((a ≤ (b : Int) ∧ (b : Int) < a + 4) ∨ (c ≤ (b : Int) ∧ (b : Int) < c + 4))) M M1 → (∀ j, 0 ≤ j → j < 4 → nn_ri M1 408 (a + j) = (if j < i then nn_ri M 408 (c + j) else nn_ri M 408 (a + j)) ∧ nn_ri M1 408 (c + j) = (if j < i then nn_ri M 408 (a + j) else nn_ri M 408 (c + j))) → nk_M_swaps_2 a c i M1 R := by
    refine lp_up (fun i hi ih i0 M1 f1 g1 => ?_)
    refine ng_M_swaps_2 _ _ _ _ _ ?_
    rw [mm_w_id (x := a + i) (by omega), mm_w_id (x := c + i) (by omega), mm_w_id (x := i + 1) (by omega)]
    refine ⟨fun q => ?_, fun q => ⟨by omega, by omega, by omega, ?_⟩⟩
    · refine h M1 f1 (fun j j0 j1 => ?_)
      have := g1 j j0 j1
      rw [if_pos (by omega), if_pos (by omega)] at this
      exact this
    · rintro _ rfl
      refine ⟨by omega, ?_⟩
      rintro _ rfl
      refine ih q (by omega) _ (fr_ui (fr_ui f1 ⟨rfl, by omega⟩) ⟨rfl, by omega⟩) (fun j j0 j1 => ?_)
      obtain ⟨x1, x2⟩ := g1 j j0 j1
      obtain ⟨y1, y2⟩ := g1 i i0 q
      rw [if_neg (by omega)] at y1 y2
      rw [rd_ii, rd_ii, rd_ii, rd_ii]
      by_cases z : j = i
      · subst z
        constructor
        · rw [if_neg (by omega), if_pos ⟨rfl, rfl⟩, if_pos (by omega)]; exact y2
        · rw [if_pos ⟨rfl, rfl⟩, if_pos (by omega)]; exact y1
      · constructor
        · rw [if_neg (by omega), if_neg (by omega), x1]
          by_cases w : j < i
          · rw [if_pos w, if_pos (by omega)]
          · rw [if_neg w, if_neg (by omega)]
        · rw [if_neg (by omega), if_neg (by omega), x2]
          by_cases w : j < i
          · rw [if_pos w, if_pos (by omega)]
          · rw [if_neg w, if_neg (by omega)]
  exact L 0 (by omega) (Int.le_refl _) M (fr_refl M) (fun j j0 j1 => by rw [if_neg (by omega), if_neg (by omega)]; exact ⟨rfl, rfl⟩)
/-- but for those with Q, no two of the row are the same -/
def uq_ (E : Int → Int) (m : Int) (Q : Int → Prop) : Prop := ∀ a c, 0 ≤ a → a < m → 0 ≤ c → c < m → E a = E c → a = c ∨ Q (E a)
theorem uq_swap {E : Int → Int} {m a : Int} {Q : Int → Prop} (ha : 0 < a) (hm : a < m) (k : uq_ E m Q) : uq_ (fun j => if j = a then E (a - 1) else if j = a - 1 then E a else E j) m Q := by
  have hT : ∀ j, (if j = a then E (a - 1) else if j = a - 1 then E a else E j) = E (if j = a then a - 1 else if j = a - 1 then a else j) := by
    intro j
    by_cases z : j = a
    · rw [if_pos z, if_pos z]
    · rw [if_neg z, if_neg z]
      by_cases y : j = a - 1
      · rw [if_pos y, if_pos y]
      · rw [if_neg y, if_neg y]
  have hB : ∀ j, 0 ≤ j → j < m → 0 ≤ (if j = a then a - 1 else if j = a - 1 then a else j) ∧ (if j = a then a - 1 else if j = a - 1 then a else j) < m := by
    intro j j0 j1
    by_cases z : j = a
    · rw [if_pos z]; omega
    · rw [if_neg z]
      by_cases y : j = a - 1
      · rw [if_pos y]; omega
      · rw [if_neg y]; omega
  intro u v u0 u1 v0 v1 e
  have e1 : (if u = a then E (a - 1) else if u = a - 1 then E a else E u) = (if v = a then E (a - 1) else if v = a - 1 then E a else E v) := e
  rw [hT, hT] at e1
  show u = v ∨ Q (if u = a then E (a - 1) else if u = a - 1 then E a else E u)
  rw [hT]
  rcases k _ _ (hB u u0 u1).1 (hB u u0 u1).2 (hB v v0 v1).1 (hB v v0 v1).2 e1 with z | z
  · left
    repeat' split at z
    all_goals omega
  · exact Or.inr z
theorem ct_M_sorts {x m : Int} {M : mm_M} {R : mm_M → Prop} {E : Int → Int} (hx : 0 ≤ x ∧ x + 855 ≤ 32844) (k : eM_ M x m E) (h : ∀ M' E', fr_ (a8_ (x + 215) (x + 215 + 4 * m)) M M' → eM_ M' x m E' → so_ E' 0 m → (∀ y, sg_ E' 0 m y ↔ sg_ E 0 m y) → (∀ Q, uq_ E m Q → uq_ E' m Q) → R M') : nr_M_sorts x M R := by
  obtain ⟨k1, m0, m160, k4⟩ := k
  refine ng_M_sorts _ _ _ ?_
  have L : ∀ i : Int, i ≤ max m 1 → 1 ≤ i → ∀ M1 E1, fr_ (a8_ (x + 215) (x + 215 + 4 * m)) M M1 → eM_ M1 x m E1 → so_ E1 0 (min i m) → (∀ y, sg_ E1 0 (min i m) y ↔ sg_ E 0 (min i m) y) → (∀ j, i ≤ j → E1 j = E j) → (∀ Q, uq_ E m Q → uq_ E1 m Q) → nk_M_sorts_2 x i M1 R := by
    refine lp_up (fun i hi ih i1 M1 E1 f1 e1 s1 m1 g1 u1 => ?_)
    refine ng_M_sorts_2 _ _ _ _ ?_
    rw [mm_w_id (x := x + 6) (by omega), e1.1]
    refine ⟨by omega, fun c => ?_, fun c => ?_⟩
    · rw [show min i m = m by omega] at s1 m1
      exact h M1 E1 f1 e1 s1 m1 u1
    rw [show min i m = i by omega] at s1 m1
    -- the inner loop: E1 i moves ahead
    have L2 : ∀ a : Int, 0 ≤ a → a ≤ i → ∀ M2 E2, fr_ (a8_ (x + 215) (x + 215 + 4 * m)) M M2 → eM_ M2 x m E2 → (∀ j, 0 ≤ j → j < a → E2 j = E1 j) → E2 a = E1 i → (∀ j, a ≤ j → j < i → E2 (j + 1) = E1 j ∧ E1 i < E1 j) → (∀ j, i < j → E2 j = E1 j) → (∀ Q, uq_ E m Q → uq_ E2 m Q) → nk_M_sorts_17 x i a M2 R := by
      refine lp_dn (fun a ha iha hai M2 E2 f2 e2 lo mid hi2 up u2 => ?_)
      have done : (∀ j, 0 ≤ j → j < a → E1 j ≤ E1 i) → nk_M_sorts_2 x (mm_w (i + 1)) M2 R := by
        intro hlo
        rw [mm_w_id (x := i + 1) (by omega)]
        have hF : ∀ j, 0 ≤ j → j ≤ i → E2 j = if j < a then E1 j else if j = a then E1 i else E1 (j - 1) := by
          intro j j0 j1
          by_cases z : j < a
          · rw [if_pos z]; exact lo j j0 z
          · rw [if_neg z]
            by_cases y : j = a
            · rw [if_pos y, y]; exact mid
            · rw [if_neg y]
              have := (hi2 (j - 1) (by omega) (by omega)).1
              rw [show j - 1 + 1 = j by omega] at this
              exact this
        obtain ⟨q1, q2⟩ := so_ins ⟨ha, hai⟩ s1 hlo (fun j j0 j1 => (hi2 j j0 j1).2) hF
        refine ih (by omega) (by omega) M2 E2 f2 e2 (by rw [show min (i + 1) m = i + 1 by omega]; exact q1) (fun y => ?_) (fun j j0 => by rw [up j (by omega)]; exact g1 j (by omega)) u2
        rw [show min (i + 1) m = i + 1 by omega, q2 y, m1 y]
        constructor
        · rintro (rfl | ⟨j, j0, j1, j2⟩)
          · exact ⟨i, by omega, by omega, (g1 i (Int.le_refl _)).symm⟩
          · exact ⟨j, j0, by omega, j2⟩
        · rintro ⟨j, j0, j1, j2⟩
          by_cases z : j = i
          · rw [z, ← g1 i (Int.le_refl _)] at j2; exact Or.inl j2.symm
          · exact Or.inr ⟨j, j0, by omega, j2⟩
      refine ng_M_sorts_17 _ _ _ _ _ ⟨fun q => done (fun j j0 j1 => by omega), fun q => ?_⟩
      rw [mm_w_id (x := a - 1) (by omega), mm_w_id (x := a + -1) (by omega), nf_entryAt ⟨by omega, by omega⟩ ⟨by omega, by omega⟩, nf_entryAt ⟨by omega, by omega⟩ ⟨by omega, by omega⟩]
      refine ct_M_isAhead (by omega) (by omega) (e2.2.2.2 a ha (by omega)) (e2.2.2.2 (a - 1) (by omega) (by omega)) (fun w => ⟨fun r => absurd r (by decide), fun _ => ?_⟩) (fun w => ⟨fun _ => done ?_, fun r => absurd rfl r⟩)
      · rw [mid, lo (a - 1) (by omega) (by omega)] at w
        refine ct_M_swaps (by omega) (by omega) (by omega) (fun M3 f3 g3 => ?_)
        rw [show a + -1 = a - 1 by omega]
        have f13 : fr_ (a8_ (x + 215) (x + 215 + 4 * m)) M M3 := fr_trans f2 (fr_mono f3 (fun o b z => ⟨z.1, by omega⟩))
        have rd3 : ∀ i, 0 ≤ i → ¬ (x + 215 + 4 * (a - 1) ≤ i ∧ i < x + 215 + 4 * a + 4) → nn_ri M3 408 i = nn_ri M2 408 i := fun i i0 hn => fr_ri f3 (fun z => by have := z.2; omega)
        refine iha q (by omega) M3 (fun j => if j = a then E2 (a - 1) else if j = a - 1 then E2 a else E2 j) f13 ⟨by rw [rd3 _ (by omega) (by omega)]; exact e2.1, m0, m160, fun e e0 em => ?_⟩ (fun j j0 j1 => ?_) ?_ (fun j j0 j1 => ?_) (fun j j0 => ?_) (fun Q hQ => uq_swap (by omega) (by omega) (u2 Q hQ))
        · show e4_ M3 (x + 215 + 4 * e) (if e = a then E2 (a - 1) else if e = a - 1 then E2 a else E2 e)
          by_cases z : e = a
          · rw [if_pos z, z]
            have := e2.2.2.2 (a - 1) (by omega) (by omega)
            have g0 := (g3 0 (by omega) (by omega)).1
            rw [show x + 215 + 4 * a + 0 = x + 215 + 4 * a by omega, show x + 215 + 4 * (a - 1) + 0 = x + 215 + 4 * (a - 1) by omega] at g0
            exact e4_cg this g0 (g3 1 (by omega) (by omega)).1 (g3 2 (by omega) (by omega)).1 (g3 3 (by omega) (by omega)).1
          · rw [if_neg z]
            by_cases y : e = a - 1
            · rw [if_pos y, y]
              have := e2.2.2.2 a (by omega) (by omega)
              have g0 := (g3 0 (by omega) (by omega)).2
              rw [show x + 215 + 4 * a + 0 = x + 215 + 4 * a by omega, show x + 215 + 4 * (a - 1) + 0 = x + 215 + 4 * (a - 1) by omega] at g0
              exact e4_cg this g0 (g3 1 (by omega) (by omega)).2 (g3 2 (by omega) (by omega)).2 (g3 3 (by omega) (by omega)).2
            · rw [if_neg y]
              exact e4_cg (e2.2.2.2 e e0 em) (rd3 _ (by omega) (by omega)) (rd3 _ (by omega) (by omega)) (rd3 _ (by omega) (by omega)) (rd3 _ (by omega) (by omega))
        · show (if j = a then E2 (a - 1) else if j = a - 1 then E2 a else E2 j) = E1 j
          rw [if_neg (by omega), if_neg (by omega)]
          exact lo j j0 (by omega)
        · show (if a - 1 = a then E2 (a - 1) else if a - 1 = a - 1 then E2 a else E2 (a - 1)) = E1 i
          rw [if_neg (by omega), if_pos rfl]
          exact mid
        · show (if j + 1 = a then E2 (a - 1) else if j + 1 = a - 1 then E2 a else E2 (j + 1)) = E1 j ∧ E1 i < E1 j
          by_cases z : j + 1 = a
          · rw [if_pos z, lo (a - 1) (by omega) (by omega), show j = a - 1 by omega]
            exact ⟨rfl, w⟩
          · rw [if_neg z, if_neg (by omega)]
            exact hi2 j (by omega) j1
        · show (if j = a then E2 (a - 1) else if j = a - 1 then E2 a else E2 j) = E1 j
          rw [if_neg (by omega), if_neg (by omega)]
          exact up j j0
      · intro j j0 j1
        rw [mid, lo (a - 1) (by omega) (by omega)] at w
        by_cases z : j = a - 1
        · rw [z]; exact w
        · exact Int.le_trans (s1 j (a - 1) j0 (by omega) (by omega)) w
    exact L2 i (by omega) (Int.le_refl _) M1 E1 f1 e1 (fun _ _ _ => rfl) rfl (fun j j0 j1 => by omega) (fun _ _ => rfl) u1
  refine L 1 (by omega) (Int.le_refl _) M E (fr_refl M) ⟨k1, m0, m160, k4⟩ (fun a b a0 a1 a2 => by omega) (fun _ => Iff.rfl) (fun _ _ => rfl) (fun _ hQ => hQ)
