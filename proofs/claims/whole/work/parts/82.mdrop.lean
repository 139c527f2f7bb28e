/-! the Model: an entry comes, goes; how many a run has; a number -/
theorem ct_M_adds {x m r v k s : Int} {M : mm_M} {R : mm_M → Prop} {E : Int → Int} (hx : 0 ≤ x ∧ x + 855 ≤ 32844) (e : eM_ M x m E) (hm : m < 160) (hr : 0 ≤ r ∧ r < 100) (hv : 0 ≤ v ∧ v < 10000) (hk : 0 ≤ k ∧ k < 32) (hs : 0 ≤ s ∧ s < 2147483648)
    (h : ∀ M', fr_ (fun o b => o = 408 ∧ ((b : Int) = x + 6 ∨ (x + 215 + 4 * m ≤ (b : Int) ∧ (b : Int) < x + 215 + 4 * m + 4))) M M' → eM_ M' x (m + 1) (fun i => if i = m then r * 4503599627370496 + en_ v k s else E i) → R M') : nr_M_adds x r v k s M R := by
  obtain ⟨e1, m0, m160, e4⟩ := e
  refine ng_M_adds _ _ _ _ _ _ _ ?_
  rw [mm_w_id (x := x + 6) (by omega), e1, nf_entryAt ⟨by omega, by omega⟩ ⟨by omega, by omega⟩]
  refine ⟨by omega, ?_⟩
  intro y ey
  rw [ey, mm_w_id (x := x + 215 + 4 * m + 1) (by omega), mm_w_id (x := x + 215 + 4 * m + 2) (by omega), mm_w_id (x := x + 215 + 4 * m + 3) (by omega)]
  refine ⟨by omega, ?_⟩
  rintro _ rfl
  refine ⟨by omega, ?_⟩
  rintro _ rfl
  refine ⟨by omega, ?_⟩
  rintro _ rfl
  refine ⟨by omega, ?_⟩
  rintro _ rfl
  refine ⟨by omega, by omega, ?_⟩
  have g6 : nn_ri (nn_ui (nn_ui (nn_ui (nn_ui M 408 (x + 215 + 4 * m) r) 408 (x + 215 + 4 * m + 1) v) 408 (x + 215 + 4 * m + 2) k) 408 (x + 215 + 4 * m + 3) s) 408 (x + 6) = m := by
    rw [rd_ii, if_neg (by omega), rd_ii, if_neg (by omega), rd_ii, if_neg (by omega), rd_ii, if_neg (by omega), e1]
  rw [g6, mm_w_id (x := m + 1) (by omega)]
  rintro _ rfl
  obtain ⟨p1, p2, p3, p4⟩ := en_parts hv hk hs
  have rd : ∀ i, 0 ≤ i → i ≠ x + 6 → (i < x + 215 + 4 * m ∨ x + 215 + 4 * m + 4 ≤ i) → nn_ri (nn_ui (nn_ui (nn_ui (nn_ui (nn_ui M 408 (x + 215 + 4 * m) r) 408 (x + 215 + 4 * m + 1) v) 408 (x + 215 + 4 * m + 2) k) 408 (x + 215 + 4 * m + 3) s) 408 (x + 6) (m + 1)) 408 i = nn_ri M 408 i := by
    intro i i0 h1 h2
    rw [rd_ii, if_neg (by omega), rd_ii, if_neg (by omega), rd_ii, if_neg (by omega), rd_ii, if_neg (by omega), rd_ii, if_neg (by omega)]
  refine h _ (fr_ui (fr_ui (fr_ui (fr_ui (fr_ui (fr_refl M) ⟨rfl, by omega⟩) ⟨rfl, by omega⟩) ⟨rfl, by omega⟩) ⟨rfl, by omega⟩) ⟨rfl, by omega⟩) ⟨by rw [rd_ii, if_pos ⟨rfl, rfl⟩], by omega, by omega, fun i i0 i1 => ?_⟩
  show e4_ _ (x + 215 + 4 * i) (if i = m then r * 4503599627370496 + en_ v k s else E i)
  by_cases z : i = m
  · rw [if_pos z, z]
    have hen := p1
    unfold ve_ at hen
    have d1 : (r * 4503599627370496 + en_ v k s) % 4503599627370496 = en_ v k s := by omega
    have d2 : (r * 4503599627370496 + en_ v k s) / 4503599627370496 = r := by omega
    refine ⟨by omega, by rw [d1]; exact p1, ?_, ?_, ?_, ?_⟩
    · rw [d2, rd_ii, if_neg (by omega), rd_ii, if_neg (by omega), rd_ii, if_neg (by omega), rd_ii, if_neg (by omega), rd_ii, if_pos ⟨rfl, rfl⟩]
    · rw [d1, p2, rd_ii, if_neg (by omega), rd_ii, if_neg (by omega), rd_ii, if_neg (by omega), rd_ii, if_pos ⟨rfl, rfl⟩]
    · rw [d1, p3, rd_ii, if_neg (by omega), rd_ii, if_neg (by omega), rd_ii, if_pos ⟨rfl, rfl⟩]
    · rw [d1, p4, rd_ii, if_neg (by omega), rd_ii, if_pos ⟨rfl, rfl⟩]
  · rw [if_neg z]
    exact e4_cg (e4 i i0 (by omega)) (rd _ (by omega) (by omega) (by omega)) (rd _ (by omega) (by omega) (by omega)) (rd _ (by omega) (by omega) (by omega)) (rd _ (by omega) (by omega) (by omega))
theorem ct_M_drops {x m e : Int} {M : mm_M} {R : mm_M → Prop} {E : Int → Int} (hx : 0 ≤ x ∧ x + 855 ≤ 32844) (k : eM_ M x m E) (he : 0 ≤ e ∧ e < m)
    (h : ∀ M', fr_ (fun o b => o = 408 ∧ ((b : Int) = x + 6 ∨ (x + 215 + 4 * e ≤ (b : Int) ∧ (b : Int) < x + 215 + 4 * m))) M M' → eM_ M' x (m - 1) (fun i => if i < e then E i else E (i + 1)) → R M') : nr_M_drops x e M R := by
  obtain ⟨e1, m0, m160, e4⟩ := k
  refine ng_M_drops _ _ _ _ ?_
  rw [nf_entryAt ⟨by omega, by omega⟩ ⟨by omega, by omega⟩]
  have L : ∀ i : Int, i ≤ x + 215 + 4 * (m - 1) → x + 215 + 4 * e ≤ i → ∀ M1, fr_ (fun o b => o = 408 ∧ x + 215 + 4 * e ≤ (b : Int) ∧ (b : Int) < x + 215 + 4 * m) M M1 → (∀ j, 0 ≤ j → nn_ri M1 408 j = if x + 215 + 4 * e ≤ j ∧ j < i then nn_ri M 408 (j + 4) else nn_ri M 408 j) → nk_M_drops_6 x i M1 R := by
    refine lp_up (fun i hi ih i0 M1 f1 g1 => ?_)
    have g6 : nn_ri M1 408 (x + 6) = m := by rw [g1 _ (by omega), if_neg (by omega), e1]
    refine ng_M_drops_6 _ _ _ _ ?_
    rw [mm_w_id (x := x + 6) (by omega), g6, mm_w_id (x := m - 1) (by omega), nf_entryAt ⟨by omega, by omega⟩ ⟨by omega, by omega⟩, mm_w_id (x := i + 4) (by omega), mm_w_id (x := i + 1) (by omega)]
    refine ⟨by omega, fun c => ⟨by omega, by omega, ?_⟩, fun c => ⟨by omega, by omega, ?_⟩⟩
    · have : i = x + 215 + 4 * (m - 1) := by omega
      rintro _ rfl
      refine h _ (fr_ui (fr_mono f1 (fun o b z => ⟨z.1, Or.inr z.2⟩)) ⟨rfl, by omega⟩) ⟨by rw [rd_ii, if_pos ⟨rfl, rfl⟩], by omega, by omega, fun j j0 j1 => ?_⟩
      show e4_ _ (x + 215 + 4 * j) (if j < e then E j else E (j + 1))
      have rd : ∀ c, 0 ≤ c → c ≠ x + 6 → nn_ri (nn_ui M1 408 (x + 6) (m - 1)) 408 c = if x + 215 + 4 * e ≤ c ∧ c < i then nn_ri M 408 (c + 4) else nn_ri M 408 c := by
        intro c c0 c1
        rw [rd_ii, if_neg (by omega)]
        exact g1 c c0
      by_cases z : j < e
      · rw [if_pos z]
        refine e4_cg (e4 j j0 (by omega)) ?_ ?_ ?_ ?_
        · rw [rd _ (by omega) (by omega), if_neg (by omega)]
        · rw [rd _ (by omega) (by omega), if_neg (by omega)]
        · rw [rd _ (by omega) (by omega), if_neg (by omega)]
        · rw [rd _ (by omega) (by omega), if_neg (by omega)]
      · rw [if_neg z]
        refine e4_cg (e4 (j + 1) (by omega) (by omega)) ?_ ?_ ?_ ?_
        · rw [rd _ (by omega) (by omega), if_pos (by omega)]; congr 1; omega
        · rw [rd _ (by omega) (by omega), if_pos (by omega)]; congr 1; omega
        · rw [rd _ (by omega) (by omega), if_pos (by omega)]; congr 1; omega
        · rw [rd _ (by omega) (by omega), if_pos (by omega)]; congr 1; omega
    · rintro _ rfl
      refine ih (by omega) (by omega) _ (fr_ui f1 ⟨rfl, by omega⟩) (fun j j0 => ?_)
      rw [rd_ii]
      by_cases z : j = i
      · rw [if_pos ⟨rfl, by rw [z]⟩, if_pos (by omega), g1 (i + 4) (by omega), if_neg (by omega), z]
      · rw [if_neg (by omega), g1 j j0]
        by_cases y : x + 215 + 4 * e ≤ j ∧ j < i
        · rw [if_pos y, if_pos (by omega)]
        · rw [if_neg y, if_neg (by omega)]
  exact L _ (by omega) (Int.le_refl _) M (fr_refl M) (fun j j0 => by rw [if_neg (by omega)])
theorem ct_M_entriesOf {x m r : Int} {M : mm_M} {R : Int → mm_M → Prop} {E : Int → Int} (hx : 0 ≤ x ∧ x + 855 ≤ 32844) (k : eM_ M x m E) (h : R (ct_ (fun e => E e / 4503599627370496 == r) 0 m.toNat) M) : nr_M_entriesOf x r M R := by
  obtain ⟨e1, m0, m160, e4⟩ := k
  refine ng_M_entriesOf _ _ _ _ ?_
  have L : ∀ i : Int, i ≤ m → 0 ≤ i → nk_M_entriesOf_5 x r (ct_ (fun e => E e / 4503599627370496 == r) 0 i.toNat) i M R := by
    refine lp_up (fun i hi ih i0 => ?_)
    have hc := ct_in (fun e => E e / 4503599627370496 == r) 0 i.toNat
    refine ng_M_entriesOf_5 _ _ _ _ _ _ ?_
    rw [mm_w_id (x := x + 6) (by omega), e1]
    refine ⟨by omega, fun c => ?_, fun c => ?_⟩
    · have : i = m := by omega
      subst this
      exact h
    have nx := ih c (by omega)
    rw [show (i + 1).toNat = i.toNat + 1 by omega] at nx
    have e : ct_ (fun e => E e / 4503599627370496 == r) 0 (i.toNat + 1) = ct_ (fun e => E e / 4503599627370496 == r) 0 i.toNat + (if (E i / 4503599627370496 == r) = true then 1 else 0) := by
      show _ + (if (E (0 + (i.toNat : Int)) / 4503599627370496 == r) = true then (1 : Int) else 0) = _
      rw [show (0 : Int) + (i.toNat : Int) = i by omega]
    rw [e] at nx
    rw [nf_entryAt ⟨by omega, by omega⟩ ⟨by omega, by omega⟩, (e4 i i0 c).2.2.1, mm_w_id (x := i + 1) (by omega), mm_w_id (x := _ + (0 : Int)) (by omega), mm_w_id (x := _ + (1 : Int)) (by omega)]
    refine ⟨by omega, fun z => ?_, fun z => ?_⟩
    · rw [if_neg (by rw [beq_iff_eq]; exact z)] at nx; exact nx
    · rw [if_pos (by rw [beq_iff_eq]; exact z)] at nx; exact nx
  exact L 0 m0 (Int.le_refl _)
theorem ct_M_number {b : Int} {M : mm_M} {R : Int → mm_M → Prop} (hb : bk_ b) (hv : -2147483648 ≤ nn_ri M 408 (b + 8) + 1 ∧ nn_ri M 408 (b + 8) + 1 < 2147483648) (h : R (nn_ri M 408 (b + 8) + 1) (nn_ui M 408 (b + 8) (nn_ri M 408 (b + 8) + 1))) : nr_M_number b M R := by
  unfold bk_ at hb
  refine ng_M_number _ _ _ ?_
  rw [mm_w_id (x := b + 8) (by omega), mm_w_id hv]
  refine ⟨by omega, by omega, ?_⟩
  rintro _ rfl
  rw [rd_ii, if_pos ⟨rfl, rfl⟩]
  exact ⟨by omega, h⟩
theorem ct_M_isStale {b a y n : Int} {M : mm_M} {R : Int → mm_M → Prop} {mem : ab_V} {q : Int → ab_R} (hb : bk_ b) (ha : 0 ≤ a ∧ a + 4 ≤ 32844) (t : tM_ M b mem n q) (k : e4_ M a y) (h : R (if fs_ (lk_ mem n q) (y % 4503599627370496) = true then 0 else 1) M) : nr_M_isStale b a M R := by
  obtain ⟨h0, hv, h1, h2, h3, h4⟩ := k
  have hk := ek_in (y % 4503599627370496)
  refine ng_M_isStale _ _ _ _ ?_
  rw [mm_w_id (x := a + 2) (by omega), mm_w_id (x := a + 3) (by omega), h3]
  refine ⟨by omega, ct_M_stampOf hb hk t ⟨by omega, ?_⟩⟩
  rw [h4]
  unfold fs_ at h
  cases hp : lk_ mem n q (ek_ (y % 4503599627370496)).toNat with
  | none =>
    rw [hp] at h
    refine ⟨fun z => ?_, fun _ => h⟩
    have : (-1 : Int) = et_ (y % 4503599627370496) := z
    unfold et_ at this
    omega
  | some p =>
    rw [hp] at h
    refine ⟨fun z => ?_, fun z => ?_⟩
    · have e : (p.1 == et_ (y % 4503599627370496)) = true := beq_iff_eq.mpr z
      have h' : R (if (p.1 == et_ (y % 4503599627370496)) = true then 0 else 1) M := h
      rw [if_pos e] at h'
      exact h'
    · have e : ¬ (p.1 == et_ (y % 4503599627370496)) = true := fun w => z (beq_iff_eq.mp w)
      have h' : R (if (p.1 == et_ (y % 4503599627370496)) = true then 0 else 1) M := h
      rw [if_neg e] at h'
      exact h'
