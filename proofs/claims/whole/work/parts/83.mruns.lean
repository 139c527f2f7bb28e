/-! the Model: the heads of an index' runs; one is laid, one goes -/
def hM_ (M : mm_M) (x n : Int) (g : Int → ab_P) : Prop := nn_ri M 408 (x + 5) = n ∧ 0 ≤ n ∧ n ≤ 23 ∧ ∀ r, 0 ≤ r → r < n → nn_ri M 408 (x + 143 + 3 * r) = (g r).2.1 ∧ nn_ri M 408 (x + 143 + 3 * r + 1) = (g r).2.2.1 ∧ nn_ri M 408 (x + 143 + 3 * r + 2) = (g r).2.2.2.1
theorem ct_M_lays {b x r level rep n : Int} (cid : Int) (S : Int → Prop) {M : mm_M} {R : mm_M → Prop} {g : Int → ab_P} (hb : bk_ b) (hx : b + 9 ≤ x ∧ x + 855 ≤ 32844) (k : hM_ M x n g) (hr : 0 ≤ r ∧ r < n) (hv : -2147483648 ≤ nn_ri M 408 (b + 8) + 1 ∧ nn_ri M 408 (b + 8) + 1 < 2147483648)
    (h : ∀ M', fr_ (fun o c => o = 408 ∧ ((c : Int) = b + 8 ∨ (x + 143 + 3 * r ≤ (c : Int) ∧ (c : Int) < x + 143 + 3 * r + 3))) M M' → nn_ri M' 408 (b + 8) = nn_ri M 408 (b + 8) + 1 → hM_ M' x n (stP_ r (cid, nn_ri M 408 (b + 8) + 1, level, rep, S) g) → R M') : nr_M_lays b x r level rep M R := by
  obtain ⟨k1, n0, n23, k4⟩ := k
  have hb' := hb
  unfold bk_ at hb'
  refine ng_M_lays _ _ _ _ _ _ _ ?_
  refine ct_M_number hb hv ?_
  rw [nf_head ⟨by omega, by omega⟩ ⟨by omega, by omega⟩, mm_w_id (x := x + 143 + 3 * r + 1) (by omega), mm_w_id (x := x + 143 + 3 * r + 2) (by omega)]
  generalize hnew : nn_ri M 408 (b + 8) + 1 = new at h hv ⊢
  refine ⟨by omega, ?_⟩
  rintro _ rfl
  refine ⟨by omega, ?_⟩
  rintro _ rfl
  refine ⟨by omega, ?_⟩
  rintro _ rfl
  have rd : ∀ i, 0 ≤ i → i ≠ b + 8 → (i < x + 143 + 3 * r ∨ x + 143 + 3 * r + 3 ≤ i) → nn_ri (nn_ui (nn_ui (nn_ui (nn_ui M 408 (b + 8) new) 408 (x + 143 + 3 * r) new) 408 (x + 143 + 3 * r + 1) level) 408 (x + 143 + 3 * r + 2) rep) 408 i = nn_ri M 408 i := by
    intro i i0 h1 h2
    rw [rd_ii, if_neg (by omega), rd_ii, if_neg (by omega), rd_ii, if_neg (by omega), rd_ii, if_neg (by omega)]
  refine h _ (fr_ui (fr_ui (fr_ui (fr_ui (fr_refl M) ⟨rfl, by omega⟩) ⟨rfl, by omega⟩) ⟨rfl, by omega⟩) ⟨rfl, by omega⟩) ?_ ⟨by rw [rd _ (by omega) (by omega) (by omega)]; exact k1, n0, n23, fun j j0 j1 => ?_⟩
  · rw [rd_ii, if_neg (by omega), rd_ii, if_neg (by omega), rd_ii, if_neg (by omega), rd_ii, if_pos ⟨rfl, rfl⟩]
  · unfold stP_
    by_cases z : j = r
    · rw [if_pos z, z]
      refine ⟨?_, ?_, ?_⟩
      · rw [rd_ii, if_neg (by omega), rd_ii, if_neg (by omega), rd_ii, if_pos ⟨rfl, rfl⟩]
      · rw [rd_ii, if_neg (by omega), rd_ii, if_pos ⟨rfl, rfl⟩]
      · rw [rd_ii, if_pos ⟨rfl, rfl⟩]
    · rw [if_neg z]
      obtain ⟨y1, y2, y3⟩ := k4 j j0 j1
      exact ⟨(rd _ (by omega) (by omega) (by omega)).trans y1, (rd _ (by omega) (by omega) (by omega)).trans y2, (rd _ (by omega) (by omega) (by omega)).trans y3⟩
/-- the runs' numbers behind one that goes -/
def go_ (r : Int) (y : Int) : Int := if r + 1 < y / 4503599627370496 then y - 4503599627370496 else y
theorem ct_M_runGoes {x r n m : Int} {M : mm_M} {R : mm_M → Prop} {g : Int → ab_P} {E : Int → Int} (hx : 0 ≤ x ∧ x + 855 ≤ 32844) (k : hM_ M x n g) (e : eM_ M x m E) (hr : 0 ≤ r ∧ r < n) (hE : ∀ i, 0 ≤ i → i < m → E i / 4503599627370496 < 1000)
    (h : ∀ M', fr_ (fun o c => o = 408 ∧ ((c : Int) = x + 5 ∨ (x + 143 ≤ (c : Int) ∧ (c : Int) < x + 855))) M M' → hM_ M' x (n - 1) (cuP_ r 1 g) → eM_ M' x m (fun i => go_ r (E i)) → R M') : nr_M_runGoes x r M R := by
  obtain ⟨k1, n0, n23, k4⟩ := k
  obtain ⟨e1, m0, m160, e4⟩ := e
  refine ng_M_runGoes _ _ _ _ ?_
  rw [nf_head ⟨by omega, by omega⟩ ⟨by omega, by omega⟩]
  -- the numbers of the entries' runs
  have L2 : ∀ M1, fr_ (fun o c => o = 408 ∧ ((c : Int) = x + 5 ∨ (x + 143 ≤ (c : Int) ∧ (c : Int) < x + 215))) M M1 → hM_ M1 x (n - 1) (cuP_ r 1 g) → ∀ i : Int, i ≤ m → 0 ≤ i → ∀ M2, fr_ (a8_ (x + 215) (x + 855)) M1 M2 → (∀ j, 0 ≤ j → j < m → e4_ M2 (x + 215 + 4 * j) (if j < i then go_ r (E j) else E j)) → nk_M_runGoes_58 x r i M2 R := by
    intro M1 f1 h1
    refine lp_up (fun i hi ih i0 M2 f2 g2 => ?_)
    have g6 : nn_ri M2 408 (x + 6) = m := by
      rw [a8_ri f2 (by omega) (by omega), fr_ri f1 (fun z => by have := z.2; omega)]
      exact e1
    refine ng_M_runGoes_58 _ _ _ _ _ ?_
    rw [mm_w_id (x := x + 6) (by omega), g6, nf_entryAt ⟨by omega, by omega⟩ ⟨by omega, by omega⟩, mm_w_id (x := r + 1) (by omega), mm_w_id (x := i + 1) (by omega)]
    refine ⟨by omega, fun c => ?_, fun c => ⟨by omega, by omega, ?_⟩⟩
    · have hm : hM_ M2 x (n - 1) (cuP_ r 1 g) := by
        obtain ⟨a1, a2, a3, a4⟩ := h1
        refine ⟨(a8_ri f2 (by omega) (by omega)).trans a1, a2, a3, fun j j0 j1 => ?_⟩
        obtain ⟨y1, y2, y3⟩ := a4 j j0 j1
        exact ⟨(a8_ri f2 (by omega) (by omega)).trans y1, (a8_ri f2 (by omega) (by omega)).trans y2, (a8_ri f2 (by omega) (by omega)).trans y3⟩
      refine h M2 (fr_trans (fr_mono f1 (fun o b z => ⟨z.1, by omega⟩)) (fr_mono f2 (fun o b z => ⟨z.1, by have := z.2; omega⟩))) hm ⟨g6, m0, m160, fun j j0 j1 => ?_⟩
      have := g2 j j0 j1
      rw [if_pos (by omega)] at this
      exact this
    have gi := g2 i i0 c
    rw [if_neg (by omega)] at gi
    obtain ⟨p0, pv, p1, p2, p3, p4⟩ := gi
    have hEi := hE i i0 c
    rw [p1, mm_w_id (x := E i / 4503599627370496 - 0) (by omega), mm_w_id (x := E i / 4503599627370496 - 1) (by omega)]
    have stp : ∀ v : Int, e4_ (nn_ui M2 408 (x + 215 + 4 * i) v) (x + 215 + 4 * i) (go_ r (E i)) → nk_M_runGoes_58 x r (i + 1) (nn_ui M2 408 (x + 215 + 4 * i) v) R := by
      intro v hv
      refine ih c (by omega) _ (fr_ui f2 ⟨rfl, by omega, by omega⟩) (fun j j0 j1 => ?_)
      by_cases z : j = i
      · subst z
        rw [if_pos (by omega)]
        exact hv
      · have w : (if j < i + 1 then go_ r (E j) else E j) = (if j < i then go_ r (E j) else E j) := by
          by_cases y : j < i
          · rw [if_pos y, if_pos (by omega)]
          · rw [if_neg y, if_neg (by omega)]
        rw [w]
        have rd : ∀ c, 0 ≤ c → c ≠ x + 215 + 4 * i → nn_ri (nn_ui M2 408 (x + 215 + 4 * i) v) 408 c = nn_ri M2 408 c := fun c c0 c1 => by rw [rd_ii, if_neg (by omega)]
        exact e4_cg (g2 j j0 j1) (rd _ (by omega) (by omega)) (rd _ (by omega) (by omega)) (rd _ (by omega) (by omega)) (rd _ (by omega) (by omega))
    have mk : ∀ v y : Int, 0 ≤ y → y % 4503599627370496 = E i % 4503599627370496 → v = y / 4503599627370496 → e4_ (nn_ui M2 408 (x + 215 + 4 * i) v) (x + 215 + 4 * i) y := by
      intro v y y0 ym yv
      refine ⟨y0, by rw [ym]; exact pv, by rw [rd_ii, if_pos ⟨rfl, rfl⟩, yv], ?_, ?_, ?_⟩
      · rw [rd_ii, if_neg (by omega), p2, ym]
      · rw [rd_ii, if_neg (by omega), p3, ym]
      · rw [rd_ii, if_neg (by omega), p4, ym]
    refine ⟨fun z => ⟨by omega, ?_⟩, fun z => ⟨by omega, ?_⟩⟩
    · rintro _ rfl
      refine stp _ (mk _ _ ?_ ?_ ?_)
      · unfold go_; rw [if_neg (by omega)]; exact p0
      · unfold go_; rw [if_neg (by omega)]
      · unfold go_; rw [if_neg (by omega)]; omega
    · rintro _ rfl
      refine stp _ (mk _ _ ?_ ?_ ?_)
      · unfold go_; rw [if_pos z]; omega
      · unfold go_; rw [if_pos z]; omega
      · unfold go_; rw [if_pos z]; omega
  have L1 : ∀ i : Int, i ≤ x + 143 + 3 * (n - 1) → x + 143 + 3 * r ≤ i → ∀ M1, fr_ (fun o c => o = 408 ∧ x + 143 + 3 * r ≤ (c : Int) ∧ (c : Int) < x + 143 + 3 * n) M M1 → (∀ j, 0 ≤ j → nn_ri M1 408 j = if x + 143 + 3 * r ≤ j ∧ j < i then nn_ri M 408 (j + 3) else nn_ri M 408 j) → nk_M_runGoes_6 x r i M1 R := by
    refine lp_up (fun i hi ih i0 M1 f1 g1 => ?_)
    have g5 : nn_ri M1 408 (x + 5) = n := by rw [g1 _ (by omega), if_neg (by omega), k1]
    refine ng_M_runGoes_6 _ _ _ _ _ ?_
    rw [mm_w_id (x := x + 5) (by omega), g5, mm_w_id (x := n - 1) (by omega), nf_head ⟨by omega, by omega⟩ ⟨by omega, by omega⟩, mm_w_id (x := i + 3) (by omega), mm_w_id (x := i + 1) (by omega)]
    refine ⟨by omega, fun c => ⟨by omega, by omega, ?_⟩, fun c => ⟨by omega, by omega, ?_⟩⟩
    · have : i = x + 143 + 3 * (n - 1) := by omega
      rintro _ rfl
      have rd : ∀ c, 0 ≤ c → c ≠ x + 5 → nn_ri (nn_ui M1 408 (x + 5) (n - 1)) 408 c = if x + 143 + 3 * r ≤ c ∧ c < i then nn_ri M 408 (c + 3) else nn_ri M 408 c := by
        intro c c0 c1
        rw [rd_ii, if_neg (by omega)]
        exact g1 c c0
      refine L2 _ (fr_ui (fr_mono f1 (fun o b z => ⟨z.1, Or.inr (by have := z.2; omega)⟩)) ⟨rfl, by omega⟩) ⟨by rw [rd_ii, if_pos ⟨rfl, rfl⟩], by omega, by omega, fun j j0 j1 => ?_⟩ 0 m0 (Int.le_refl _) _ (fr_refl _) (fun j j0 j1 => ?_)
      · unfold cuP_
        by_cases z : j < r
        · obtain ⟨y1, y2, y3⟩ := k4 j j0 (by omega)
          rw [if_pos z]
          refine ⟨?_, ?_, ?_⟩
          · rw [rd _ (by omega) (by omega), if_neg (by omega)]; exact y1
          · rw [rd _ (by omega) (by omega), if_neg (by omega)]; exact y2
          · rw [rd _ (by omega) (by omega), if_neg (by omega)]; exact y3
        · obtain ⟨y1, y2, y3⟩ := k4 (j + 1) (by omega) (by omega)
          rw [if_neg z]
          refine ⟨?_, ?_, ?_⟩
          · rw [rd _ (by omega) (by omega), if_pos (by omega), show x + 143 + 3 * j + 3 = x + 143 + 3 * (j + 1) by omega]; exact y1
          · rw [rd _ (by omega) (by omega), if_pos (by omega), show x + 143 + 3 * j + 1 + 3 = x + 143 + 3 * (j + 1) + 1 by omega]; exact y2
          · rw [rd _ (by omega) (by omega), if_pos (by omega), show x + 143 + 3 * j + 2 + 3 = x + 143 + 3 * (j + 1) + 2 by omega]; exact y3
      · rw [if_neg (by omega)]
        refine e4_cg (e4 j j0 j1) ?_ ?_ ?_ ?_
        · rw [rd _ (by omega) (by omega), if_neg (by omega)]
        · rw [rd _ (by omega) (by omega), if_neg (by omega)]
        · rw [rd _ (by omega) (by omega), if_neg (by omega)]
        · rw [rd _ (by omega) (by omega), if_neg (by omega)]
    · rintro _ rfl
      refine ih (by omega) (by omega) _ (fr_ui f1 ⟨rfl, by omega⟩) (fun j j0 => ?_)
      rw [rd_ii]
      by_cases z : j = i
      · rw [if_pos ⟨rfl, by rw [z]⟩, if_pos (by omega), g1 (i + 3) (by omega), if_neg (by omega), z]
      · rw [if_neg (by omega), g1 j j0]
        by_cases y : x + 143 + 3 * r ≤ j ∧ j < i
        · rw [if_pos y, if_pos (by omega)]
        · rw [if_neg y, if_neg (by omega)]
  exact L1 _ (by omega) (Int.le_refl _) M (fr_refl M) (fun j j0 => by rw [if_neg (by omega)])
