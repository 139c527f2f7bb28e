/-! the Model: a run of the table goes; an older run's versions are taken in -/
theorem mv_cg {M M' : mm_M} {x y : Int} (h : ∀ j : Int, 0 ≤ j → j < 64 → nn_ri M' 408 (y + j) = nn_ri M 408 (x + j)) : mv_ M' y = mv_ M x := by
  funext k
  unfold mv_
  by_cases z : k < 32
  · have h1 := h k (by omega) (by omega)
    have h2 := h (32 + k) (by omega) (by omega)
    rw [show y + (32 + (k : Int)) = y + 32 + k by omega, show x + (32 + (k : Int)) = x + 32 + k by omega] at h2
    rw [h1, h2]
  · rw [if_neg (fun w => z w.1), if_neg (fun w => z w.1)]
theorem rM_cg {M M' : mm_M} {b b' r s : Int} {q : ab_R} (h : ∀ j : Int, 0 ≤ j → j < 68 → nn_ri M' 408 (b' + 288 + 68 * s + j) = nn_ri M 408 (b + 288 + 68 * r + j)) (k : rM_ M b r q) : rM_ M' b' s q := by
  obtain ⟨k1, k2, k3, k4, k5, k6⟩ := k
  have h0 := h 0 (by omega) (by omega)
  rw [show b' + 288 + 68 * s + 0 = b' + 288 + 68 * s by omega, show b + 288 + 68 * r + 0 = b + 288 + 68 * r by omega] at h0
  refine ⟨h0.trans k1, (h 1 (by omega) (by omega)).trans k2, (h 2 (by omega) (by omega)).trans k3, (h 3 (by omega) (by omega)).trans k4, ?_, fun k k0 k1' => ?_⟩
  · rw [← k5]
    refine mv_cg (fun j j0 j1 => ?_)
    have := h (4 + j) (by omega) (by omega)
    rw [show b' + 288 + 68 * s + (4 + j) = b' + 288 + 68 * s + 4 + j by omega, show b + 288 + 68 * r + (4 + j) = b + 288 + 68 * r + 4 + j by omega] at this
    exact this
  · have := h (4 + k) (by omega) (by omega)
    rw [show b' + 288 + 68 * s + (4 + k) = b' + 288 + 68 * s + 4 + k by omega, show b + 288 + 68 * r + (4 + k) = b + 288 + 68 * r + 4 + k by omega] at this
    rw [this]
    exact k6 k k0 k1'
theorem ct_M_tableGoes {b r n : Int} {M : mm_M} {R : mm_M → Prop} {mem : ab_V} {q : Int → ab_R} (hb : bk_ b) (t : tM_ M b mem n q) (hr : 0 ≤ r ∧ r < n)
    (h : ∀ M', fr_ (fun o c => o = 408 ∧ ((c : Int) = b + 5 ∨ (b + 288 + 68 * r ≤ (c : Int) ∧ (c : Int) < b + 288 + 68 * n))) M M' → tM_ M' b mem (n - 1) (cu_ r 1 q) → R M') : nr_M_tableGoes b r M R := by
  obtain ⟨t1, t2, ⟨t3, n0, n22⟩, t4⟩ := t
  have hb' := hb
  unfold bk_ at hb'
  refine ng_M_tableGoes _ _ _ _ ?_
  rw [nf_runAt hb ⟨hr.1, by omega⟩]
  have L : ∀ i : Int, i ≤ b + 288 + 68 * (n - 1) → b + 288 + 68 * r ≤ i → ∀ M1, fr_ (fun o c => o = 408 ∧ b + 288 + 68 * r ≤ (c : Int) ∧ (c : Int) < b + 288 + 68 * n) M M1 → (∀ j, 0 ≤ j → nn_ri M1 408 j = if b + 288 + 68 * r ≤ j ∧ j < i then nn_ri M 408 (j + 68) else nn_ri M 408 j) → nk_M_tableGoes_6 b i M1 R := by
    refine lp_up (fun i hi ih i0 M1 f1 g1 => ?_)
    have g5 : nn_ri M1 408 (b + 5) = n := by rw [g1 _ (by omega), if_neg (by omega), t3]
    refine ng_M_tableGoes_6 _ _ _ _ ?_
    rw [mm_w_id (x := b + 5) (by omega), g5, mm_w_id (x := n - 1) (by omega), nf_runAt hb ⟨by omega, by omega⟩, mm_w_id (x := i + 68) (by omega), mm_w_id (x := i + 1) (by omega)]
    refine ⟨by omega, fun c => ⟨by omega, by omega, ?_⟩, fun c => ⟨by omega, by omega, ?_⟩⟩
    · have hi2 : i = b + 288 + 68 * (n - 1) := by omega
      rintro _ rfl
      have rd : ∀ c, 0 ≤ c → c ≠ b + 5 → nn_ri (nn_ui M1 408 (b + 5) (n - 1)) 408 c = if b + 288 + 68 * r ≤ c ∧ c < i then nn_ri M 408 (c + 68) else nn_ri M 408 c := by
        intro c c0 c1
        rw [rd_ii, if_neg (by omega)]
        exact g1 c c0
      refine h _ (fr_ui (fr_mono f1 (fun o c z => ⟨z.1, Or.inr z.2⟩)) ⟨rfl, by omega⟩) ⟨?_, fun k k0 k1 => ?_, ⟨by rw [rd_ii, if_pos ⟨rfl, rfl⟩], by omega, by omega⟩, fun j j0 j1 => ?_⟩
      · rw [← t1]
        refine mv_cg (fun j j0 j1 => ?_)
        rw [rd _ (by omega) (by omega), if_neg (by omega)]
      · rw [rd _ (by omega) (by omega), if_neg (by omega)]
        exact t2 k k0 k1
      · unfold cu_
        by_cases z : j < r
        · rw [if_pos z]
          refine rM_cg (fun c c0 c1 => ?_) (t4 j j0 (by omega))
          rw [rd _ (by omega) (by omega), if_neg (by omega)]
        · rw [if_neg z]
          refine rM_cg (fun c c0 c1 => ?_) (t4 (j + 1) (by omega) (by omega))
          rw [rd _ (by omega) (by omega), if_pos (by omega)]
          congr 1
          omega
    · rintro _ rfl
      refine ih (by omega) (by omega) _ (fr_ui f1 ⟨rfl, by omega⟩) (fun j j0 => ?_)
      rw [rd_ii]
      by_cases z : j = i
      · rw [if_pos ⟨rfl, by rw [z]⟩, if_pos (by omega), g1 (i + 68) (by omega), if_neg (by omega), z]
      · rw [if_neg (by omega), g1 j j0]
        by_cases y : b + 288 + 68 * r ≤ j ∧ j < i
        · rw [if_pos y, if_pos (by omega)]
        · rw [if_neg y, if_neg (by omega)]
  exact L _ (by omega) (Int.le_refl _) M (fr_refl M) (fun j j0 => by rw [if_neg (by omega)])
/-- the versions of an older run, taken in at a -/
theorem ct_M_taken {b f many level old sure a y : Int} {rr : Int} {M : mm_M} {R : mm_M → Prop} (hf : -1000 ≤ f + many ∧ f + many < 1000) (ha : 0 ≤ a ∧ a + 68 ≤ 32844) (hy : a + 68 ≤ y ∧ y + 68 ≤ 32844) (hpos : ∀ k : Int, 0 ≤ k → k < 32 → 0 ≤ nn_ri M 408 (y + 4 + k)) (hposa : ∀ k : Int, 0 ≤ k → k < 32 → 0 ≤ nn_ri M 408 (a + 4 + k)) (hrr : -1000 ≤ rr ∧ rr < 1000)
    (h : ∀ M', fr_ (a8_ (a + 4) (a + 68)) M M' → (∀ k, mv_ M' (a + 4) k = or_ (mv_ M (a + 4) k) (mv_ M (y + 4) k)) → (∀ k : Int, 0 ≤ k → k < 32 → 0 ≤ nn_ri M' 408 (a + 4 + k)) → nk_M_mergesTable_40 b f many level old sure a (rr + 1) M' R) : nk_M_mergesTable_164 b f many level old sure a rr y (a + 4) M R := by
  have L : ∀ i : Int, i ≤ 32 → 0 ≤ i → ∀ M1, fr_ (a8_ (a + 4) (a + 68)) M M1 → (∀ k : Int, 0 ≤ k → k < 32 → (nn_ri M1 408 (a + 4 + k) = if k < i ∧ nn_ri M 408 (a + 4 + k) ≤ 0 then nn_ri M 408 (y + 4 + k) else nn_ri M 408 (a + 4 + k)) ∧ (nn_ri M1 408 (a + 36 + k) = if k < i ∧ nn_ri M 408 (a + 4 + k) ≤ 0 then nn_ri M 408 (y + 36 + k) else nn_ri M 408 (a + 36 + k))) → nk_M_mergesTable_164 b f many level old sure a rr y (a + 4 + i) M1 R := by
    refine lp_up (fun i hi ih i0 M1 f1 g1 => ?_)
    refine ng_M_mergesTable_164 _ _ _ _ _ _ _ _ _ _ _ _ ?_
    rw [mm_w_id (x := a + 4) (by omega), mm_w_id (x := a + 4 + 32) (by omega), mm_w_id (x := rr + 1) (by omega), mm_w_id (x := a + 4 + i - a) (by omega), mm_w_id (x := a + 4 + i - a + y) (by omega), mm_w_id (x := a + 4 + i + 32) (by omega), mm_w_id (x := a + 4 + i + 32 - a) (by omega), mm_w_id (x := a + 4 + i + 32 - a + y) (by omega), mm_w_id (x := a + 4 + i + 1) (by omega)]
    refine ⟨fun c => ?_, fun c => ⟨by omega, fun z => ⟨by omega, by omega, ?_⟩, fun z => ?_⟩⟩
    · have hi2 : i = 32 := by omega
      refine h M1 f1 (fun k => ?_) (fun k k0 k1 => ?_)
      · by_cases w : k < 32
        · obtain ⟨x1, x2⟩ := g1 k (by omega) (by omega)
          have hk : 0 ≤ (k : Int) ∧ (k : Int) < 32 := by omega
          have ek : ((k : Int)).toNat = k := by omega
          by_cases v : nn_ri M 408 (a + 4 + k) ≤ 0
          · rw [if_pos ⟨by omega, v⟩] at x1 x2
            have e1 := mv_npos (M := M) (x := a + 4) hk v
            rw [ek] at e1
            rw [e1]
            show _ = mv_ M (y + 4) k
            unfold mv_
            rw [x1, show a + 4 + 32 + (k : Int) = a + 36 + k by omega, x2, show y + 4 + 32 + (k : Int) = y + 36 + k by omega]
          · rw [if_neg (fun q => v q.2)] at x1 x2
            have e1 := mv_pos (M := M) (x := a + 4) hk (by omega)
            rw [ek] at e1
            rw [e1]
            have e2 := mv_pos (M := M1) (x := a + 4) hk (by rw [x1]; omega)
            rw [ek, x1, show a + 4 + 32 + (k : Int) = a + 36 + k by omega, x2] at e2
            rw [e2, show a + 4 + 32 + (k : Int) = a + 36 + k by omega]
            rfl
        · have n1 : ∀ (M0 : mm_M) (x : Int), mv_ M0 x k = none := fun M0 x => if_neg (fun q => w q.1)
          rw [n1, n1, n1]
          rfl
      · rw [(g1 k k0 k1).1]
        by_cases v : k < i ∧ nn_ri M 408 (a + 4 + k) ≤ 0
        · rw [if_pos v]; exact hpos k k0 k1
        · rw [if_neg v]; exact hposa k k0 k1
    · have gi := g1 i i0 (by omega)
      rw [if_neg (by omega), if_neg (by omega)] at gi
      have sY : nn_ri M1 408 (a + 4 + i - a + y) = nn_ri M 408 (y + 4 + i) := by
        rw [a8_ri f1 (by omega) (by omega)]; congr 1; omega
      rw [sY]
      intro M208 e208
      refine ⟨by omega, by omega, ?_⟩
      have sZ : nn_ri M208 408 (a + 4 + i + 32 - a + y) = nn_ri M 408 (y + 36 + i) := by
        rw [e208, rd_ii, if_neg (by omega), a8_ri f1 (by omega) (by omega)]; congr 1; omega
      rw [sZ]
      rintro _ rfl
      rw [show a + 4 + i + 1 = a + 4 + (i + 1) by omega]
      refine ih (by omega) (by omega) _ (by rw [e208]; exact fr_ui (fr_ui f1 ⟨rfl, by omega, by omega⟩) ⟨rfl, by omega, by omega⟩) (fun k k0 k1 => ?_)
      obtain ⟨x1, x2⟩ := g1 k k0 k1
      rw [e208]
      constructor
      · rw [rd_ii, if_neg (by omega), rd_ii]
        by_cases w : k = i
        · rw [if_pos ⟨rfl, by rw [w]⟩, w, if_pos ⟨by omega, by rw [← gi.1]; exact z⟩]
        · rw [if_neg (by omega), x1]
          by_cases v : k < i ∧ nn_ri M 408 (a + 4 + k) ≤ 0
          · rw [if_pos v, if_pos ⟨by omega, v.2⟩]
          · rw [if_neg v, if_neg (by omega)]
      · rw [rd_ii]
        by_cases w : k = i
        · rw [if_pos ⟨rfl, by omega⟩, w, if_pos ⟨by omega, by rw [← gi.1]; exact z⟩]
        · rw [if_neg (by omega), rd_ii, if_neg (by omega), x2]
          by_cases v : k < i ∧ nn_ri M 408 (a + 4 + k) ≤ 0
          · rw [if_pos v, if_pos ⟨by omega, v.2⟩]
          · rw [if_neg v, if_neg (by omega)]
    · have gi := g1 i i0 (by omega)
      rw [if_neg (by omega), if_neg (by omega)] at gi
      rw [show a + 4 + i + 1 = a + 4 + (i + 1) by omega]
      refine ih (by omega) (by omega) M1 f1 (fun k k0 k1 => ?_)
      obtain ⟨x1, x2⟩ := g1 k k0 k1
      rw [x1, x2]
      by_cases w : k = i
      · subst w
        rw [if_neg (by omega), if_neg (by rw [← gi.1]; omega), if_neg (by omega), if_neg (by rw [← gi.1]; omega)]
        exact ⟨rfl, rfl⟩
      · by_cases v : k < i ∧ nn_ri M 408 (a + 4 + k) ≤ 0
        · rw [if_pos v, if_pos ⟨by omega, v.2⟩, if_pos v, if_pos ⟨by omega, v.2⟩]
          exact ⟨rfl, rfl⟩
        · rw [if_neg v, if_neg (by omega), if_neg v, if_neg (by omega)]
          exact ⟨rfl, rfl⟩
  have := L 0 (by omega) (Int.le_refl _) M (fr_refl M) (fun k k0 k1 => by rw [if_neg (by omega), if_neg (by omega)]; exact ⟨rfl, rfl⟩)
  rw [show a + 4 + 0 = a + 4 by omega] at this
  exact this
