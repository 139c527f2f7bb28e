/-! a build: the Model keeps aside -/
theorem ct_M_adds2 {x m r y : Int} {M : mm_M} {R : mm_M → Prop} {E : Int → Int} (hx : 0 ≤ x ∧ x + 855 ≤ 32844) (e : eM_ M x m E) (hm : m < 160) (hr : 0 ≤ r ∧ r < 100) (hy : ve_ y)
    (h : ∀ M', fr_ (fun o b => o = 408 ∧ ((b : Int) = x + 6 ∨ (x + 215 + 4 * m ≤ (b : Int) ∧ (b : Int) < x + 215 + 4 * m + 4))) M M' → eM_ M' x (m + 1) (fun i => if i = m then r * 4503599627370496 + y else E i) → R M') : nr_M_adds x r (ev_ y) (ek_ y) (et_ y) M R := by
  obtain ⟨e1, m0, m160, e4⟩ := e
  refine ng_M_adds _ _ _ _ _ _ _ ?_
  rw [mm_w_id (x := x + 6) (by omega), e1, nf_entryAt ⟨by omega, by omega⟩ ⟨by omega, by omega⟩]
  refine ⟨by omega, ?_⟩
  intro a ea
  rw [ea, mm_w_id (x := x + 215 + 4 * m + 1) (by omega), mm_w_id (x := x + 215 + 4 * m + 2) (by omega), mm_w_id (x := x + 215 + 4 * m + 3) (by omega)]
  refine ⟨by omega, ?_⟩
  rintro _ rfl
  refine ⟨by omega, ?_⟩
  rintro _ rfl
  refine ⟨by omega, ?_⟩
  rintro _ rfl
  refine ⟨by omega, ?_⟩
  rintro _ rfl
  refine ⟨by omega, by omega, ?_⟩
  have g6 : nn_ri (nn_ui (nn_ui (nn_ui (nn_ui M 408 (x + 215 + 4 * m) r) 408 (x + 215 + 4 * m + 1) (ev_ y)) 408 (x + 215 + 4 * m + 2) (ek_ y)) 408 (x + 215 + 4 * m + 3) (et_ y)) 408 (x + 6) = m := by
    rw [rd_ii, if_neg (by omega), rd_ii, if_neg (by omega), rd_ii, if_neg (by omega), rd_ii, if_neg (by omega), e1]
  rw [g6, mm_w_id (x := m + 1) (by omega)]
  rintro _ rfl
  have rd : ∀ i, 0 ≤ i → i ≠ x + 6 → (i < x + 215 + 4 * m ∨ x + 215 + 4 * m + 4 ≤ i) → nn_ri (nn_ui (nn_ui (nn_ui (nn_ui (nn_ui M 408 (x + 215 + 4 * m) r) 408 (x + 215 + 4 * m + 1) (ev_ y)) 408 (x + 215 + 4 * m + 2) (ek_ y)) 408 (x + 215 + 4 * m + 3) (et_ y)) 408 (x + 6) (m + 1)) 408 i = nn_ri M 408 i := by
    intro i i0 h1 h2
    rw [rd_ii, if_neg (by omega), rd_ii, if_neg (by omega), rd_ii, if_neg (by omega), rd_ii, if_neg (by omega), rd_ii, if_neg (by omega)]
  refine h _ (fr_ui (fr_ui (fr_ui (fr_ui (fr_ui (fr_refl M) ⟨rfl, by omega⟩) ⟨rfl, by omega⟩) ⟨rfl, by omega⟩) ⟨rfl, by omega⟩) ⟨rfl, by omega⟩) ⟨by rw [rd_ii, if_pos ⟨rfl, rfl⟩], by omega, by omega, fun i i0 i1 => ?_⟩
  show e4_ _ (x + 215 + 4 * i) (if i = m then r * 4503599627370496 + y else E i)
  by_cases z : i = m
  · rw [if_pos z, z]
    have hy2 := hy
    unfold ve_ at hy2
    have m1 : (r * 4503599627370496 + y) % 4503599627370496 = y := by omega
    have m2 : (r * 4503599627370496 + y) / 4503599627370496 = r := by omega
    refine ⟨by omega, by rw [m1]; exact hy, ?_, ?_, ?_, ?_⟩
    · rw [m2, rd_ii, if_neg (by omega), rd_ii, if_neg (by omega), rd_ii, if_neg (by omega), rd_ii, if_neg (by omega), rd_ii, if_pos ⟨rfl, rfl⟩]
    · rw [m1, rd_ii, if_neg (by omega), rd_ii, if_neg (by omega), rd_ii, if_neg (by omega), rd_ii, if_pos ⟨rfl, rfl⟩]
    · rw [m1, rd_ii, if_neg (by omega), rd_ii, if_neg (by omega), rd_ii, if_pos ⟨rfl, rfl⟩]
    · rw [m1, rd_ii, if_neg (by omega), rd_ii, if_pos ⟨rfl, rfl⟩]
  · rw [if_neg z]
    exact e4_cg (e4 i i0 (by omega)) (rd _ (by omega) (by omega) (by omega)) (rd _ (by omega) (by omega) (by omega)) (rd _ (by omega) (by omega) (by omega)) (rd _ (by omega) (by omega) (by omega))
theorem ct_M_keeps1 {x n st : Int} {mem : ab_V} {q : Int → ab_R} {X : ab_X} {M : mm_M} {R : mm_M → Prop} (hx : 1784 ≤ x ∧ x + 855 ≤ 5204) (hst : st < 2000000000) (t : tM_ M 0 mem n q) (d : dT_ st mem n q) (k : mX_ M x X) (h1 : xh_ X = 1) (hl : 0 ≤ xl_ X ∧ xl_ X < 32) (kq : kq_ st (lk_ mem n q) X)
    (h : ∀ M', fr_ (fun o c => o = 408 ∧ x ≤ (c : Int) ∧ (c : Int) < x + 855) M M' → mX_ M' x (kp1_ (lk_ mem n q) X) → R M') :
    nr_M_keeps x (xl_ X) M (fun M66 => ((0 : Int) ≤ x + 4 ∧ x + 4 < (32844 : Int)) ∧ (((0 : Int) ≤ x + 4 ∧ x + 4 < (32844 : Int)) ∧ (∀ M80 : mm_M, M80 = nn_ui M66 408 (x + 4) (mm_w ((nn_ri M66 408 (x + 4)) + 1)) → R M80))) := by
  have hx0 : xh_ X ≠ 0 := by rw [h1]; decide
  obtain ⟨k0, k1⟩ := k
  obtain ⟨⟨a1, a2, a3, a4, a5, a6, a7⟩, b1, c1, dd, kk, E, e, I⟩ := k1 hx0
  have a4 := a4 h1
  have hr := lk_rows d (xl_ X).toNat
  obtain ⟨v1, v2, v3⟩ := xv_in d b1.1 (xl_ X)
  obtain ⟨w1, w2⟩ := wv_vk (u := xu_ X) (o := lk_ mem n q (xl_ X).toNat) (fun p hp => (hr p hp).1)
  refine ng_M_keeps _ _ _ _ ?_
  refine ct_M_isWanted bk_0 ⟨by omega, by omega⟩ hl t b1 (fun p hp => by have := (hr p hp).1; omega) ?_
  by_cases hw : wv_ (xu_ X) (lk_ mem n q (xl_ X).toNat) = true
  · obtain ⟨p, p1, p2, p3, p4⟩ := w1 hw
    have p4 : xv_ (lk_ mem n q) X (xl_ X) = su_ (xu_ X) 0 p.2 := p4
    have hsu := su_in b1.1 (f := 0) ⟨by omega, by have := b1.1.1.1; omega⟩ p.2
    have hz : xv_ (lk_ mem n q) X (xl_ X) ≠ -1 := by omega
    obtain ⟨p', q1, q2, q3, q4, q5, q6⟩ := v3 hz
    have ep : p' = p := by rw [q1] at p1; exact Option.some.inj p1
    rw [ep] at q4 q5
    have esp : sp_ (lk_ mem n q (xl_ X).toNat) = p.1 := by rw [p1]; rfl
    unfold kp1_ at h
    rw [if_neg hz, p4, esp] at h
    rw [if_pos hw]
    refine ⟨fun _ => ?_, fun z => absurd z (by decide)⟩
    rw [mm_w_id (x := x + 7) (by omega), mm_w_id (x := x + 47) (by omega), a5, mm_w_id (x := 3 * xj_ X) (by omega), mm_w_id (x := x + 47 + 3 * xj_ X) (by omega)]
    refine ⟨by omega, ?_⟩
    intro y ey
    rw [ey, mm_w_id (x := x + 47 + 3 * xj_ X + 1) (by omega), mm_w_id (x := x + 47 + 3 * xj_ X + 2) (by omega)]
    have hj : xj_ X < 32 := by have := kq.1; omega
    refine ct_M_rowOf bk_0 hl t p1 ?_
    refine ct_M_valueOf ⟨by omega, by omega⟩ b1 p2 ?_
    refine ⟨by omega, ?_⟩
    intro M1 e1
    refine ⟨by omega, ?_⟩
    intro M2 e2
    have f2 : fr_ (fun o c => o = 408 ∧ (x + 47 + 3 * xj_ X ≤ (c : Int) ∧ (c : Int) < x + 47 + 3 * xj_ X + 3)) M M2 := by
      rw [e2, e1]; exact fr_ui (fr_ui (fr_refl M) ⟨rfl, by omega, by omega⟩) ⟨rfl, by omega, by omega⟩
    refine ct_M_stampOf bk_0 hl (tM_fr f2 bk_0 (fun c z y => by have := y.2; have := t.2.2.1.2.2; omega) t) ?_
    rw [esp]
    refine ⟨by omega, ?_⟩
    intro M3 e3
    refine ⟨by omega, by omega, ?_⟩
    have f3 : fr_ (fun o c => o = 408 ∧ (x + 47 + 3 * xj_ X ≤ (c : Int) ∧ (c : Int) < x + 47 + 3 * xj_ X + 3)) M M3 := by
      rw [e3]; exact fr_ui f2 ⟨rfl, by omega, by omega⟩
    have g7 : nn_ri M3 408 (x + 7) = xj_ X := by rw [fr_ri f3 (fun y => by have := y.2; omega)]; exact a5
    rw [g7, mm_w_id (x := xj_ X + 1) (by omega)]
    intro M4 e4
    refine ⟨by omega, by omega, ?_⟩
    have g4 : nn_ri M4 408 (x + 4) = xl_ X := by rw [e4, rd_ii, if_neg (by omega), fr_ri f3 (fun y => by have := y.2; omega)]; exact a4
    rw [g4, mm_w_id (x := xl_ X + 1) (by omega)]
    intro M5 e5
    have rd : ∀ c, 0 ≤ c → c ≠ x + 4 → c ≠ x + 7 → (c < x + 47 + 3 * xj_ X ∨ x + 47 + 3 * xj_ X + 3 ≤ c) → nn_ri M5 408 c = nn_ri M 408 c := by
      intro c z0 z1 z2 z3
      rw [e5, rd_ii, if_neg (by omega), e4, rd_ii, if_neg (by omega), fr_ri f3 (fun y => by have := y.2; omega)]
    obtain ⟨n1, n2, n3, n4⟩ := en_parts (v := su_ (xu_ X) 0 p.2) (k := xl_ X) (s := p.1) (by omega) hl (by omega)
    refine h M5 (by rw [e5, e4]; exact fr_ui (fr_ui (fr_mono f3 (fun o c y => ⟨y.1, by have := y.2; omega⟩)) ⟨rfl, by omega, by omega⟩) ⟨rfl, by omega, by omega⟩) ⟨(rd _ (by omega) (by omega) (by omega) (by omega)).trans k0, fun _ => ⟨⟨(rd _ (by omega) (by omega) (by omega) (by omega)).trans a1, (rd _ (by omega) (by omega) (by omega) (by omega)).trans a2, (rd _ (by omega) (by omega) (by omega) (by omega)).trans a3, fun _ => ?_, ?_, ?_, ?_⟩, rlM_cg (fun i z0 z1 => rd i (by omega) (by omega) (by omega) (by omega)) b1, ?_, hM_cg (fun i z0 z1 => rd i (by omega) (by omega) (by omega) (by omega)) (rd _ (by omega) (by omega) (by omega) (by omega)) dd, kk, E, eM_cg (fun i z0 z1 => rd i (by omega) (by omega) (by omega) (by omega)) (rd _ (by omega) (by omega) (by omega) (by omega)) e, I⟩⟩
    · show nn_ri M5 408 (x + 4) = xl_ X + 1
      rw [e5, rd_ii, if_pos ⟨rfl, rfl⟩]
    · show nn_ri M5 408 (x + 7) = xj_ X + 1
      rw [e5, rd_ii, if_neg (by omega), e4, rd_ii, if_pos ⟨rfl, rfl⟩]
    · show 0 ≤ xj_ X + 1; omega
    · show xj_ X + 1 ≤ 32; omega
    · obtain ⟨ee, l1, l2, l3⟩ := c1
      show kL_ M5 x (xj_ X + 1) (fun y => y = en_ (su_ (xu_ X) 0 p.2) (xl_ X) p.1 ∨ xK_ X y)
      refine ⟨fun i => if i = xj_ X then en_ (su_ (xu_ X) 0 p.2) (xl_ X) p.1 else ee i, fun i i0 i1 => ?_, fun i i' i0 ii i1 => ?_, fun y => ?_⟩
      · show ve_ (if i = xj_ X then en_ (su_ (xu_ X) 0 p.2) (xl_ X) p.1 else ee i) ∧ nn_ri M5 408 (x + 47 + 3 * i) = ev_ (if i = xj_ X then en_ (su_ (xu_ X) 0 p.2) (xl_ X) p.1 else ee i) ∧ nn_ri M5 408 (x + 47 + 3 * i + 1) = ek_ (if i = xj_ X then en_ (su_ (xu_ X) 0 p.2) (xl_ X) p.1 else ee i) ∧ nn_ri M5 408 (x + 47 + 3 * i + 2) = et_ (if i = xj_ X then en_ (su_ (xu_ X) 0 p.2) (xl_ X) p.1 else ee i)
        by_cases z : i = xj_ X
        · rw [if_pos z, z, n2, n3, n4]
          refine ⟨n1, ?_, ?_, ?_⟩
          · rw [e5, rd_ii, if_neg (by omega), e4, rd_ii, if_neg (by omega), e3, rd_ii, if_neg (by omega), e2, rd_ii, if_neg (by omega), e1, rd_ii, if_pos ⟨rfl, rfl⟩]
          · rw [e5, rd_ii, if_neg (by omega), e4, rd_ii, if_neg (by omega), e3, rd_ii, if_neg (by omega), e2, rd_ii, if_pos ⟨rfl, rfl⟩]
          · rw [e5, rd_ii, if_neg (by omega), e4, rd_ii, if_neg (by omega), e3, rd_ii, if_pos ⟨rfl, rfl⟩]
        · rw [if_neg z]
          obtain ⟨y0, y1, y2, y3⟩ := l1 i i0 (by omega)
          exact ⟨y0, (rd _ (by omega) (by omega) (by omega) (by omega)).trans y1, (rd _ (by omega) (by omega) (by omega) (by omega)).trans y2, (rd _ (by omega) (by omega) (by omega) (by omega)).trans y3⟩
      · show ek_ (if i = xj_ X then en_ (su_ (xu_ X) 0 p.2) (xl_ X) p.1 else ee i) < ek_ (if i' = xj_ X then en_ (su_ (xu_ X) 0 p.2) (xl_ X) p.1 else ee i')
        rw [if_neg (show ¬ i = xj_ X by omega)]
        by_cases z : i' = xj_ X
        · rw [if_pos z, n3]
          exact (kq.2 _ ((l3 _).mpr ⟨i, i0, by omega, rfl⟩)).1
        · rw [if_neg z]; exact l2 i i' i0 ii (by omega)
      · constructor
        · rintro (z | z)
          · exact ⟨xj_ X, a6, by omega, by show (if xj_ X = xj_ X then en_ (su_ (xu_ X) 0 p.2) (xl_ X) p.1 else ee (xj_ X)) = y; rw [if_pos rfl, z]⟩
          · obtain ⟨i, i0, i1, i2⟩ := (l3 y).mp z
            exact ⟨i, i0, by omega, by show (if i = xj_ X then en_ (su_ (xu_ X) 0 p.2) (xl_ X) p.1 else ee i) = y; rw [if_neg (by omega)]; exact i2⟩
        · rintro ⟨i, i0, i1, i2⟩
          have i2 : (if i = xj_ X then en_ (su_ (xu_ X) 0 p.2) (xl_ X) p.1 else ee i) = y := i2
          by_cases z : i = xj_ X
          · rw [if_pos z] at i2; exact Or.inl i2.symm
          · rw [if_neg z] at i2; exact Or.inr ((l3 y).mpr ⟨i, i0, by omega, i2⟩)
  · have hz : xv_ (lk_ mem n q) X (xl_ X) = -1 := w2 hw
    unfold kp1_ at h
    rw [if_pos hz] at h
    rw [if_neg hw]
    refine ⟨fun z => absurd rfl z, fun _ => ?_⟩
    refine ⟨by omega, by omega, ?_⟩
    rw [a4, mm_w_id (x := xl_ X + 1) (by omega)]
    intro M5 e5
    have rd : ∀ c, 0 ≤ c → c ≠ x + 4 → nn_ri M5 408 c = nn_ri M 408 c := by
      intro c z0 z1
      rw [e5, rd_ii, if_neg (by omega)]
    refine h M5 (by rw [e5]; exact fr_ui (fr_refl M) ⟨rfl, by omega, by omega⟩) ⟨(rd _ (by omega) (by omega)).trans k0, fun _ => ⟨⟨(rd _ (by omega) (by omega)).trans a1, (rd _ (by omega) (by omega)).trans a2, (rd _ (by omega) (by omega)).trans a3, fun _ => ?_, (rd _ (by omega) (by omega)).trans a5, a6, a7⟩, rlM_cg (fun i z0 z1 => rd i (by omega) (by omega)) b1, kL_cg (fun i z0 z1 => rd i (by omega) (by omega)) a7 c1, hM_cg (fun i z0 z1 => rd i (by omega) (by omega)) (rd _ (by omega) (by omega)) dd, kk, E, eM_cg (fun i z0 z1 => rd i (by omega) (by omega)) (rd _ (by omega) (by omega)) e, I⟩⟩
    show nn_ri M5 408 (x + 4) = xl_ X + 1
    rw [e5, rd_ii, if_pos ⟨rfl, rfl⟩]
