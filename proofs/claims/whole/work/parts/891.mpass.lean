/-! the Model: a merge of an index' runs: what has a later one, or is stale, goes -/
def kpM_ (f n mends : Int) (E : Int → Int) (lat : ab_V) (y : Int) : Prop := y / 4503599627370496 = f + 1 → (∀ z, sg_ E 0 n z → hi32_ z = hi32_ y → z ≤ y) ∧ (mends ≠ 0 → fs_ lat (y % 4503599627370496) = true)
theorem so_last {E : Int → Int} {n : Int} (hs : so_ E 0 n) : ∀ d : Nat, ∀ i : Int, 0 ≤ i → i < n → n - i ≤ d → ∃ k, i ≤ k ∧ k < n ∧ hi32_ (E k) = hi32_ (E i) ∧ ∀ z, sg_ E 0 n z → hi32_ z = hi32_ (E i) → z ≤ E k
  | 0, i, _, h1, h2 => by omega
  | d + 1, i, h0, h1, h2 => by
    by_cases hz : i + 1 < n ∧ hi32_ (E (i + 1)) = hi32_ (E i)
    · obtain ⟨k, k0, k1, k2, k3⟩ := so_last hs d (i + 1) (by omega) hz.1 (by omega)
      exact ⟨k, by omega, k1, k2.trans hz.2, fun z z0 z1 => k3 z z0 (z1.trans hz.2.symm)⟩
    · refine ⟨i, Int.le_refl _, h1, rfl, fun z z0 z1 => ?_⟩
      obtain ⟨t, t0, t1, t2⟩ := z0
      by_cases w : t ≤ i
      · rw [← t2]; exact so_le hs t0 w h1
      · exfalso
        have a1 := hi_mono (so_le hs h0 (show i ≤ i + 1 by omega) (by omega))
        have a2 := hi_mono (so_le hs (show 0 ≤ i + 1 by omega) (show i + 1 ≤ t by omega) t1)
        rw [t2, z1] at a2
        exact hz ⟨by omega, by omega⟩
theorem ct_M_mixPass {b i f m level rep mends n nT : Int} {M : mm_M} {R : mm_M → Prop} {mem : ab_V} {q : Int → ab_R} {E : Int → Int} (hb : bk_ b) (hi : 0 ≤ i ∧ i < 4) (hf : 0 ≤ f) (hm : 1 ≤ m) (hfm : f + m ≤ 100) (t : tM_ M b mem nT q) (k : eM_ M (xi_ b i) n E) (hso : so_ E 0 n) (hd : ∀ a c, 0 ≤ a → a < c → c < n → E a = E c → E a / 4503599627370496 = f + 1)
    (hst : mends ≠ 0 → ∀ y, sg_ E 0 n y → ∀ p, lk_ mem nT q (ek_ (y % 4503599627370496)).toNat = some p → et_ (y % 4503599627370496) ≤ p.1)
    (h : ∀ M' m' E', fr_ (fun o c => o = 408 ∧ ((c : Int) = xi_ b i + 6 ∨ (xi_ b i + 215 ≤ (c : Int) ∧ (c : Int) < xi_ b i + 215 + 4 * n))) M M' → eM_ M' (xi_ b i) m' E' → ss_ E' 0 m' → (∀ y, sg_ E' 0 m' y ↔ (sg_ E 0 n y ∧ kpM_ f n mends E (lk_ mem nT q) y)) → nk_M_mergesIndex_372 b f level (xi_ b i) rep mends (f + m - 1) M' R) : nk_M_mergesIndex_205 b f m level (xi_ b i) rep mends (n - 1) M R := by
  have hb' := hb
  unfold bk_ at hb'
  have n22 := t.2.2.1.2.2
  have hx : 0 ≤ xi_ b i ∧ xi_ b i + 855 ≤ 32844 := by unfold xi_; omega
  have hxb : b + 1784 ≤ xi_ b i := by unfold xi_; omega
  generalize xi_ b i = x at hx hxb k h ⊢
  have n160 := k.2.2.1
  have L : ∀ j : Int, -1 ≤ j → ∀ M1 m1 E1, fr_ (fun o c => o = 408 ∧ ((c : Int) = x + 6 ∨ (x + 215 ≤ (c : Int) ∧ (c : Int) < x + 215 + 4 * n))) M M1 → eM_ M1 x m1 E1 → m1 ≤ n → so_ E1 0 m1 → j < m1 → (∀ a, 0 ≤ a → a ≤ j → E1 a = E a) → ss_ E1 (j + 1) m1 → (∀ y, sg_ E1 (j + 1) m1 y ↔ (sg_ E (j + 1) n y ∧ kpM_ f n mends E (lk_ mem nT q) y)) → nk_M_mergesIndex_205 b f m level x rep mends j M1 R := by
    refine lp_dn (fun j hj ih M1 m1 E1 f1 q1 m1n s1 jm pre ss1 sg1 => ?_)
    have m160 := q1.2.2.1
    refine ng_M_mergesIndex_205 _ _ _ _ _ _ _ _ _ _ ?_
    rw [mm_w_id (x := f + m) (by omega), mm_w_id (x := f + m - 1) (by omega), mm_w_id (x := f + 1) (by omega), mm_w_id (x := x + 6) (by omega), q1.1, mm_w_id (x := j + 1) (by omega), mm_w_id (x := j + -1) (by omega), nf_entryAt ⟨by omega, by omega⟩ ⟨by omega, by omega⟩, mm_w_id (x := x + 215 + 4 * j + 4) (by omega), mm_w_id (x := x + 215 + 4 * j + 5) (by omega), mm_w_id (x := x + 215 + 4 * j + 1) (by omega), mm_w_id (x := x + 215 + 4 * j + 6) (by omega), mm_w_id (x := x + 215 + 4 * j + 2) (by omega), show j + -1 = j - 1 by omega]
    by_cases c : j < 0
    · refine ⟨fun _ => ?_, fun z => absurd c (by omega)⟩
      have e : j + 1 = 0 := by omega
      rw [e] at ss1 sg1
      exact h M1 m1 E1 f1 q1 ss1 sg1
    have j0 : 0 ≤ j := by omega
    have ej : E1 j = E j := pre j j0 (Int.le_refl _)
    have yj := q1.2.2.2 j j0 jm
    obtain ⟨p1, p2, p3, p4, p5⟩ := e4_parts yj
    have prun := yj.2.2.1
    rw [ej] at prun
    have keep : kpM_ f n mends E (lk_ mem nT q) (E j) → (∀ a, j < a → a < m1 → E1 j ≠ E1 a) → nk_M_mergesIndex_205 b f m level x rep mends (j - 1) M1 R := by
      intro hk hne
      refine ih (by omega) M1 m1 E1 f1 q1 m1n s1 (by omega) (fun a a0 a1 => pre a a0 (by omega)) (fun a c' a0 ac c1 => ?_) (fun y => ?_)
      · by_cases z : a = j
        · rw [z]
          rw [z] at ac
          have := s1 j c' j0 ac c1
          have := hne c' ac c1
          omega
        · exact ss1 a c' (by omega) ac c1
      · rw [show j - 1 + 1 = j by omega]
        constructor
        · rintro ⟨a, a0, a1, a2⟩
          by_cases z : a = j
          · rw [z, ej] at a2
            exact ⟨⟨j, Int.le_refl _, by omega, a2⟩, a2 ▸ hk⟩
          · obtain ⟨⟨u, u0, u1, u2⟩, v⟩ := (sg1 y).mp ⟨a, by omega, a1, a2⟩
            exact ⟨⟨u, by omega, u1, u2⟩, v⟩
        · rintro ⟨⟨a, a0, a1, a2⟩, v⟩
          by_cases z : a = j
          · rw [z] at a2
            exact ⟨j, Int.le_refl _, jm, ej.trans a2⟩
          · obtain ⟨u, u0, u1, u2⟩ := (sg1 y).mpr ⟨⟨a, by omega, a1, a2⟩, v⟩
            exact ⟨u, by omega, u1, u2⟩
    have drop : (kpM_ f n mends E (lk_ mem nT q) (E j) → sg_ E1 (j + 1) m1 (E j)) → nk_M_mergesIndex_350 b f m level x rep mends j M1 R := by
      intro hk
      refine ng_M_mergesIndex_350 _ _ _ _ _ _ _ _ _ _ ?_
      refine ct_M_drops hx q1 ⟨j0, jm⟩ (fun M2 f2 q2 => ?_)
      rw [mm_w_id (x := j + -1) (by omega), show j + -1 = j - 1 by omega]
      have hE2 : ∀ a, (fun i => if i < j then E1 i else E1 (i + 1)) a = if a < j then E1 a else E1 (a + 1) := fun a => rfl
      refine ih (by omega) M2 (m1 - 1) _ (fr_trans f1 (fr_mono f2 (fun o c' z => ⟨z.1, by omega⟩))) q2 (by omega) (fun a c' a0 ac c1 => ?_) (by omega) (fun a a0 a1 => ?_) (fun a c' a0 ac c1 => ?_) (fun y => ?_)
      · show (if a < j then E1 a else E1 (a + 1)) ≤ if c' < j then E1 c' else E1 (c' + 1)
        by_cases z : a < j
        · rw [if_pos z]
          by_cases w : c' < j
          · rw [if_pos w]; exact s1 a c' a0 ac (by omega)
          · rw [if_neg w]; exact s1 a (c' + 1) a0 (by omega) (by omega)
        · rw [if_neg z, if_neg (by omega)]
          exact s1 (a + 1) (c' + 1) (by omega) (by omega) (by omega)
      · show (if a < j then E1 a else E1 (a + 1)) = E a
        rw [if_pos (by omega)]
        exact pre a a0 (by omega)
      · show (if a < j then E1 a else E1 (a + 1)) < if c' < j then E1 c' else E1 (c' + 1)
        rw [if_neg (by omega), if_neg (by omega)]
        exact ss1 (a + 1) (c' + 1) (by omega) (by omega) (by omega)
      · rw [show j - 1 + 1 = j by omega]
        have mid : sg_ (fun i => if i < j then E1 i else E1 (i + 1)) j (m1 - 1) y ↔ sg_ E1 (j + 1) m1 y := by
          constructor
          · rintro ⟨a, a0, a1, a2⟩
            rw [hE2, if_neg (by omega)] at a2
            exact ⟨a + 1, by omega, by omega, a2⟩
          · rintro ⟨a, a0, a1, a2⟩
            refine ⟨a - 1, by omega, by omega, ?_⟩
            rw [hE2, if_neg (by omega), show a - 1 + 1 = a by omega]
            exact a2
        rw [mid]
        constructor
        · intro w
          obtain ⟨⟨u, u0, u1, u2⟩, v⟩ := (sg1 y).mp w
          exact ⟨⟨u, by omega, u1, u2⟩, v⟩
        · rintro ⟨⟨a, a0, a1, a2⟩, v⟩
          by_cases z : a = j
          · rw [z] at a2
            rw [← a2] at v ⊢
            exact hk v
          · exact (sg1 y).mpr ⟨⟨a, by omega, a1, a2⟩, v⟩
    have same : j + 1 < m1 → ((nn_ri M1 408 (x + 215 + 4 * j + 4) = nn_ri M1 408 (x + 215 + 4 * j) ∧ nn_ri M1 408 (x + 215 + 4 * j + 5) = nn_ri M1 408 (x + 215 + 4 * j + 1) ∧ nn_ri M1 408 (x + 215 + 4 * j + 6) = nn_ri M1 408 (x + 215 + 4 * j + 2)) ↔ hi32_ (E1 (j + 1)) = hi32_ (E1 j)) := by
      intro w
      have zj := q1.2.2.2 (j + 1) (by omega) w
      obtain ⟨r1, r2, r3, r4, r5⟩ := e4_parts zj
      rw [show x + 215 + 4 * (j + 1) = x + 215 + 4 * j + 4 by omega] at r1 r2 r3 r4 r5
      rw [show x + 215 + 4 * j + 4 + 1 = x + 215 + 4 * j + 5 by omega] at r1 r3
      rw [show x + 215 + 4 * j + 4 + 2 = x + 215 + 4 * j + 6 by omega] at r1 r4
      unfold hi32_
      omega
    -- no later one left of the same value and key
    have lone : ¬ (j + 1 < m1 ∧ hi32_ (E1 (j + 1)) = hi32_ (E1 j)) → ∀ a, j < a → a < m1 → hi32_ (E1 a) ≠ hi32_ (E1 j) := by
      intro w a a0 a1 e
      have u1 := hi_mono (so_le s1 j0 (show j ≤ j + 1 by omega) (by omega))
      have u2 := hi_mono (so_le s1 (show 0 ≤ j + 1 by omega) (show j + 1 ≤ a by omega) a1)
      rw [e] at u2
      exact w ⟨by omega, by omega⟩
    have good : nn_ri M1 408 (x + 215 + 4 * j) = f + 1 → ¬ (j + 1 < m1 ∧ hi32_ (E1 (j + 1)) = hi32_ (E1 j)) → (mends ≠ 0 → fs_ (lk_ mem nT q) (E j % 4503599627370496) = true) → nk_M_mergesIndex_205 b f m level x rep mends (j - 1) M1 R := by
      intro hr hl hfr
      have lo := lone hl
      refine keep (fun _ => ⟨fun z hz ez => ?_, hfr⟩) (fun a a0 a1 e => lo a a0 a1 (by rw [e]))
      by_cases hzy : z ≤ E j
      · exact hzy
      exfalso
      by_cases hme : mends = 0
      · obtain ⟨k', k0, k1, k2, k3⟩ := so_last hso n.toNat j j0 (by omega) (by omega)
        have kj : j < k' := by
          by_cases w : k' = j
          · have := k3 z hz ez
            rw [w] at this
            omega
          · omega
        have hkk : kpM_ f n mends E (lk_ mem nT q) (E k') := fun _ => ⟨fun u u0 u1 => k3 u u0 (u1.trans k2), fun w => absurd hme w⟩
        obtain ⟨a, a0, a1, a2⟩ := (sg1 (E k')).mpr ⟨⟨k', by omega, k1, rfl⟩, hkk⟩
        exact lo a (by omega) a1 (by rw [a2, k2, ej])
      · have hfr2 := hfr hme
        have hs2 := hst hme z hz
        have hek : ek_ (z % 4503599627370496) = ek_ (E j % 4503599627370496) := by
          unfold hi32_ at ez
          unfold ek_
          omega
        rw [hek] at hs2
        unfold fs_ at hfr2
        generalize hp : lk_ mem nT q (ek_ (E j % 4503599627370496)).toNat = p at hfr2 hs2
        match p, hfr2, hs2 with
        | none, hfr2, _ => exact absurd hfr2 Bool.false_ne_true
        | some p, hfr2, hs2 =>
          have a1 := hs2 p rfl
          have a2 : p.1 = et_ (E j % 4503599627370496) := by simpa using hfr2
          rw [a2] at a1
          unfold et_ at a1
          unfold hi32_ at ez
          omega
    refine ⟨fun z => absurd z c, fun _ => ⟨by omega, fun z => ⟨by omega, fun _ => by omega, fun _ => by omega, fun _ => by omega, fun _ => by omega, fun _ => by omega, fun _ => by omega, fun w => ?_, fun w => ?_⟩, fun z => ⟨by omega, fun _ => by omega, fun _ => by omega, fun _ => by omega, fun _ => by omega, fun _ => by omega, fun _ => by omega, fun w => ?_, fun w => ?_⟩⟩⟩
    · refine ng_M_mergesIndex_322 _ _ _ _ _ _ _ _ _ _ _ _ ⟨fun _ => ?_, fun y => absurd rfl y.1⟩
      rw [mm_w_id (x := j + -1) (by omega), show j + -1 = j - 1 by omega]
      refine keep (fun y => absurd (prun.trans y) z) (fun a a0 a1 e => ?_)
      obtain ⟨⟨u, u0, u1, u2⟩, _⟩ := (sg1 (E1 a)).mp ⟨a, by omega, a1, rfl⟩
      exact z (prun.trans (hd j u j0 (by omega) u1 (by rw [u2, ← e, ej])))
    · refine keep (fun y => absurd (prun.trans y) z) (fun a a0 a1 e => ?_)
      obtain ⟨⟨u, u0, u1, u2⟩, _⟩ := (sg1 (E1 a)).mp ⟨a, by omega, a1, rfl⟩
      exact z (prun.trans (hd j u j0 (by omega) u1 (by rw [u2, ← e, ej])))
    · have hl : ¬ (j + 1 < m1 ∧ hi32_ (E1 (j + 1)) = hi32_ (E1 j)) := by
        rintro ⟨y1, y2⟩
        have := (same y1).mpr y2
        omega
      refine ng_M_mergesIndex_322 _ _ _ _ _ _ _ _ _ _ _ _ ⟨fun y => ?_, fun y => ?_⟩
      · rw [mm_w_id (x := j + -1) (by omega), show j + -1 = j - 1 by omega]
        refine good z hl (fun w2 => ?_)
        rcases y with y | y
        · exact absurd y (by decide)
        · exact absurd y w2
      · have t1 : tM_ M1 b mem nT q := tM_fr f1 hb (fun c' hc z2 => by have := z2.2; omega) t
        refine ct_M_isStale hb (by omega) t1 yj ?_
        rw [ej, mm_w_id (x := j + -1) (by omega), show j + -1 = j - 1 by omega]
        by_cases hfr : fs_ (lk_ mem nT q) (E j % 4503599627370496) = true
        · rw [if_pos hfr]
          exact ⟨fun _ => good z hl (fun _ => hfr), fun v => absurd rfl v⟩
        · rw [if_neg hfr]
          refine ⟨fun v => absurd v (by decide), fun _ => drop (fun hk => ?_)⟩
          exact absurd ((hk (prun.symm.trans z)).2 y.2) hfr
    · have hs := (same w.1).mp w.2
      refine drop (fun hk => ?_)
      have hk1 := (hk (prun.symm.trans z)).1
      obtain ⟨⟨u, u0, u1, u2⟩, _⟩ := (sg1 (E1 (j + 1))).mp ⟨j + 1, Int.le_refl _, w.1, rfl⟩
      have a1 := hk1 (E1 (j + 1)) ⟨u, by omega, u1, u2⟩ (by rw [hs, ej])
      have a2 := s1 j (j + 1) j0 (by omega) w.1
      rw [ej] at a2
      exact ⟨j + 1, Int.le_refl _, w.1, by omega⟩
  refine L (n - 1) (by have := k.2.1; omega) M n E (fr_refl M) k (Int.le_refl _) hso (by omega) (fun a a0 a1 => rfl) (fun a c' a0 ac c1 => by omega) (fun y => ⟨?_, ?_⟩)
  · rintro ⟨a, a0, a1, a2⟩; omega
  · rintro ⟨⟨a, a0, a1, a2⟩, _⟩; omega
