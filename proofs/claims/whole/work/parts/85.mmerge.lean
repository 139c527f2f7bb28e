/-! the Model: runs of the table merged -/
theorem tM_slot {M M' : mm_M} {b f n : Int} {mem : ab_V} {q : Int → ab_R} {x : ab_R} (hb : bk_ b) (t : tM_ M b mem n q) (hf : 0 ≤ f ∧ f < n) (u : fr_ (a8_ (b + 288 + 68 * f) (b + 288 + 68 * f + 68)) M M') (h : rM_ M' b f x) : tM_ M' b mem n (st_ f x q) := by
  obtain ⟨t1, t2, ⟨t3, n0, n22⟩, t4⟩ := t
  unfold bk_ at hb
  refine ⟨?_, fun k k0 k1 => ?_, ⟨(a8_ri u (by omega) (by omega)).trans t3, n0, n22⟩, fun r r0 r1 => ?_⟩
  · rw [← t1]
    exact mv_cg (fun j j0 j1 => a8_ri u (by omega) (by omega))
  · rw [a8_ri u (by omega) (by omega)]; exact t2 k k0 k1
  · unfold st_
    by_cases z : r = f
    · rw [if_pos z, z]; exact h
    · rw [if_neg z]
      exact rM_cg (fun j j0 j1 => a8_ri u (by omega) (by omega)) (t4 r r0 r1)
theorem ct_M_mrun {b f many level old sure n : Int} {M : mm_M} {R : mm_M → Prop} {mem : ab_V} {q : Int → ab_R} (hb : bk_ b) (hf : 0 ≤ f) (hm : 1 ≤ many) (hn : f + many ≤ n) (t : tM_ M b mem n q)
    (h : ∀ M', fr_ (a8_ (b + 288 + 68 * f) (b + 288 + 68 * f + 68)) M M' → tM_ M' b mem n (st_ f (mgo_ q f (many - 1).toNat) q) → nk_M_mergesTable_40 b f many level old sure (b + 288 + 68 * f) (f + many) M' R) : nk_M_mergesTable_40 b f many level old sure (b + 288 + 68 * f) (f + 1) M R := by
  have n22 := t.2.2.1.2.2
  have hb' := hb
  unfold bk_ at hb'
  have L : ∀ i : Int, i ≤ f + many → f + 1 ≤ i → ∀ M1, fr_ (a8_ (b + 288 + 68 * f) (b + 288 + 68 * f + 68)) M M1 → tM_ M1 b mem n (st_ f (mgo_ q f (i - f - 1).toNat) q) → nk_M_mergesTable_40 b f many level old sure (b + 288 + 68 * f) i M1 R := by
    refine lp_up (fun i hi ih h0 M1 f1 k1 => ?_)
    by_cases c : i < f + many
    · have eo : st_ f (mgo_ q f (i - f - 1).toNat) q f = mgo_ q f (i - f - 1).toNat := if_pos rfl
      have ei : st_ f (mgo_ q f (i - f - 1).toNat) q i = q i := if_neg (by omega)
      have ro := k1.2.2.2 f hf (by omega)
      have ri := k1.2.2.2 i (by omega) (by omega)
      rw [eo] at ro
      rw [ei] at ri
      obtain ⟨o1, o2, o3, o4, o5, o6⟩ := ro
      obtain ⟨i1, i2, i3, i4, i5, i6⟩ := ri
      have ej : (i + 1 - f - 1).toNat = (i - f - 1).toNat + 1 := by omega
      have eq : f + ((i - f - 1).toNat : Int) + 1 = i := by omega
      refine ng_M_mergesTable_40 _ _ _ _ _ _ _ _ _ _ ?_
      rw [mm_w_id (x := f + many) (by omega), nf_runAt hb ⟨by omega, by omega⟩, mm_w_id (x := b + 288 + 68 * i + 2) (by omega), mm_w_id (x := b + 288 + 68 * i + 3) (by omega), mm_w_id (x := b + 288 + 68 * f + 2) (by omega), mm_w_id (x := b + 288 + 68 * f + 3) (by omega), mm_w_id (x := b + 288 + 68 * f + 4) (by omega)]
      -- what follows once both numbers are written
      have go : ∀ v w : Int, v = min (mgf_ q f (i - f - 1).toNat) (q i).2.2.2.1 → w = max (mgt_ q f (i - f - 1).toNat) (q i).2.2.2.2.1 → nk_M_mergesTable_164 b f many level old sure (b + 288 + 68 * f) i (b + 288 + 68 * i) (b + 288 + 68 * f + 4) (nn_ui (nn_ui M1 408 (b + 288 + 68 * f + 2) v) 408 (b + 288 + 68 * f + 3) w) R := by
        intro v w hv hw
        have u2 : fr_ (a8_ (b + 288 + 68 * f) (b + 288 + 68 * f + 68)) M1 (nn_ui (nn_ui M1 408 (b + 288 + 68 * f + 2) v) 408 (b + 288 + 68 * f + 3) w) := fr_ui (fr_ui (fr_refl M1) ⟨rfl, by omega, by omega⟩) ⟨rfl, by omega, by omega⟩
        have rd : ∀ c, 0 ≤ c → c ≠ b + 288 + 68 * f + 2 → c ≠ b + 288 + 68 * f + 3 → nn_ri (nn_ui (nn_ui M1 408 (b + 288 + 68 * f + 2) v) 408 (b + 288 + 68 * f + 3) w) 408 c = nn_ri M1 408 c := fun c c0 c1 c2 => by rw [rd_ii, if_neg (by omega), rd_ii, if_neg (by omega)]
        have r2 : nn_ri (nn_ui (nn_ui M1 408 (b + 288 + 68 * f + 2) v) 408 (b + 288 + 68 * f + 3) w) 408 (b + 288 + 68 * f + 2) = v := by rw [rd_ii, if_neg (by omega), rd_ii, if_pos ⟨rfl, rfl⟩]
        have r3 : nn_ri (nn_ui (nn_ui M1 408 (b + 288 + 68 * f + 2) v) 408 (b + 288 + 68 * f + 3) w) 408 (b + 288 + 68 * f + 3) = w := by rw [rd_ii, if_pos ⟨rfl, rfl⟩]
        generalize nn_ui (nn_ui M1 408 (b + 288 + 68 * f + 2) v) 408 (b + 288 + 68 * f + 3) w = M2 at u2 rd r2 r3 ⊢
        refine ct_M_taken (rr := i) (by omega) (by omega) (by omega) (fun k k0 k1' => by rw [rd _ (by omega) (by omega) (by omega)]; exact i6 k k0 k1') (fun k k0 k1' => by rw [rd _ (by omega) (by omega) (by omega)]; exact o6 k k0 k1') (by omega) (fun M3 f3 c3 p3 => ?_)
        have u3 : fr_ (a8_ (b + 288 + 68 * f) (b + 288 + 68 * f + 68)) M1 M3 := fr_trans u2 (fr_mono f3 (fun o c z => ⟨z.1, by have := z.2; omega, z.2.2⟩))
        refine ih c (by omega) M3 (fr_trans f1 u3) ?_
        have key := tM_slot (x := mgo_ q f (i + 1 - f - 1).toNat) hb k1 ⟨hf, by omega⟩ u3 ⟨?_, ?_, ?_, ?_, ?_, p3⟩
        · rw [st_st] at key
          exact key
        · rw [a8_ri f3 (by omega) (by omega), rd _ (by omega) (by omega) (by omega)]; exact o1
        · rw [a8_ri f3 (by omega) (by omega), rd _ (by omega) (by omega) (by omega)]; exact o2
        · rw [a8_ri f3 (by omega) (by omega), r2, hv, ej]
          show _ = min (mgf_ q f (i - f - 1).toNat) (q (f + ((i - f - 1).toNat : Int) + 1)).2.2.2.1
          rw [eq]
        · rw [a8_ri f3 (by omega) (by omega), r3, hw, ej]
          show _ = max (mgt_ q f (i - f - 1).toNat) (q (f + ((i - f - 1).toNat : Int) + 1)).2.2.2.2.1
          rw [eq]
        · funext k
          rw [c3 k, ej]
          show _ = or_ (mgv_ q f (i - f - 1).toNat k) ((q (f + ((i - f - 1).toNat : Int) + 1)).2.2.2.2.2 k)
          rw [eq]
          have e1 : mv_ M2 (b + 288 + 68 * f + 4) = mgv_ q f (i - f - 1).toNat := by
            rw [mv_cg (fun j j0 j1 => rd _ (by omega) (by omega) (by omega))]
            exact o5
          have e2 : mv_ M2 (b + 288 + 68 * i + 4) = (q i).2.2.2.2.2 := by
            rw [mv_cg (fun j j0 j1 => rd _ (by omega) (by omega) (by omega))]
            exact i5
          rw [e1, e2]
      have o3' : nn_ri M1 408 (b + 288 + 68 * f + 2) = mgf_ q f (i - f - 1).toNat := o3
      have o4' : nn_ri M1 408 (b + 288 + 68 * f + 3) = mgt_ q f (i - f - 1).toNat := o4
      rw [i3, o3']
      refine ⟨fun z => by omega, fun _ => ⟨by omega, by omega, fun z => ⟨by omega, by omega, ?_⟩, fun z => ⟨by omega, by omega, ?_⟩⟩⟩
      · intro M106 e106
        have s3 : nn_ri M106 408 (b + 288 + 68 * f + 3) = mgt_ q f (i - f - 1).toNat := by rw [e106, rd_ii, if_neg (by omega)]; exact o4'
        have s4 : nn_ri M106 408 (b + 288 + 68 * i + 3) = (q i).2.2.2.2.1 := by rw [e106, rd_ii, if_neg (by omega)]; exact i4
        rw [s3, s4]
        refine ⟨by omega, by omega, fun y => ⟨by omega, by omega, ?_⟩, fun y => ⟨by omega, by omega, ?_⟩⟩
        · rintro _ rfl
          rw [e106]
          exact go _ _ (by omega) (by omega)
        · rintro _ rfl
          rw [e106]
          exact go _ _ (by omega) (by omega)
      · intro M106 e106
        have s3 : nn_ri M106 408 (b + 288 + 68 * f + 3) = mgt_ q f (i - f - 1).toNat := by rw [e106, rd_ii, if_neg (by omega)]; exact o4'
        have s4 : nn_ri M106 408 (b + 288 + 68 * i + 3) = (q i).2.2.2.2.1 := by rw [e106, rd_ii, if_neg (by omega)]; exact i4
        rw [s3, s4]
        refine ⟨by omega, by omega, fun y => ⟨by omega, by omega, ?_⟩, fun y => ⟨by omega, by omega, ?_⟩⟩
        · rintro _ rfl
          rw [e106]
          exact go _ _ (by omega) (by omega)
        · rintro _ rfl
          rw [e106]
          exact go _ _ (by omega) (by omega)
    · have : i = f + many := by omega
      subst this
      refine h M1 f1 ?_
      rw [show (many - 1).toNat = (f + many - f - 1).toNat by omega]
      exact k1
  refine L (f + 1) (by omega) (Int.le_refl _) M (fr_refl M) ?_
  have e : st_ f (mgo_ q f (f + 1 - f - 1).toNat) q = q := by
    funext j
    unfold st_
    by_cases z : j = f
    · rw [if_pos z, z, show (f + 1 - f - 1).toNat = 0 by omega]
      rfl
    · rw [if_neg z]
  rw [e]
  exact t
/-- what is gone and sure goes, the rest is counted -/
theorem ct_M_mgone {b f many old sure a : Int} {M : mm_M} {R : mm_M → Prop} (hf : -1000 ≤ f + many ∧ f + many < 1000) (ha : 0 ≤ a ∧ a + 68 ≤ 32844) (hp : ∀ k : Int, 0 ≤ k → k < 32 → 0 ≤ nn_ri M 408 (a + 4 + k))
    (h : ∀ M' c, fr_ (a8_ (a + 4) (a + 36)) M M' → (∀ k, mv_ M' (a + 4) k = if old = 0 then mv_ M (a + 4) k else fg_ sure (mv_ M (a + 4) k)) → (∀ k : Int, 0 ≤ k → k < 32 → 0 ≤ nn_ri M' 408 (a + 4 + k)) → (c = 0 ↔ ∀ k, k < 32 → mv_ M' (a + 4) k = none) → nk_M_mergesTable_379 b f c (f + many - 1) M' R) : nk_M_mergesTable_279 b f many old sure a 0 (a + 4) M R := by
  have L : ∀ i : Int, i ≤ 32 → 0 ≤ i → ∀ M1 c, fr_ (a8_ (a + 4) (a + 36)) M M1 → 0 ≤ c → c ≤ i → (∀ k : Int, 0 ≤ k → k < 32 → nn_ri M1 408 (a + 4 + k) = if k < i ∧ (old ≠ 0 ∧ 0 < nn_ri M 408 (a + 4 + k) ∧ nn_ri M 408 (a + 36 + k) = -1 ∧ (sure = -1 ∨ nn_ri M 408 (a + 4 + k) ≤ sure)) then 0 else nn_ri M 408 (a + 4 + k)) → (c = 0 ↔ ∀ k : Int, 0 ≤ k → k < i → nn_ri M1 408 (a + 4 + k) ≤ 0) → nk_M_mergesTable_279 b f many old sure a c (a + 4 + i) M1 R := by
    refine lp_up (fun i hi ih i0 M1 c f1 c0 c1 g1 hc => ?_)
    refine ng_M_mergesTable_279 _ _ _ _ _ _ _ _ _ _ ?_
    rw [mm_w_id (x := a + 4) (by omega), mm_w_id (x := a + 4 + 32) (by omega), mm_w_id (x := f + many) (by omega), mm_w_id (x := f + many - 1) (by omega), mm_w_id (x := a + 4 + i + 32) (by omega)]
    refine ⟨fun z => ?_, fun z => ?_⟩
    · have hi2 : i = 32 := by omega
      refine h M1 c f1 (fun k => ?_) (fun k k0 k1 => ?_) ?_
      · by_cases w : k < 32
        · have hk : 0 ≤ (k : Int) ∧ (k : Int) < 32 := by omega
          have ek : ((k : Int)).toNat = k := by omega
          have x1 := g1 k hk.1 hk.2
          have x2 : nn_ri M1 408 (a + 4 + 32 + k) = nn_ri M 408 (a + 4 + 32 + k) := a8_ri f1 (by omega) (by omega)
          by_cases p : 0 < nn_ri M 408 (a + 4 + k)
          · have e1 := mv_pos (M := M) (x := a + 4) hk p
            rw [ek] at e1
            rw [e1]
            by_cases g : old ≠ 0 ∧ 0 < nn_ri M 408 (a + 4 + k) ∧ nn_ri M 408 (a + 36 + k) = -1 ∧ (sure = -1 ∨ nn_ri M 408 (a + 4 + k) ≤ sure)
            · rw [if_pos ⟨by omega, g⟩] at x1
              have e2 := mv_npos (M := M1) (x := a + 4) hk (by omega)
              rw [ek] at e2
              rw [e2, if_neg g.1]
              unfold fg_
              rw [show a + 4 + 32 + (k : Int) = a + 36 + k by omega]
              exact (if_pos ⟨g.2.2.1, g.2.2.2⟩).symm
            · rw [if_neg (fun q => g q.2)] at x1
              have e2 := mv_pos (M := M1) (x := a + 4) hk (by omega)
              rw [ek, x1, x2] at e2
              rw [e2]
              by_cases o : old = 0
              · rw [if_pos o]
              · rw [if_neg o]
                unfold fg_
                rw [show a + 4 + 32 + (k : Int) = a + 36 + k by omega]
                exact (if_neg (fun q => g ⟨o, p, q.1, q.2⟩)).symm
          · have e1 := mv_npos (M := M) (x := a + 4) hk (by omega)
            rw [ek] at e1
            rw [if_neg (fun q => p q.2.2.1)] at x1
            have e2 := mv_npos (M := M1) (x := a + 4) hk (by omega)
            rw [ek] at e2
            rw [e1, e2]
            by_cases o : old = 0
            · rw [if_pos o]
            · rw [if_neg o]; rfl
        · have n1 : ∀ (M0 : mm_M) (x : Int), mv_ M0 x k = none := fun M0 x => if_neg (fun q => w q.1)
          rw [n1, n1]
          by_cases o : old = 0
          · rw [if_pos o]
          · rw [if_neg o]; rfl
      · rw [g1 k k0 k1]
        by_cases g : k < i ∧ (old ≠ 0 ∧ 0 < nn_ri M 408 (a + 4 + k) ∧ nn_ri M 408 (a + 36 + k) = -1 ∧ (sure = -1 ∨ nn_ri M 408 (a + 4 + k) ≤ sure))
        · rw [if_pos g]; exact Int.le_refl _
        · rw [if_neg g]; exact hp k k0 k1
      · rw [hc]
        constructor
        · intro q k hk
          have e2 := mv_npos (M := M1) (x := a + 4) (k := (k : Int)) (by omega) (q k (by omega) (by omega))
          rw [show ((k : Int)).toNat = k by omega] at e2
          exact e2
        · intro q k k0 k1
          refine Int.not_lt.mp (fun w => ?_)
          have e2 := mv_pos (M := M1) (x := a + 4) (k := k) ⟨k0, by omega⟩ w
          rw [q k.toNat (by omega)] at e2
          cases e2
    · have x1 := g1 i i0 (by omega)
      rw [if_neg (by omega)] at x1
      have x2 : nn_ri M1 408 (a + 4 + i + 32) = nn_ri M 408 (a + 36 + i) := by
        rw [a8_ri f1 (by omega) (by omega)]; congr 1; omega
      rw [x1, x2]
      -- the count
      have cnt : ∀ M2, fr_ (a8_ (a + 4) (a + 36)) M M2 → (∀ k : Int, 0 ≤ k → k < 32 → nn_ri M2 408 (a + 4 + k) = if k < i + 1 ∧ (old ≠ 0 ∧ 0 < nn_ri M 408 (a + 4 + k) ∧ nn_ri M 408 (a + 36 + k) = -1 ∧ (sure = -1 ∨ nn_ri M 408 (a + 4 + k) ≤ sure)) then 0 else nn_ri M 408 (a + 4 + k)) → (∀ k : Int, 0 ≤ k → k < i → nn_ri M2 408 (a + 4 + k) = nn_ri M1 408 (a + 4 + k)) → nk_M_mergesTable_346 b f many old sure a c (a + 4 + i) M2 R := by
        intro M2 f2 g2 s2
        refine ng_M_mergesTable_346 _ _ _ _ _ _ _ _ _ _ ⟨by omega, fun y => ?_, fun y => ?_⟩
        · rw [mm_w_id (x := c + 0) (by omega), mm_w_id (x := a + 4 + i + 1) (by omega), show c + 0 = c by omega, show a + 4 + i + 1 = a + 4 + (i + 1) by omega]
          refine ih (by omega) (by omega) M2 c f2 c0 (by omega) g2 (hc.trans ⟨fun q k k0 k1 => ?_, fun q k k0 k1 => ?_⟩)
          · by_cases w : k = i
            · rw [w]; exact y
            · rw [s2 k k0 (by omega)]; exact q k k0 (by omega)
          · rw [← s2 k k0 k1]; exact q k k0 (by omega)
        · rw [mm_w_id (x := c + 1) (by omega), mm_w_id (x := a + 4 + i + 1) (by omega), show a + 4 + i + 1 = a + 4 + (i + 1) by omega]
          refine ih (by omega) (by omega) M2 (c + 1) f2 (by omega) (by omega) g2 ⟨fun q => by omega, fun q => ?_⟩
          have := q i i0 (by omega)
          omega
      refine ⟨fun _ => by omega, fun _ => by omega, fun _ => by omega, fun y => ?_, fun y => ?_⟩
      · refine cnt M1 f1 (fun k k0 k1 => ?_) (fun _ _ _ => rfl)
        rw [g1 k k0 k1]
        by_cases w : k = i
        · subst w
          rw [if_neg (by omega), if_neg]
          rintro ⟨_, q1, q2, q3, q4⟩
          rcases y with y | y | y | ⟨y1, y2⟩
          · exact q1 y
          · omega
          · exact y q3
          · rcases q4 with q4 | q4
            · exact y1 q4
            · omega
        · by_cases v : k < i
          · by_cases g : old ≠ 0 ∧ 0 < nn_ri M 408 (a + 4 + k) ∧ nn_ri M 408 (a + 36 + k) = -1 ∧ (sure = -1 ∨ nn_ri M 408 (a + 4 + k) ≤ sure)
            · rw [if_pos ⟨v, g⟩, if_pos ⟨by omega, g⟩]
            · rw [if_neg (fun q => g q.2), if_neg (fun q => g q.2)]
          · rw [if_neg (fun q => v q.1), if_neg (fun q => by omega)]
      · refine ng_M_mergesTable_338 _ _ _ _ _ _ _ _ _ _ ⟨by omega, ?_⟩
        rintro _ rfl
        refine cnt _ (fr_ui f1 ⟨rfl, by omega, by omega⟩) (fun k k0 k1 => ?_) (fun k k0 k1 => by rw [rd_ii, if_neg (by omega)])
        rw [rd_ii]
        by_cases w : k = i
        · rw [if_pos ⟨rfl, by rw [w]⟩, w, if_pos ⟨by omega, y⟩]
        · rw [if_neg (by omega), g1 k k0 k1]
          by_cases v : k < i
          · by_cases g : old ≠ 0 ∧ 0 < nn_ri M 408 (a + 4 + k) ∧ nn_ri M 408 (a + 36 + k) = -1 ∧ (sure = -1 ∨ nn_ri M 408 (a + 4 + k) ≤ sure)
            · rw [if_pos ⟨v, g⟩, if_pos ⟨by omega, g⟩]
            · rw [if_neg (fun q => g q.2), if_neg (fun q => g q.2)]
          · rw [if_neg (fun q => v q.1), if_neg (fun q => by omega)]
  have := L 0 (by omega) (Int.le_refl _) M 0 (fr_refl M) (Int.le_refl _) (Int.le_refl _) (fun k k0 k1 => by rw [if_neg (by omega)]) ⟨fun _ k k0 k1 => by omega, fun _ => rfl⟩
  rw [show a + 4 + 0 = a + 4 by omega] at this
  exact this
