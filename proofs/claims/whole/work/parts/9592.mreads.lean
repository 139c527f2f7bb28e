/-! the Model reads a sum -/
theorem lcmp_lt0 (x y : Int) : mm_lcmp x y < 0 ↔ x < y := by
  have h1 := lcmp_le x y
  have h2 := lcmp_eq x y
  omega
def ms_ (M : mm_M) (f : Int → Int) (n t : Int) : Prop := mtx_ M f n ∧ nn_rf M 407 7 = 0 ∧ nn_rf M 407 6 = tP_ f n t ∧ nn_rf M 407 4 = mnx_ f n (tP_ f n t) ∧ tk5_ (nn_rf M 407 5) (nn_rf M 407 9) (tK_ f n t) (tN_ f n t)
theorem ms_fr {P : Nat → Nat → Prop} {M M' : mm_M} {f : Int → Int} {n t : Int} (h : fr_ P M M') (hv : ∀ o b, (o = 407 ∧ 3 ≤ b ∧ b < 10) ∨ (o = 408 ∧ 88 ≤ b ∧ b < 288) → ¬ P o b) (k : ms_ M f n t) : ms_ M' f n t := by
  obtain ⟨k1, k2, k3, k4, k5⟩ := k
  refine ⟨mtx_fr h (fun o b y => hv o b (by omega)) k1, (fr_rf h (hv _ _ (by omega))).trans k2, (fr_rf h (hv _ _ (by omega))).trans k3, (fr_rf h (hv _ _ (by omega))).trans k4, ?_⟩
  rw [fr_rf h (hv 407 5 (by omega)), fr_rf h (hv 407 9 (by omega))]
  exact k5
/-- a text with T tokens -/
def tx_T (f : Int → Int) (n T : Int) : Prop := (0 ≤ n ∧ n ≤ 200) ∧ (0 ≤ T ∧ T ≤ n) ∧ (∀ u : Nat, (u : Int) < T → tS_ f n u < n) ∧ tS_ f n T.toNat = n
theorem tk5_at {f : Int → Int} {n T t : Int} (x : tx_T f n T) (ht : 0 ≤ t ∧ t ≤ T) : (0 ≤ tP_ f n t ∧ tP_ f n t ≤ n) ∧ tk5_ (mtk_ f n (tP_ f n t)) (mvl_ f n (tP_ f n t)) (tK_ f n t) (tN_ f n t) := by
  obtain ⟨hn, hT, h1, h2⟩ := x
  obtain ⟨a1, a2, a3⟩ := tS_at (f := f) hn.1 t.toNat (fun u hu => h1 u (by omega))
  exact ⟨⟨a1, a2⟩, tk5_of (fun z => (a3 z).2.1)⟩
theorem ct_M_step {f : Int → Int} {n T t : Int} {M : mm_M} {R : mm_M → Prop} (x : tx_T f n T) (ht : 0 ≤ t ∧ t < T) (k : ms_ M f n t) (h : ∀ M', fr_ tkc2_ M M' → ms_ M' f n (t + 1) → R M') : nr_M_takes M R := by
  obtain ⟨k1, k2, k3, k4, k5⟩ := k
  have hx := x
  obtain ⟨hn, hT, h1, h2⟩ := x
  have a4 := h1 t.toNat (by omega)
  have a4 : tP_ f n t < n := a4
  obtain ⟨e0, e1, e2, e3⟩ := te_in (f := f) a4
  have a0 := (tk5_at hx ⟨ht.1, by omega⟩).1
  have em : mnx_ f n (tP_ f n t) = te_ f n (tP_ f n t) := if_neg (by omega)
  rw [em] at k4
  have es : rn_ f n 0 (te_ f n (tP_ f n t)) = tP_ f n (t + 1) := by
    unfold tP_
    rw [show (t + 1).toNat = t.toNat + 1 by omega]
    rfl
  refine ct_M_takes k1 ⟨by omega, e1⟩ k4 (fun M' f' g1 g2 g3 g4 => ?_)
  rw [es] at g1 g2 g3 g4
  refine h M' f' ⟨mtx_fr f' (fun o b y => by unfold tkc2_; omega) k1, (fr_rf f' (by unfold tkc2_; omega)).trans k2, g1, g2, ?_⟩
  rw [g3, g4]
  exact (tk5_at hx ⟨by omega, by omega⟩).2
theorem m_isCol {f : Int → Int} {n t : Int} {M : mm_M} (k : ms_ M f n t) : (nf_M_isColumn M ≠ 0 ↔ tK_ f n t = 2) ∧ (nf_M_isColumn M = 0 ↔ tK_ f n t ≠ 2) := by
  obtain ⟨k1, k2, k3, k4, t1, t2, t3, t4, t5, _⟩ := k
  have key : nf_M_isColumn M ≠ 0 ↔ tK_ f n t = 2 := by
    rw [← t4]
    unfold nf_M_isColumn
    rw [if_neg (fun y => y k2)]
    have l1 := lcmp_lt0 (nn_rf M 407 9) 1
    have l2 := lcmp_gt (nn_rf M 407 9) 4
    by_cases a : nn_rf M 407 5 ≠ 1
    · rw [if_pos a]; exact ⟨fun y => absurd rfl y, fun y => absurd y.1 a⟩
    · rw [if_neg a]
      by_cases b : mm_lcmp (nn_rf M 407 9) 1 < 0
      · rw [if_pos b]
        have := l1.mp b
        exact ⟨fun y => absurd rfl y, fun y => by omega⟩
      · rw [if_neg b]
        have b2 : ¬ nn_rf M 407 9 < 1 := fun y => b (l1.mpr y)
        by_cases c : 0 < mm_lcmp (nn_rf M 407 9) 4
        · rw [if_pos c]
          have := l2.mp c
          exact ⟨fun y => absurd rfl y, fun y => by omega⟩
        · rw [if_neg c]
          have c2 : ¬ 4 < nn_rf M 407 9 := fun y => c (l2.mpr y)
          exact ⟨fun _ => by omega, fun _ => by decide⟩
  exact ⟨key, fun y w => key.mpr w y, fun w => Decidable.byContradiction (fun y => w (key.mp y))⟩
theorem m_isTrm {f : Int → Int} {n t : Int} {M : mm_M} (k : ms_ M f n t) : nf_M_isTerm M ≠ 0 ↔ (tK_ f n t = 1 ∨ tK_ f n t = 2) := by
  have hc := (m_isCol k).2
  obtain ⟨k1, k2, k3, k4, t1, t2, t3, t4, t5, _⟩ := k
  rw [← t2]
  unfold nf_M_isTerm
  rw [if_neg (fun y => y k2)]
  by_cases a : nn_rf M 407 5 = 2
  · rw [if_pos a]; exact ⟨fun _ => Or.inl a, fun _ => by decide⟩
  · rw [if_neg a]
    by_cases b : nf_M_isColumn M = 0
    · rw [if_pos b]
      have := hc.mp b
      exact ⟨fun y => absurd rfl y, fun y => by omega⟩
    · rw [if_neg b]
      have : tK_ f n t = 2 := by
        by_cases z : tK_ f n t = 2
        · exact z
        · exact absurd (hc.mpr z) b
      exact ⟨fun _ => Or.inr this, fun _ => by decide⟩
theorem m_isSgn {f : Int → Int} {n t c q : Int} {M : mm_M} (k : ms_ M f n t) (h : (c = 43 ∧ q = 8) ∨ (c = 42 ∧ q = 9) ∨ (c = 60 ∧ q = 10) ∨ (c = 61 ∧ q = 11) ∨ (c = 62 ∧ q = 12)) : nf_M_isSign c M ≠ 0 ↔ tK_ f n t = q := by
  obtain ⟨k1, k2, k3, k4, t1, t2, t3, t4, t5, t6, t7, t8, t9, t10, t11, t12, t13, t14, t15⟩ := k
  unfold nf_M_isSign
  rw [if_neg (fun y => y k2)]
  have e : (nn_rf M 407 5 = 3 ∧ nn_rf M 407 9 = c) ↔ tK_ f n t = q := by
    rcases h with ⟨h1, h2⟩ | ⟨h1, h2⟩ | ⟨h1, h2⟩ | ⟨h1, h2⟩ | ⟨h1, h2⟩ <;> rw [h1, h2] <;> assumption
  rw [← e]
  by_cases a : nn_rf M 407 5 ≠ 3
  · rw [if_pos a]; exact ⟨fun y => absurd rfl y, fun y => absurd y.1 a⟩
  · rw [if_neg a]
    by_cases b : mm_lcmp (nn_rf M 407 9) c ≠ 0
    · rw [if_pos b]; exact ⟨fun y => absurd rfl y, fun y => absurd ((lcmp_eq _ _).mpr y.2) b⟩
    · rw [if_neg b]
      have b := (lcmp_eq _ _).mp (Decidable.not_not.mp b)
      exact ⟨fun _ => ⟨by omega, b⟩, fun _ => by decide⟩
theorem m_isWrd {f : Int → Int} {n t c q : Int} {M : mm_M} (k : ms_ M f n t) (h : (c = 79 ∧ q = 3) ∨ (c = 12384743 ∧ q = 4) ∨ (c = 1111 ∧ q = 5) ∨ (c = 308957333 ∧ q = 6) ∨ (c = 7017481 ∧ q = 7)) : nf_M_isWord c M ≠ 0 ↔ tK_ f n t = q := by
  obtain ⟨k1, k2, k3, k4, t1, t2, t3, t4, t5, t6, t7, t8, t9, t10, t11, t12, t13, t14, t15⟩ := k
  unfold nf_M_isWord
  rw [if_neg (fun y => y k2)]
  have e : (nn_rf M 407 5 = 1 ∧ nn_rf M 407 9 = c) ↔ tK_ f n t = q := by
    rcases h with ⟨h1, h2⟩ | ⟨h1, h2⟩ | ⟨h1, h2⟩ | ⟨h1, h2⟩ | ⟨h1, h2⟩ <;> rw [h1, h2] <;> assumption
  rw [← e]
  by_cases a : nn_rf M 407 5 ≠ 1
  · rw [if_pos a]; exact ⟨fun y => absurd rfl y, fun y => absurd y.1 a⟩
  · rw [if_neg a]
    by_cases b : mm_lcmp (nn_rf M 407 9) c ≠ 0
    · rw [if_pos b]; exact ⟨fun y => absurd rfl y, fun y => absurd ((lcmp_eq _ _).mpr y.2) b⟩
    · rw [if_neg b]
      have b := (lcmp_eq _ _).mp (Decidable.not_not.mp b)
      exact ⟨fun _ => ⟨by omega, b⟩, fun _ => by decide⟩
/-- a fault is told -/
def mwr_ (M : mm_M) (f : Int → Int) (n st t : Int) : Prop := nn_rf M 407 7 = st ∧ nn_rf M 407 8 = tP_ f n t
theorem ct_M_fail {f : Int → Int} {n t st : Int} {M : mm_M} {R : mm_M → Prop} (k : ms_ M f n t) (h : ∀ M', fr_ (fun o b => o = 407 ∧ (b = 7 ∨ b = 8)) M M' → mwr_ M' f n st t → R M') : nr_M_fails st M R := by
  obtain ⟨k1, k2, k3, k4, k5⟩ := k
  refine ng_M_fails _ _ _ ⟨fun _ => ?_, fun y => by omega⟩
  intro M1 e1
  have a6 : nn_rf M1 407 6 = tP_ f n t := by rw [e1, rd_ff, if_neg (by omega)]; exact k3
  rw [a6]
  intro M2 e2
  refine h M2 (by rw [e2, e1]; exact fr_uf (fr_uf (fr_refl M) ⟨rfl, by omega⟩) ⟨rfl, by omega⟩) ⟨by rw [e2, rd_ff, if_neg (by omega), e1, rd_ff, if_pos ⟨rfl, rfl⟩], by rw [e2, rd_ff, if_pos ⟨rfl, rfl⟩]⟩
def mrow_ (M : mm_M) (a : Int) (v : Int → Int) : Prop := nn_ri M 408 a = v 4 ∧ ∀ c, 0 ≤ c → c < 4 → nn_ri M 408 (a + 1 + c) = v c
def mrc_ (a : Int) (o b : Nat) : Prop := tkc2_ o b ∨ (o = 408 ∧ a ≤ (b : Int) ∧ (b : Int) < a + 5)
def mrc2_ (a : Int) (o b : Nat) : Prop := mrc_ a o b ∨ (o = 407 ∧ (b = 7 ∨ b = 8))
theorem mrow_fr {P : Nat → Nat → Prop} {M M' : mm_M} {a : Int} {v : Int → Int} (h : fr_ P M M') (ha : 0 ≤ a) (hv : ∀ b : Nat, a ≤ (b : Int) → (b : Int) < a + 5 → ¬ P 408 b) (k : mrow_ M a v) : mrow_ M' a v := ⟨(fr_ri h (hv _ (by omega) (by omega))).trans k.1, fun c c0 c1 => (fr_ri h (hv _ (by omega) (by omega))).trans (k.2 c c0 c1)⟩
/-- behind a term -/
theorem ct_M_reads_168 {f : Int → Int} {n T t a many : Int} {M : mm_M} {R : mm_M → Prop} (x : tx_T f n T) (kn : kn_ (tK_ f n) (tN_ f n) T) (ht : 0 ≤ t ∧ t ≤ T) (k : ms_ M f n t)
    (h1 : tK_ f n t = 8 → t < T → ∀ M' z, fr_ tkc2_ M M' → ms_ M' f n (t + 1) → z ≠ 0 → nk_M_reads_26 a many z M' R) (h0 : tK_ f n t ≠ 8 → R M) : nk_M_reads_168 a many M R := by
  have hs := m_isSgn k (c := 43) (q := 8) (Or.inl ⟨rfl, rfl⟩)
  refine ng_M_reads_168 _ _ _ _ ⟨fun y => ?_, fun y => ?_⟩
  · rw [y]
    exact ng_M_reads_26 _ _ _ _ _ ⟨fun _ => h0 (fun w => absurd y (hs.mpr w)), fun w => absurd rfl w⟩
  · have w := hs.mp y
    have l := kn_lt kn ht.2 (by rw [w]; decide)
    exact ct_M_step x ⟨ht.1, l⟩ k (fun M' f' k' => h1 w l M' _ f' k' y)
theorem ct_M_reads {f : Int → Int} {n T t a : Int} {M : mm_M} {R : mm_M → Prop} (x : tx_T f n T) (kn : kn_ (tK_ f n) (tN_ f n) T) (ht : 0 ≤ t ∧ t ≤ T) (k : ms_ M f n t) (ha : 300 ≤ a ∧ a + 5 ≤ 32844)
    (h1 : (rsm_ (tK_ f n) (tN_ f n) 4 t zv_).1 = 0 → ∀ M', fr_ (mrc_ a) M M' → ms_ M' f n (rsm_ (tK_ f n) (tN_ f n) 4 t zv_).2.1 → mrow_ M' a (rsm_ (tK_ f n) (tN_ f n) 4 t zv_).2.2 → R M')
    (h0 : (rsm_ (tK_ f n) (tN_ f n) 4 t zv_).1 ≠ 0 → ∀ M', fr_ (mrc2_ a) M M' → mwr_ M' f n (rsm_ (tK_ f n) (tN_ f n) 4 t zv_).1 (rsm_ (tK_ f n) (tN_ f n) 4 t zv_).2.1 → R M') : nr_M_reads a M R := by
  have hT := kn.1
  refine ng_M_reads _ _ _ ?_
  generalize hres : rsm_ (tK_ f n) (tN_ f n) 4 t zv_ = res at h1 h0
  have fault : ∀ (st s : Int) (M1 : mm_M), res.1 = st → res.2.1 = s → st ≠ 0 → fr_ (mrc_ a) M M1 → ms_ M1 f n s → ∀ S : mm_M → Prop, (∀ M', 0 < nn_rf M' 407 7 → fr_ (mrc2_ a) M M' → mwr_ M' f n st s → R M' → S M') → st > 0 → nr_M_fails st M1 S := by
    intro st s M1 q1 q2 q3 f1 k1 S hS hpos
    refine ct_M_fail k1 (fun M2 f2 w2 => ?_)
    have F2 : fr_ (mrc2_ a) M M2 := fr_trans (fr_mono f1 (fun o b y => Or.inl y)) (fr_mono f2 (fun o b y => Or.inr y))
    refine hS M2 (by rw [w2.1]; omega) F2 w2 (h0 (by rw [q1]; exact q3) M2 F2 (by rw [q1, q2]; exact w2))
  have L : ∀ (m : Nat) (i s b : Int) (v : Int → Int) (M1 : mm_M) (z : Int), (m : Int) = 4 - i → 0 ≤ i → fr_ (mrc_ a) M M1 → (0 ≤ s ∧ s ≤ T) → ms_ M1 f n s → vb_ v b → b ≤ 99 * i → mrow_ M1 a v → rsm_ (tK_ f n) (tN_ f n) m s v = res → z ≠ 0 → nk_M_reads_26 a i z M1 R := by
    intro m
    induction m with
    | zero =>
      intro i s b v M1 z hm i0 f1 hs k1 hv hb g1 he hz
      have e0 : rsm_ (tK_ f n) (tN_ f n) 0 s v = (if tK_ f n s = 1 ∨ tK_ f n s = 2 then 2 else 1, s, v) := rfl
      rw [e0] at he
      have ht := m_isTrm k1
      refine ng_M_reads_26 _ _ _ _ _ ⟨fun y => absurd y hz, fun _ => ⟨fun y => ⟨fun y2 => by omega, fun _ => ?_⟩, fun y => ?_⟩⟩
      · rw [if_pos (ht.mp y)] at he
        refine fault 2 s M1 (by rw [← he]) (by rw [← he]) (by decide) f1 k1 _ (fun M' hp F' w' hR => ?_) (by decide)
        exact ng_M_reads_55 _ _ _ _ ⟨fun y => by omega, fun _ => hR⟩
      · have hn : ¬ (tK_ f n s = 1 ∨ tK_ f n s = 2) := fun w => absurd y (ht.mpr w)
        rw [if_neg hn] at he
        refine fault 1 s M1 (by rw [← he]) (by rw [← he]) (by decide) f1 k1 _ (fun M' hp F' w' hR => ?_) (by decide)
        exact ng_M_reads_55 _ _ _ _ ⟨fun y => by omega, fun _ => hR⟩
    | succ m ih =>
      intro i s b v M1 z hm i0 f1 hs k1 hv hb g1 he hz
      obtain ⟨r1, r2, r3⟩ := rtm_in kn hs
      have htm := m_isTrm k1
      have hcl := m_isCol k1
      have e1 : rsm_ (tK_ f n) (tN_ f n) (m + 1) s v = if (rtm_ (tK_ f n) (tN_ f n) s).1 ≠ 0 then (1, (rtm_ (tK_ f n) (tN_ f n) s).2.1, v) else if tK_ f n (rtm_ (tK_ f n) (tN_ f n) s).2.1 = 8 then rsm_ (tK_ f n) (tN_ f n) m ((rtm_ (tK_ f n) (tN_ f n) s).2.1 + 1) (adv_ v (rtm_ (tK_ f n) (tN_ f n) s).2.2.1 (rtm_ (tK_ f n) (tN_ f n) s).2.2.2) else (0, (rtm_ (tK_ f n) (tN_ f n) s).2.1, adv_ v (rtm_ (tK_ f n) (tN_ f n) s).2.2.1 (rtm_ (tK_ f n) (tN_ f n) s).2.2.2) := rfl
      rw [e1] at he
      -- a term that fits: what follows
      have done : ∀ (M2 : mm_M), fr_ (mrc_ a) M M2 → (rtm_ (tK_ f n) (tN_ f n) s).1 = 0 → ms_ M2 f n (rtm_ (tK_ f n) (tN_ f n) s).2.1 → mrow_ M2 a (adv_ v (rtm_ (tK_ f n) (tN_ f n) s).2.2.1 (rtm_ (tK_ f n) (tN_ f n) s).2.2.2) → nk_M_reads_168 a (i + 1) M2 R := by
        intro M2 F2 w k2 g2
        rw [if_neg (fun y => y w)] at he
        obtain ⟨r4, r5⟩ := r3 w
        refine ct_M_reads_168 x kn ⟨by omega, r1.2⟩ k2 (fun y8 l M3 z3 f3 k3 hz3 => ?_) (fun n8 => ?_)
        · rw [if_pos y8] at he
          exact ih (i + 1) _ (b + 99) _ M3 z3 (by omega) (by omega) (fr_trans F2 (fr_mono f3 (fun o b y => Or.inl y))) ⟨by omega, by omega⟩ k3 (vb_adv hv r4 r5) (by omega) (mrow_fr f3 (by omega) (fun b y y2 w => by unfold tkc2_ at w; omega) g2) he hz3
        · rw [if_neg n8] at he
          rw [← he] at h1
          exact h1 rfl M2 F2 k2 g2
      -- a column at s2, with a factor n2
      have colm : ∀ (s2 n2 z2 : Int) (M2 : mm_M), (0 ≤ s2 ∧ s2 ≤ T) → fr_ (mrc_ a) M M2 → ms_ M2 f n s2 → mrow_ M2 a v → z2 ≠ 0 → (0 ≤ n2 ∧ n2 ≤ 99) → (tK_ f n s2 = 2 → rtm_ (tK_ f n) (tN_ f n) s = (0, s2 + 1, tN_ f n s2, n2)) → (tK_ f n s2 ≠ 2 → rtm_ (tK_ f n) (tN_ f n) s = (1, s2, 0, 0)) → nk_M_reads_108 a (i + 1) n2 z2 M2 R := by
        intro s2 n2 z2 M2 hs2 F2 k2 g2 hz2 hn2 hy hno
        have hc2 := m_isCol k2
        refine ng_M_reads_108 _ _ _ _ _ _ ⟨fun y => ?_, fun y => ?_⟩
        · have yc := hc2.1.mp (y.resolve_left hz2)
          have er := hy yc
          have l := kn_lt kn hs2.2 (by rw [yc]; decide)
          have nb := (kn.2.2 s2 hs2.1 l).2 yc
          have hval : nn_rf M2 407 9 = tN_ f n s2 + 1 := k2.2.2.2.2.2.2.2.2.1 yc
          have hcol : 0 ≤ tN_ f n s2 ∧ tN_ f n s2 < 5 := by omega
          have hvc := vb_le hv hcol.1 hcol.2
          have hv0 := hv.1 _ hcol.1 hcol.2
          refine ng_M_reads_125 _ _ _ _ _ _ ⟨fun _ => ⟨fun w => absurd w hz2, fun _ => ?_⟩, fun w => by have := k2.2.1; omega⟩
          rw [hval, mm_w_id (x := tN_ f n s2 + 1) (by omega), mm_w_id (x := a + (tN_ f n s2 + 1)) (by omega), show a + (tN_ f n s2 + 1) = a + 1 + tN_ f n s2 by omega, g2.2 _ nb.1 (by omega), mm_w_id (x := v (tN_ f n s2) + n2) (by omega)]
          refine ⟨by omega, by omega, ?_⟩
          intro M3 e3
          refine ⟨fun w => absurd w hz2, fun _ => ?_⟩
          have f3 : fr_ (fun o b => o = 408 ∧ (b : Int) = a + 1 + tN_ f n s2) M2 M3 := by rw [e3]; exact fr_ui (fr_refl M2) ⟨rfl, by omega⟩
          have k3 : ms_ M3 f n s2 := ms_fr f3 (fun o b y => by omega) k2
          have g3 : mrow_ M3 a (adv_ v (tN_ f n s2) n2) := by
            refine ⟨?_, fun c c0 c1 => ?_⟩
            · rw [fr_ri f3 (by omega)]
              unfold adv_
              rw [if_neg (by omega)]; exact g2.1
            · unfold adv_
              by_cases w : c = tN_ f n s2
              · rw [if_pos w, e3, rd_ii, if_pos ⟨rfl, by rw [w]⟩, w]
              · rw [if_neg w, fr_ri f3 (by omega)]; exact g2.2 c c0 c1
          refine ct_M_step x ⟨hs2.1, l⟩ k3 (fun M4 f4 k4 => ?_)
          refine done M4 (fr_trans (fr_trans F2 (fr_mono f3 (fun o b y => Or.inr ⟨y.1, by omega, by omega⟩))) (fr_mono f4 (fun o b y => Or.inl y))) (by rw [er]) (by rw [er]; exact k4) (by rw [er]; exact mrow_fr f4 (by omega) (fun b y y2 w => by unfold tkc2_ at w; omega) g3)
        · have er := hno (hc2.2.mp y.2)
          rw [er, if_pos (show ¬ (1 : Int) = 0 by decide)] at he
          refine fault 1 s2 M2 (by rw [← he]) (by rw [← he]) (by decide) F2 k2 _ (fun M' hp F' w' hR => ?_) (by decide)
          exact ng_M_reads_125 _ _ _ _ _ _ ⟨fun y => by omega, fun _ => hR⟩
      refine ng_M_reads_26 _ _ _ _ _ ⟨fun y => absurd y hz, fun _ => ⟨fun y => ⟨fun _ => ?_, fun y2 => by omega⟩, fun y => ?_⟩⟩
      · refine ng_M_reads_55 _ _ _ _ ?_
        rw [mm_w_id (x := i + 1) (by omega)]
        refine ⟨fun _ => ⟨fun yc => ?_, fun nc => ?_⟩, fun w => by have := k1.2.1; omega⟩
        · have kc := hcl.1.mp yc
          have n1 : ¬ tK_ f n s = 1 := by omega
          refine colm s 1 _ M1 hs f1 k1 g1 yc (by omega) (fun _ => ?_) (fun w => absurd kc w)
          unfold rtm_
          rw [if_neg n1, if_pos kc]
        · have k1' : tK_ f n s = 1 := (htm.mp y).resolve_right (hcl.2.mp nc)
          have l := kn_lt kn hs.2 (by rw [k1']; decide)
          have nb := (kn.2.2 s hs.1 l).1 k1'
          have hval : nn_rf M1 407 9 = tN_ f n s := k1.2.2.2.2.2.2.1 k1'
          refine ct_M_step x ⟨hs.1, l⟩ k1 (fun M2 f2 k2 => ?_)
          have F2 := fr_trans f1 (fr_mono f2 (fun o b y => Or.inl y))
          have g2 : mrow_ M2 a v := mrow_fr f2 (by omega) (fun b y y2 w => by unfold tkc2_ at w; omega) g1
          have hsg := m_isSgn k2 (c := 42) (q := 9) (Or.inr (Or.inl ⟨rfl, rfl⟩))
          rw [hval, mm_w_id (x := tN_ f n s) (by omega)]
          refine ⟨fun w => ?_, fun w => ?_⟩
          · have n9 : ¬ tK_ f n (s + 1) = 9 := fun u => absurd w (hsg.mpr u)
            have er : rtm_ (tK_ f n) (tN_ f n) s = (0, s + 1, 4, tN_ f n s) := by
              unfold rtm_
              rw [if_pos k1', if_neg n9]
            rw [w]
            refine ng_M_reads_108 _ _ _ _ _ _ ⟨fun _ => ?_, fun u => absurd rfl u.1⟩
            have hv4 := vb_le hv (c := 4) (by omega) (by omega)
            have hv0 := hv.1 4 (by omega) (by omega)
            refine ng_M_reads_125 _ _ _ _ _ _ ⟨fun _ => ⟨fun _ => ?_, fun u => absurd rfl u⟩, fun u => by have := k2.2.1; omega⟩
            rw [mm_w_id (x := a + 0) (by omega), Int.add_zero, g2.1, mm_w_id (x := v 4 + tN_ f n s) (by omega)]
            refine ⟨by omega, by omega, ?_⟩
            intro M3 e3
            refine ⟨fun _ => ?_, fun u => absurd rfl u⟩
            have f3 : fr_ (fun o b => o = 408 ∧ (b : Int) = a) M2 M3 := by rw [e3]; exact fr_ui (fr_refl M2) ⟨rfl, by omega⟩
            have k3 : ms_ M3 f n (s + 1) := ms_fr f3 (fun o b y => by omega) k2
            have g3 : mrow_ M3 a (adv_ v 4 (tN_ f n s)) := by
              refine ⟨?_, fun c c0 c1 => ?_⟩
              · rw [e3, rd_ii, if_pos ⟨rfl, rfl⟩]
                unfold adv_
                rw [if_pos rfl]
              · rw [fr_ri f3 (by omega)]
                unfold adv_
                rw [if_neg (by omega)]; exact g2.2 c c0 c1
            exact done M3 (fr_trans F2 (fr_mono f3 (fun o b y => Or.inr ⟨y.1, by omega, by omega⟩))) (by rw [er]) (by rw [er]; exact k3) (by rw [er]; exact g3)
          · have y9 := hsg.mp w
            have l2 := kn_lt kn (t := s + 1) (by omega) (by rw [y9]; decide)
            refine ct_M_step x ⟨by omega, l2⟩ k2 (fun M3 f3 k3 => ?_)
            rw [show s + 1 + 1 = s + 2 by omega] at k3
            refine colm (s + 2) (tN_ f n s) _ M3 ⟨by omega, by omega⟩ (fr_trans F2 (fr_mono f3 (fun o b y => Or.inl y))) k3 (mrow_fr f3 (by omega) (fun b y y2 w => by unfold tkc2_ at w; omega) g2) w nb (fun y2 => ?_) (fun n2 => ?_)
            · unfold rtm_
              rw [if_pos k1', if_pos y9, if_pos y2]
              rw [show s + 2 + 1 = s + 3 by omega]
            · unfold rtm_
              rw [if_pos k1', if_pos y9, if_neg n2]
      · have hn : ¬ (tK_ f n s = 1 ∨ tK_ f n s = 2) := fun w => absurd y (htm.mpr w)
        have er : rtm_ (tK_ f n) (tN_ f n) s = (1, s, 0, 0) := by
          unfold rtm_
          rw [if_neg (fun w => hn (Or.inl w)), if_neg (fun w => hn (Or.inr w))]
        rw [er, if_pos (show ¬ (1 : Int) = 0 by decide)] at he
        refine fault 1 s M1 (by rw [← he]) (by rw [← he]) (by decide) f1 k1 _ (fun M' hp F' w' hR => ?_) (by decide)
        exact ng_M_reads_55 _ _ _ _ ⟨fun y => by omega, fun _ => hR⟩
  have L0 : ∀ q : Int, q ≤ 5 → 0 ≤ q → ∀ M1, fr_ (fun o b => o = 408 ∧ a ≤ (b : Int) ∧ (b : Int) < a + 5) M M1 → (∀ c, 0 ≤ c → c < q → nn_ri M1 408 (a + c) = 0) → nk_M_reads_2 a q M1 R := by
    refine lp_up (fun q hq ih q0 M1 f1 g1 => ?_)
    refine ng_M_reads_2 _ _ _ _ ⟨fun c => ?_, fun c => ?_⟩
    · refine L 4 0 t 0 zv_ M1 1 (by omega) (Int.le_refl _) (fr_mono f1 (fun o b y => Or.inr y)) ht (ms_fr f1 (fun o b y => by omega) k) vb_0 (by omega) ⟨?_, fun c c0 c1 => ?_⟩ hres (by decide)
      · have := g1 0 (by omega) (by omega)
        rw [Int.add_zero] at this
        exact this
      · rw [show a + 1 + c = a + (1 + c) by omega]; exact g1 (1 + c) (by omega) (by omega)
    · rw [mm_w_id (x := a + q) (by omega), mm_w_id (x := q + 1) (by omega)]
      refine ⟨by omega, ?_⟩
      intro M2 e2
      refine ih c (by omega) M2 (by rw [e2]; exact fr_ui f1 ⟨rfl, by omega, by omega⟩) (fun c' z0 z1 => ?_)
      rw [e2, rd_ii]
      by_cases y : c' = q
      · rw [if_pos ⟨rfl, by rw [y]⟩]
      · rw [if_neg (by omega)]; exact g1 c' z0 (by omega)
  exact L0 0 (by omega) (Int.le_refl _) M (fr_refl M) (fun c z0 z1 => by omega)
