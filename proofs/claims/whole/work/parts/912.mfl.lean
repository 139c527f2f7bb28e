/-! the Model: a flush whole -/
def mXs_ (M : mm_M) (b : Int) (Xs : Int → ab_X) : Prop := ∀ i, 0 ≤ i → i < 4 → mX_ M (xi_ b i) (Xs i)
def mT_ (M : mm_M) (b : Int) (T : ab_T) : Prop := tM_ M b (aTm_ T) (aTn_ T) (aTq_ T) ∧ (nn_ri M 408 b = aTs_ T ∧ nn_ri M 408 (b + 1) = aTi_ T ∧ (aTi_ T ≠ 0 → nn_ri M 408 (b + 2) = aTs_ T - aTi_ T + 1) ∧ nn_ri M 408 (b + 8) = (aTc_ T).2) ∧ mXs_ M b (aTX_ T)
/-- what a write of the Model's block may change -/
def mw_ (b : Int) (o c : Nat) : Prop := o = 408 ∧ ((b ≤ (c : Int) ∧ (c : Int) < b + 3) ∨ (c : Int) = b + 5 ∨ (c : Int) = b + 8 ∨ (c : Int) = b + 23 ∨ (b + 24 ≤ (c : Int) ∧ (c : Int) < b + 88) ∨ (b + 288 ≤ (c : Int) ∧ (c : Int) < b + 5204))
theorem mXs_fr {P : Nat → Nat → Prop} {M M' : mm_M} (h : fr_ P M M') {b : Int} {Xs : Int → ab_X} (hb : bk_ b) (hv : ∀ c : Nat, b + 1784 ≤ (c : Int) → (c : Int) < b + 5204 → ¬ P 408 c) (k : mXs_ M b Xs) : mXs_ M' b Xs := fun i i0 i1 => by
  have hb' := hb
  unfold bk_ at hb'
  exact mX_fr h (by unfold xi_; omega) (fun c h1 h2 => hv c (by unfold xi_ at h1; omega) (by unfold xi_ at h2; omega)) (k i i0 i1)
theorem mXs_upd {M M' : mm_M} {b i : Int} {Xs : Int → ab_X} {X : ab_X} (hb : bk_ b) (hi : 0 ≤ i ∧ i < 4) (f : fr_ (mxi_ b (xi_ b i)) M M') (k : mXs_ M b Xs) (hx : mX_ M' (xi_ b i) X) : mXs_ M' b (fun j => if j = i then X else Xs j) := by
  have hb' := hb
  unfold bk_ at hb'
  intro j j0 j1
  show mX_ M' (xi_ b j) (if j = i then X else Xs j)
  by_cases z : j = i
  · rw [if_pos z, z]; exact hx
  · rw [if_neg z]
    refine mX_fr f (by unfold xi_; omega) (fun c h1 h2 y => ?_) (k j j0 j1)
    have y2 := y.2
    unfold xi_ at h1 h2 y2
    omega
theorem ct_M_sureX {b st since lvb sb nb : Int} {mem lat : ab_V} {Xs : Int → ab_X} {M : mm_M} {R : Int → mm_M → Prop} (hb : bk_ b) (k : mXs_ M b Xs) (j : ∀ i, 0 ≤ i → i < 4 → jX_ st since lvb sb nb mem lat (Xs i)) (h : R (sur_ Xs) M) : nr_M_sure b M R := by
  refine ct_M_sure (how := fun i => xh_ (Xs i)) (begun := fun i => xb_ (Xs i)) (n := fun i => xn_ (Xs i)) (g := fun i => xg_ (Xs i)) hb (fun i i0 i1 => ?_) h
  obtain ⟨k0, k1⟩ := k i i0 i1
  refine ⟨k0, fun hz => ?_⟩
  obtain ⟨⟨a1, a2, a3, a4⟩, b1, c1, d, e⟩ := k1 hz
  obtain ⟨⟨_, _, _, q1, _⟩, _, ⟨_, q2⟩, _⟩ := j i i0 i1 hz
  exact ⟨a3, q1.1, d, fun r r0 r1 => (q2 r r0 r1).1.1⟩
theorem ct_M_mrgX {b i fan st nT since lvb sb nb : Int} {mem : ab_V} {q : Int → ab_R} {c : Int × Int} {X : ab_X} {M : mm_M} {R : mm_M → Prop} (hb : bk_ b) (hi : 0 ≤ i ∧ i < 4) (h0 : xh_ X ≠ 0) (hfan : 2 ≤ fan ∧ fan ≤ 4) (hf : nn_ri M 408 (b + 4) = fan) (t : tM_ M b mem nT q) (k : mX_ M (xi_ b i) X) (j : jX_ st since lvb sb nb mem (lk_ mem nT q) X) (hst : nn_ri M 408 b = st ∧ 0 ≤ st) (hl : 0 ≤ lvb ∧ lvb < 1000000000) (h8 : nn_ri M 408 (b + 8) = c.2) (hc : 0 ≤ c.2 ∧ c.2 < 1000000000)
    (h : ∀ M', fr_ (mxi_ b (xi_ b i)) M M' → nn_ri M' 408 (b + 8) = (mrg_ fan st (lk_ mem nT q) c X).1.2 → mX_ M' (xi_ b i) (mrg_ fan st (lk_ mem nT q) c X).2 → R M') : nr_M_mergesAll b i M R := by
  have hb' := hb
  unfold bk_ at hb'
  obtain ⟨⟨a1, a2, a3, a4, a5, a6⟩, b1, c1, d, e⟩ := k.2 h0
  have v := jX_vl j h0
  obtain ⟨⟨_, _, q0, _⟩, _, ⟨_, q2⟩, q3, _⟩ := j h0
  have hme : xm_ X = if nn_ri M 408 (xi_ b i + 2) = 1 then 1 else 0 := by
    rw [a2]
    rcases q0 with z | z
    · rw [z]; rfl
    · rw [z]; rfl
  refine ct_M_mergesAllX (w := (xn_ X, c.1, c.2, xg_ X)) (A := xA_ X) (bd := lvb) (stamp := st) hb hi hfan hf t ⟨d, e, v.2.2, fun r r0 r1 => ⟨(q2 r r0 r1).1.1, fun y hy p hp => ((q3 y (Or.inr (Or.inr ⟨r, r0, r1, hy⟩))).2.2 p hp).1⟩, h8⟩ (fun y _ hy p hp => ((q3 y (Or.inl hy)).2.2 p hp).1) hme hst ⟨fun r r0 r1 => (q2 r r0 r1).2, hl.1, hl.2⟩ hc (fun M' f s => ?_)
  obtain ⟨s1, s2, s3, s4, s5⟩ := s
  rw [mrg_1 h0] at h
  refine h M' f s5 (mX_part (A := xA_ X) k (fun z z0 z1 z2 z3 => ?_) s1 s2)
  refine fr_ri f (fun y => ?_)
  have y2 := y.2
  have : 0 ≤ xi_ b i := by unfold xi_; omega
  have hbx : b + 1784 ≤ xi_ b i := by unfold xi_; omega
  omega
/-- what the first part of a flush leaves -/
theorem fl_w {bd sb si fan : Int} {T : ab_T} (hfan : 2 ≤ fan) (hbd : 0 ≤ bd ∧ bd < 1000000000) (hsb : sb ≤ 80) (k : jT_ bd sb si T) : (∀ i, 0 ≤ i → i < 4 → jX_ (aTs_ T) 0 bd sb 20 nov_ (aTl_ T) ((flL_ (aTs_ T) (aTm_ T) (aTc_ T) (aTX_ T)).2 i)) ∧ ∀ i, 0 ≤ i → i < 4 → jX_ (aTs_ T) 0 bd sb 20 nov_ (aTl_ (fl2_ fan T)) ((flL_ (aTs_ T) (aTm_ T) (aTc_ T) (aTX_ T)).2 i) := by
  obtain ⟨f1, f2, f3, f4, f5⟩ := fl_facts hfan hbd.2 k hsb
  obtain ⟨dd, b, ⟨c1, c2, c3, c4⟩, d, e⟩ := k
  have w1 : ∀ i, 0 ≤ i → i < 4 → jX_ (aTs_ T) 0 bd sb 20 nov_ (aTl_ T) ((flL_ (aTs_ T) (aTm_ T) (aTc_ T) (aTX_ T)).2 i) := fd_all (F := lay_ (aTs_ T) (aTm_ T)) (s := (aTc_ T, aTX_ T)) (P := jX_ (aTs_ T) (aTi_ T) bd sb 19 (aTm_ T) (aTl_ T)) (Q := jX_ (aTs_ T) 0 bd sb 20 nov_ (aTl_ T)) (fun c X hX => jX_lay c1.1 hbd.1 hX) e
  exact ⟨w1, fun i i0 i1 => jX_lz f2 (w1 i i0 i1)⟩
/-- the runs of the table move up, MEMORY becomes run 0 -/
theorem ct_M_flTable {b n st fi : Int} (cid : Int) {mem : ab_V} {q : Int → ab_R} {M : mm_M} {R : Int → mm_M → Prop} (hb : bk_ b) (t : tM_ M b mem n q) (hn : n ≤ 21) (hst : nn_ri M 408 b = st) (hfi : nn_ri M 408 (b + 2) = fi) (h8 : 0 ≤ nn_ri M 408 (b + 8) ∧ nn_ri M 408 (b + 8) < 2000000000)
    (h : ∀ M', fr_ (fun o c => o = 408 ∧ ((c : Int) = b + 1 ∨ (c : Int) = b + 5 ∨ (c : Int) = b + 8 ∨ (b + 24 ≤ (c : Int) ∧ (c : Int) < b + 88) ∨ (b + 288 ≤ (c : Int) ∧ (c : Int) < b + 1784))) M M' → nn_ri M' 408 (b + 1) = 0 → nn_ri M' 408 (b + 8) = nn_ri M 408 (b + 8) + 1 → tM_ M' b nov_ (n + 1) (sh_ (cid, nn_ri M 408 (b + 8) + 1, 0, fi, st, mem) q) → nk_M_flushes_220 b (-1) M' R) : nk_M_flushes_62 b (b + 288 + 68 * n - 1) M R := by
  have hb' := hb
  unfold bk_ at hb'
  obtain ⟨t1, t2, ⟨t3, t4, t5⟩, t6⟩ := t
  have hr0 : nf_M_runAt b 0 = b + 288 := by rw [nf_runAt hb ⟨by omega, by omega⟩]; omega
  -- MEMORY is moved
  have L2 : ∀ i : Int, i ≤ 64 → 0 ≤ i → ∀ M0 M1, fr_ (fun o c => o = 408 ∧ ((b + 24 ≤ (c : Int) ∧ (c : Int) < b + 88) ∨ (b + 292 ≤ (c : Int) ∧ (c : Int) < b + 356))) M0 M1 → (∀ j, 0 ≤ j → j < i → nn_ri M1 408 (b + 292 + j) = nn_ri M0 408 (b + 24 + j) ∧ nn_ri M1 408 (b + 24 + j) = 0) → (∀ j, i ≤ j → j < 64 → nn_ri M1 408 (b + 24 + j) = nn_ri M0 408 (b + 24 + j)) → (∀ M', fr_ (fun o c => o = 408 ∧ ((c : Int) = b + 1 ∨ (b + 24 ≤ (c : Int) ∧ (c : Int) < b + 88) ∨ (b + 292 ≤ (c : Int) ∧ (c : Int) < b + 356))) M0 M' → nn_ri M' 408 (b + 1) = 0 → (∀ j, 0 ≤ j → j < 64 → nn_ri M' 408 (b + 292 + j) = nn_ri M0 408 (b + 24 + j) ∧ nn_ri M' 408 (b + 24 + j) = 0) → nk_M_flushes_220 b (-1) M' R) → nk_M_flushes_164 b (b + 288) i M1 R := by
    refine lp_up (fun i hi ih i0 M0 M1 f1 g1 g2 hh => ?_)
    refine ng_M_flushes_164 _ _ _ _ _ ⟨fun c => ?_, fun c => ?_⟩
    · rw [mm_w_id (x := b + 1) (by omega)]
      refine ⟨by omega, ?_⟩
      rintro _ rfl
      refine hh _ (fr_ui (fr_mono f1 (fun o c z => ⟨z.1, by have := z.2; omega⟩)) ⟨rfl, by omega⟩) (by rw [rd_ii, if_pos ⟨rfl, rfl⟩]) (fun j j0 j1 => ?_)
      rw [rd_ii, if_neg (by omega), rd_ii, if_neg (by omega)]
      exact g1 j j0 (by omega)
    · rw [mm_w_id (x := b + 24) (by omega), mm_w_id (x := b + 24 + i) (by omega), mm_w_id (x := b + 288 + 4) (by omega), mm_w_id (x := b + 288 + 4 + i) (by omega), mm_w_id (x := i + 1) (by omega)]
      refine ⟨by omega, by omega, ?_⟩
      rintro _ rfl
      refine ⟨by omega, ?_⟩
      rintro _ rfl
      refine ih c (by omega) M0 _ (fr_ui (fr_ui f1 ⟨rfl, by omega⟩) ⟨rfl, by omega⟩) (fun j j0 j1 => ?_) (fun j j0 j1 => ?_) hh
      · rw [rd_ii, if_neg (by omega), rd_ii, rd_ii, rd_ii]
        by_cases z : j = i
        · rw [if_pos ⟨rfl, by rw [z]; congr 1; omega⟩, if_pos ⟨rfl, by rw [z]⟩, g2 i (Int.le_refl _) c, z]
          exact ⟨rfl, rfl⟩
        · rw [if_neg (by omega), if_neg (by omega), if_neg (by omega)]
          exact g1 j j0 (by omega)
      · rw [rd_ii, if_neg (by omega), rd_ii, if_neg (by omega)]
        exact g2 j (by omega) j1
  -- the runs move up
  have L : ∀ a : Int, b + 287 ≤ a → a ≤ b + 288 + 68 * n - 1 → ∀ M1, fr_ (fun o c => o = 408 ∧ (b + 356 ≤ (c : Int) ∧ (c : Int) < b + 1784)) M M1 → (∀ c, b + 288 ≤ c → c < b + 288 + 68 * (n + 1) → nn_ri M1 408 c = if a + 68 < c then nn_ri M 408 (c - 68) else nn_ri M 408 c) → nk_M_flushes_62 b a M1 R := by
    refine lp_dn (fun a ha ih an M1 f1 g1 => ?_)
    have rd0 : ∀ c, b ≤ c → c < b + 356 → nn_ri M1 408 c = nn_ri M 408 c := fun c z0 z1 => fr_ri f1 (fun y => by have := y.2; omega)
    refine ng_M_flushes_62 _ _ _ _ ?_
    rw [hr0, mm_w_id (x := a + 68) (by omega), mm_w_id (x := a + -1) (by omega), show a + -1 = a - 1 by omega]
    refine ⟨fun c => ?_, fun c => ⟨by omega, by omega, ?_⟩⟩
    · rw [mm_w_id (x := b + 5) (by omega), rd0 (b + 5) (by omega) (by omega), t3, mm_w_id (x := n + 1) (by omega)]
      refine ⟨by omega, by omega, ?_⟩
      intro M2 e2
      have r8 : nn_ri M2 408 (b + 8) = nn_ri M 408 (b + 8) := by rw [e2, rd_ii, if_neg (by omega)]; exact rd0 _ (by omega) (by omega)
      refine ct_M_number hb (by rw [r8]; omega) ?_
      rw [r8, mm_w_id (x := b + 288 + 1) (by omega), mm_w_id (x := b + 2) (by omega), mm_w_id (x := b + 288 + 2) (by omega), mm_w_id (x := b + 0) (by omega), mm_w_id (x := b + 288 + 3) (by omega), show b + 0 = b by omega]
      refine ⟨by omega, ?_⟩
      intro M3 e3
      refine ⟨by omega, ?_⟩
      intro M4 e4
      refine ⟨by omega, by omega, ?_⟩
      intro M5 e5
      refine ⟨by omega, by omega, ?_⟩
      intro M6 e6
      -- what stands then
      have rd6 : ∀ c, b ≤ c → c ≠ b + 5 → c ≠ b + 8 → (c < b + 288 ∨ b + 292 ≤ c) → nn_ri M6 408 c = nn_ri M1 408 c := by
        intro c z0 z1 z2 z3
        rw [e6, rd_ii, if_neg (by omega), e5, rd_ii, if_neg (by omega), e4, rd_ii, if_neg (by omega), e3, rd_ii, if_neg (by omega), rd_ii, if_neg (by omega), e2, rd_ii, if_neg (by omega)]
      have x5 : nn_ri M6 408 (b + 5) = n + 1 := by rw [e6, rd_ii, if_neg (by omega), e5, rd_ii, if_neg (by omega), e4, rd_ii, if_neg (by omega), e3, rd_ii, if_neg (by omega), rd_ii, if_neg (by omega), e2, rd_ii, if_pos ⟨rfl, rfl⟩]
      have x8 : nn_ri M6 408 (b + 8) = nn_ri M 408 (b + 8) + 1 := by rw [e6, rd_ii, if_neg (by omega), e5, rd_ii, if_neg (by omega), e4, rd_ii, if_neg (by omega), e3, rd_ii, if_neg (by omega), rd_ii, if_pos ⟨rfl, rfl⟩]
      have y0 : nn_ri M6 408 (b + 288) = nn_ri M 408 (b + 8) + 1 := by rw [e6, rd_ii, if_neg (by omega), e5, rd_ii, if_neg (by omega), e4, rd_ii, if_neg (by omega), e3, rd_ii, if_pos ⟨rfl, rfl⟩]
      have y1 : nn_ri M6 408 (b + 289) = 0 := by rw [e6, rd_ii, if_neg (by omega), e5, rd_ii, if_neg (by omega), e4, rd_ii, if_pos ⟨rfl, by congr 1; omega⟩]
      have y2 : nn_ri M6 408 (b + 290) = fi := by
        rw [e6, rd_ii, if_neg (by omega), e5, rd_ii, if_pos ⟨rfl, by congr 1; omega⟩, e4, rd_ii, if_neg (by omega), e3, rd_ii, if_neg (by omega), rd_ii, if_neg (by omega), e2, rd_ii, if_neg (by omega), rd0 (b + 2) (by omega) (by omega)]
        exact hfi
      have y3 : nn_ri M6 408 (b + 291) = st := by
        rw [e6, rd_ii, if_pos ⟨rfl, by congr 1; omega⟩, e5, rd_ii, if_neg (by omega), e4, rd_ii, if_neg (by omega), e3, rd_ii, if_neg (by omega), rd_ii, if_neg (by omega), e2, rd_ii, if_neg (by omega), rd0 b (by omega) (by omega)]
        exact hst
      have f6 : fr_ (fun o c => o = 408 ∧ ((c : Int) = b + 1 ∨ (c : Int) = b + 5 ∨ (c : Int) = b + 8 ∨ (b + 24 ≤ (c : Int) ∧ (c : Int) < b + 88) ∨ (b + 288 ≤ (c : Int) ∧ (c : Int) < b + 1784))) M M6 := by
        rw [e6, e5, e4, e3, e2]
        exact fr_ui (fr_ui (fr_ui (fr_ui (fr_ui (fr_ui (fr_mono f1 (fun o c z => ⟨z.1, by have := z.2; omega⟩)) ⟨rfl, by omega⟩) ⟨rfl, by omega⟩) ⟨rfl, by omega⟩) ⟨rfl, by omega⟩) ⟨rfl, by omega⟩) ⟨rfl, by omega⟩
      refine L2 0 (by omega) (Int.le_refl _) M6 M6 (fr_refl M6) (fun j j0 j1 => by omega) (fun j j0 j1 => rfl) (fun M7 f7 s1 mv => ?_)
      have rd7 : ∀ c, b ≤ c → c ≠ b + 1 → (c < b + 24 ∨ b + 88 ≤ c) → (c < b + 292 ∨ b + 356 ≤ c) → nn_ri M7 408 c = nn_ri M6 408 c := fun c z0 z1 z2 z3 => fr_ri f7 (fun y => by have := y.2; omega)
      refine h M7 (fr_trans f6 (fr_mono f7 (fun o c z => ⟨z.1, by have := z.2; omega⟩))) s1 ((rd7 _ (by omega) (by omega) (by omega) (by omega)).trans x8) ⟨?_, fun k k0 k1 => ?_, ⟨(rd7 _ (by omega) (by omega) (by omega) (by omega)).trans x5, by omega, by omega⟩, fun r r0 r1 => ?_⟩
      · funext k
        unfold mv_
        by_cases z : k < 32
        · have := (mv (k : Int) (by omega) (by omega)).2
          rw [this, if_neg (by omega)]
          rfl
        · rw [if_neg (by omega)]
          rfl
      · rw [(mv k k0 (by omega)).2]
        exact Int.le_refl _
      · unfold sh_
        by_cases z : r = 0
        · rw [if_pos z, z]
          refine ⟨?_, ?_, ?_, ?_, ?_, fun k k0 k1 => ?_⟩
          · rw [show b + 288 + 68 * 0 = b + 288 by omega, rd7 _ (by omega) (by omega) (by omega) (by omega)]; exact y0
          · rw [show b + 288 + 68 * 0 + 1 = b + 289 by omega, rd7 _ (by omega) (by omega) (by omega) (by omega)]; exact y1
          · rw [show b + 288 + 68 * 0 + 2 = b + 290 by omega, rd7 _ (by omega) (by omega) (by omega) (by omega)]; exact y2
          · rw [show b + 288 + 68 * 0 + 3 = b + 291 by omega, rd7 _ (by omega) (by omega) (by omega) (by omega)]; exact y3
          · rw [show b + 288 + 68 * 0 + 4 = b + 292 by omega, ← t1]
            refine mv_cg (fun j j0 j1 => ?_)
            rw [(mv j j0 j1).1, rd6 _ (by omega) (by omega) (by omega) (by omega)]
            exact rd0 _ (by omega) (by omega)
          · rw [show b + 288 + 68 * 0 + 4 + k = b + 292 + k by omega, (mv k k0 (by omega)).1, rd6 _ (by omega) (by omega) (by omega) (by omega), rd0 _ (by omega) (by omega)]
            exact t2 k k0 k1
        · rw [if_neg z]
          refine rM_cg (fun j j0 j1 => ?_) (t6 (r - 1) (by omega) (by omega))
          rw [rd7 _ (by omega) (by omega) (by omega) (by omega), rd6 _ (by omega) (by omega) (by omega) (by omega), g1 _ (by omega) (by omega), if_pos (by omega)]
          congr 1
          omega
    · intro M2 e2
      rw [e2]
      refine ih (by omega) (by omega) _ (fr_ui f1 ⟨rfl, by omega⟩) (fun c' c0 c1 => ?_)
      rw [rd_ii]
      by_cases z : c' = a + 68
      · rw [if_pos ⟨rfl, by rw [z]⟩, if_pos (by omega), g1 a (by omega) (by omega), if_neg (by omega), show c' - 68 = a by omega]
      · rw [if_neg (by omega), g1 c' c0 c1]
        by_cases w : a + 68 < c'
        · rw [if_pos w, if_pos (by omega)]
        · rw [if_neg w, if_neg (by omega)]
  refine L _ (by omega) (Int.le_refl _) M (fr_refl M) (fun c c0 c1 => ?_)
  rw [if_neg (by omega)]
