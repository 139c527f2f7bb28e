/-! the Model reads atoms, the whole text -/
theorem m_wrong {M : mm_M} (h : nn_rf M 407 7 ≠ 0) : (∀ c, nf_M_isSign c M = 0) ∧ (∀ c, nf_M_isWord c M = 0) ∧ nf_M_isTerm M = 0 := by
  refine ⟨fun c => ?_, fun c => ?_, ?_⟩
  · unfold nf_M_isSign; rw [if_pos h]
  · unfold nf_M_isWord; rw [if_pos h]
  · unfold nf_M_isTerm; rw [if_pos h]
theorem ct_M_failW {st : Int} {M : mm_M} {R : mm_M → Prop} (h : 0 < nn_rf M 407 7) (hR : R M) : nr_M_fails st M R := ng_M_fails _ _ _ ⟨fun y => by omega, fun _ => hR⟩
theorem ct_M_opt {f : Int → Int} {n T t c q : Int} {M : mm_M} {R : Int → mm_M → Prop} (x : tx_T f n T) (kn : kn_ (tK_ f n) (tN_ f n) T) (ht : 0 ≤ t ∧ t ≤ T) (k : ms_ M f n t) (hcq : (c = 79 ∧ q = 3) ∨ (c = 12384743 ∧ q = 4) ∨ (c = 1111 ∧ q = 5) ∨ (c = 308957333 ∧ q = 6) ∨ (c = 7017481 ∧ q = 7))
    (h : ∀ z M', (z ≠ 0 ↔ tK_ f n t = q) → (0 ≤ op_ (tK_ f n) q t ∧ op_ (tK_ f n) q t ≤ T) → fr_ tkc2_ M M' → ms_ M' f n (op_ (tK_ f n) q t) → R z M') : nr_M_hasWord c M R := by
  have hw := m_isWrd k hcq
  unfold op_ at h
  refine ng_M_hasWord _ _ _ ⟨fun y => ?_, fun y => ?_⟩
  · have nk : ¬ tK_ f n t = q := fun w => absurd y (hw.mpr w)
    rw [if_neg nk] at h
    exact h _ M hw ht (fr_refl M) k
  · have yk := hw.mp y
    have l := kn_lt kn ht.2 (by rw [yk]; omega)
    rw [if_pos yk] at h
    exact ct_M_step x ⟨ht.1, l⟩ k (fun M' f' k' => h _ M' hw ⟨by omega, by omega⟩ f' k')
theorem ct_M_optW {c : Int} {M : mm_M} {R : Int → mm_M → Prop} (h : nn_rf M 407 7 ≠ 0) (hR : R 0 M) : nr_M_hasWord c M R := by
  have e := (m_wrong h).2.1 c
  refine ng_M_hasWord _ _ _ ⟨fun _ => ?_, fun y => absurd e y⟩
  rw [e]; exact hR
def mxc_ (x : Int) (o b : Nat) : Prop := (o = 407 ∧ 4 ≤ b ∧ b < 10) ∨ (o = 408 ∧ ((x + 1 ≤ (b : Int) ∧ (b : Int) < x + 3) ∨ (x + 8 ≤ (b : Int) ∧ (b : Int) < x + 47)))
def sgc_ (q c : Int) : Prop := (q = 10 ∧ c = 60) ∨ (q = 11 ∧ c = 61) ∨ (q = 12 ∧ c = 62)
/-- a rule in the making, the Model's -/
def rpm_ (M : mm_M) (x : Int) (u : ab_U) (a : Int) : Prop := nn_ri M 408 (x + 8) = a ∧ (∀ f, 0 ≤ f → f ≤ 2 * a → mrow_ M (x + fo_ f) (u.1 f)) ∧ ∀ i, 0 ≤ i → i < a → sgc_ (u.2.1 i) (nn_ri M 408 (x + 14 + 11 * i + 5))
theorem fo_in {f a : Int} (f0 : 0 ≤ f) (f1 : f ≤ 2 * a) : 9 ≤ fo_ f ∧ fo_ f + 5 ≤ 14 + 11 * a ∧ ∀ i, 0 ≤ i → (fo_ f + 5 ≤ 14 + 11 * i + 5 ∨ 14 + 11 * i + 5 < fo_ f) := by
  unfold fo_
  split
  · refine ⟨by omega, by omega, fun i i0 => by omega⟩
  · split
    · refine ⟨by omega, by omega, fun i i0 => by omega⟩
    · refine ⟨by omega, by omega, fun i i0 => by omega⟩
theorem fo_odd (a : Int) (h : 0 ≤ a) : fo_ (2 * a + 1) = 14 + 11 * a ∧ fo_ (2 * a + 2) = 14 + 11 * a + 6 := by
  unfold fo_
  refine ⟨?_, ?_⟩
  · rw [if_neg (by omega), if_pos (by omega)]; omega
  · rw [if_neg (by omega), if_neg (by omega)]; omega
/-- an atom: what comes of it -/
def ra1_ (K N : Int → Int) (a t : Int) : Int × Int := if a = 3 then (if K t = 1 ∨ K t = 2 then 2 else 1, t) else if (at1_ K N t).1 ≠ 0 then ((at1_ K N t).1, (at1_ K N t).2.1) else if K (at1_ K N t).2.1 ≠ 10 ∧ K (at1_ K N t).2.1 ≠ 11 ∧ K (at1_ K N t).2.1 ≠ 12 then (1, (at1_ K N t).2.1) else if (at2_ K N t).1 ≠ 0 then ((at2_ K N t).1, (at2_ K N t).2.1) else (0, (at2_ K N t).2.1)
theorem at1_no {K N : Int → Int} {t : Int} (h : ¬ (K t = 1 ∨ K t = 2)) : (at1_ K N t).1 = 1 ∧ (at1_ K N t).2.1 = t := by
  have er : rtm_ K N t = (1, t, 0, 0) := by
    unfold rtm_
    rw [if_neg (fun w => h (Or.inl w)), if_neg (fun w => h (Or.inr w))]
  have e : at1_ K N t = if (rtm_ K N t).1 ≠ 0 then (1, (rtm_ K N t).2.1, zv_) else if K (rtm_ K N t).2.1 = 8 then rsm_ K N 3 ((rtm_ K N t).2.1 + 1) (adv_ zv_ (rtm_ K N t).2.2.1 (rtm_ K N t).2.2.2) else (0, (rtm_ K N t).2.1, adv_ zv_ (rtm_ K N t).2.2.1 (rtm_ K N t).2.2.2) := rfl
  rw [e, er, if_pos (show ¬ (1 : Int) = 0 by decide)]
  exact ⟨rfl, rfl⟩
theorem ct_M_atom {f : Int → Int} {n T t a x : Int} {u : ab_U} {M : mm_M} {R : mm_M → Prop} (hx : 1700 ≤ x ∧ x + 855 ≤ 32844) (xt : tx_T f n T) (kn : kn_ (tK_ f n) (tN_ f n) T) (ht : 0 ≤ t ∧ t ≤ T) (k : ms_ M f n t) (ha : 0 ≤ a ∧ a ≤ 3) (hp : rpm_ M x u a)
    (h1 : (ra1_ (tK_ f n) (tN_ f n) a t).1 = 0 → a < 3 → (at1_ (tK_ f n) (tN_ f n) t).1 = 0 → sg3_ (tK_ f n (at1_ (tK_ f n) (tN_ f n) t).2.1) → (at2_ (tK_ f n) (tN_ f n) t).1 = 0 → ∀ M', fr_ (mxc_ x) M M' → ms_ M' f n (at2_ (tK_ f n) (tN_ f n) t).2.1 → rpm_ M' x (ua_ (tK_ f n) (tN_ f n) a t u) (a + 1) → R M')
    (h0 : (ra1_ (tK_ f n) (tN_ f n) a t).1 ≠ 0 → ∀ M', fr_ (mxc_ x) M M' → mwr_ M' f n (ra1_ (tK_ f n) (tN_ f n) a t).1 (ra1_ (tK_ f n) (tN_ f n) a t).2 → R M') : nr_M_readsAtom x M R := by
  have htm := m_isTrm k
  obtain ⟨p1, p2, p3⟩ := hp
  unfold ra1_ at h1 h0
  have w7 := k.2.1
  -- a fault at once
  have f33 : ∀ M' : mm_M, 0 < nn_rf M' 407 7 → R M' → nk_M_readsAtom_33 x M' R := fun M' hw hR => ng_M_readsAtom_33 _ _ _ ⟨fun y => by omega, fun _ => hR⟩
  have f96 : ∀ (M' : mm_M) (b : Int), 0 < nn_rf M' 407 7 → R M' → nk_M_readsAtom_96 x b M' R := fun M' b hw hR => ng_M_readsAtom_96 _ _ _ _ ⟨fun y => by omega, fun _ => hR⟩
  have fm : ∀ M' , fr_ (fun o b => o = 407 ∧ (b = 7 ∨ b = 8)) M M' → fr_ (mxc_ x) M M' := fun M' f' => fr_mono f' (fun o b y => Or.inl ⟨y.1, by omega, by omega⟩)
  -- the first sum, on
  have go : a < 3 → (tK_ f n t = 1 ∨ tK_ f n t = 2) → nk_M_readsAtom_33 x M R := by
    intro ha3 hT
    rw [if_neg (show ¬ a = 3 by omega)] at h1 h0
    refine ng_M_readsAtom_33 _ _ _ ⟨fun _ => ?_, fun y => by omega⟩
    rw [mm_w_id (x := x + 8) (by omega), p1, mm_w_id (x := x + 14) (by omega), mm_w_id (x := 11 * a) (by omega), mm_w_id (x := x + 14 + 11 * a) (by omega)]
    refine ⟨by omega, ?_⟩
    intro b eb
    rw [eb]
    obtain ⟨t1, t2, t3⟩ := at1_in kn ht
    refine ct_M_reads xt kn ht k (by omega) (fun w M2 f2 k2 g2 => ?_) (fun w M2 f2 k2 => ?_)
    · have w : (at1_ (tK_ f n) (tN_ f n) t).1 = 0 := w
      have k2 : ms_ M2 f n (at1_ (tK_ f n) (tN_ f n) t).2.1 := k2
      have g2 : mrow_ M2 (x + 14 + 11 * a) (at1_ (tK_ f n) (tN_ f n) t).2.2 := g2
      rw [if_neg (fun y => y w)] at h1 h0
      have F2 : fr_ (mxc_ x) M M2 := fr_mono f2 (fun o b y => by unfold mrc_ tkc2_ at y; unfold mxc_; omega)
      have s60 := m_isSgn k2 (c := 60) (q := 10) (Or.inr (Or.inr (Or.inl ⟨rfl, rfl⟩)))
      have s61 := m_isSgn k2 (c := 61) (q := 11) (Or.inr (Or.inr (Or.inr (Or.inl ⟨rfl, rfl⟩))))
      have s62 := m_isSgn k2 (c := 62) (q := 12) (Or.inr (Or.inr (Or.inr (Or.inr ⟨rfl, rfl⟩))))
      refine ⟨fun y => ?_, fun y => ?_⟩
      · have sg : sg3_ (tK_ f n (at1_ (tK_ f n) (tN_ f n) t).2.1) := by
          rcases y with y | y | y
          · exact Or.inl (s60.mp y)
          · exact Or.inr (Or.inl (s61.mp y))
          · exact Or.inr (Or.inr (s62.mp y))
        have hng : ¬ (tK_ f n (at1_ (tK_ f n) (tN_ f n) t).2.1 ≠ 10 ∧ tK_ f n (at1_ (tK_ f n) (tN_ f n) t).2.1 ≠ 11 ∧ tK_ f n (at1_ (tK_ f n) (tN_ f n) t).2.1 ≠ 12) := by unfold sg3_ at sg; omega
        rw [if_neg hng] at h1 h0
        have l := kn_lt kn t1.2 (by unfold sg3_ at sg; omega)
        have sgv : sgc_ (tK_ f n (at1_ (tK_ f n) (tN_ f n) t).2.1) (nn_rf M2 407 9) := by
          obtain ⟨_, _, _, _, _, _, _, _, _, _, _, _, _, _, _, _, t13, t14, t15⟩ := k2
          rcases sg with y | y | y
          · exact Or.inl ⟨y, (t13.mpr y).2⟩
          · exact Or.inr (Or.inl ⟨y, (t14.mpr y).2⟩)
          · exact Or.inr (Or.inr ⟨y, (t15.mpr y).2⟩)
        refine ng_M_readsAtom_96 _ _ _ _ ⟨fun _ => ?_, fun y => by have := k2.2.1; omega⟩
        rw [mm_w_id (x := nn_rf M2 407 9) (by unfold sgc_ at sgv; omega), mm_w_id (x := x + 14 + 11 * a + 5) (by omega), mm_w_id (x := x + 14 + 11 * a + 6) (by omega), mm_w_id (x := x + 8) (by omega)]
        refine ⟨by omega, ?_⟩
        intro M3 e3
        have f3 : fr_ (fun o b => o = 408 ∧ (b : Int) = x + 14 + 11 * a + 5) M2 M3 := by rw [e3]; exact fr_ui (fr_refl M2) ⟨rfl, by omega⟩
        have v3 : nn_ri M3 408 (x + 14 + 11 * a + 5) = nn_rf M2 407 9 := by rw [e3, rd_ii, if_pos ⟨rfl, rfl⟩]
        have k3 := ms_fr f3 (fun o b y => by omega) k2
        refine ct_M_step xt ⟨by omega, l⟩ k3 (fun M4 f4 k4 => ?_)
        have F4 : fr_ (mxc_ x) M M4 := fr_trans F2 (fr_trans (fr_mono f3 (fun o b y => Or.inr ⟨y.1, by omega⟩)) (fr_mono f4 (fun o b y => by unfold tkc2_ at y; unfold mxc_; omega)))
        refine ct_M_reads xt kn ⟨by omega, by omega⟩ k4 (by omega) (fun w3 M5 f5 k5 g5 => ?_) (fun w3 M5 f5 k5 => ?_)
        · have w3 : (at2_ (tK_ f n) (tN_ f n) t).1 = 0 := w3
          have k5 : ms_ M5 f n (at2_ (tK_ f n) (tN_ f n) t).2.1 := k5
          have g5 : mrow_ M5 (x + 14 + 11 * a + 6) (at2_ (tK_ f n) (tN_ f n) t).2.2 := g5
          rw [if_neg (fun y => y w3)] at h1 h0
          have F5 : fr_ (mxc_ x) M M5 := fr_trans F4 (fr_mono f5 (fun o b y => by unfold mrc_ tkc2_ at y; unfold mxc_; omega))
          have rd5 : ∀ c, x + 1 ≤ c → (c < x + 14 + 11 * a ∨ x + 47 ≤ c) → nn_ri M5 408 c = nn_ri M 408 c := fun c c0 c1 => by
            rw [fr_ri f5 (by unfold mrc_ tkc2_; omega), fr_ri f4 (by unfold tkc2_; omega), fr_ri f3 (by omega), fr_ri f2 (by unfold mrc_ tkc2_; omega)]
          have v5 : nn_ri M5 408 (x + 14 + 11 * a + 5) = nn_rf M2 407 9 := by rw [fr_ri f5 (by unfold mrc_ tkc2_; omega), fr_ri f4 (by unfold tkc2_; omega)]; exact v3
          have g1 : mrow_ M5 (x + 14 + 11 * a) (at1_ (tK_ f n) (tN_ f n) t).2.2 := mrow_fr f5 (by omega) (fun b y y2 w => by unfold mrc_ tkc2_ at w; omega) (mrow_fr f4 (by omega) (fun b y y2 w => by unfold tkc2_ at w; omega) (mrow_fr f3 (by omega) (fun b y y2 w => by omega) g2))
          rw [rd5 (x + 8) (by omega) (by omega), p1, mm_w_id (x := a + 1) (by omega)]
          refine ⟨by omega, by omega, ?_⟩
          intro M6 e6
          have f6 : fr_ (fun o b => o = 408 ∧ (b : Int) = x + 8) M5 M6 := by rw [e6]; exact fr_ui (fr_refl M5) ⟨rfl, by omega⟩
          refine h1 rfl ha3 w sg w3 M6 (fr_trans F5 (fr_mono f6 (fun o b y => Or.inr ⟨y.1, by omega⟩))) (ms_fr f6 (fun o b y => by omega) k5) ⟨by rw [e6, rd_ii, if_pos ⟨rfl, rfl⟩], fun g g0 g1' => ?_, fun i i0 i1 => ?_⟩
          · have fo := fo_odd a ha.1
            by_cases z : g = 2 * a + 2
            · have e : (ua_ (tK_ f n) (tN_ f n) a t u).1 g = (at2_ (tK_ f n) (tN_ f n) t).2.2 := by
                funext c
                show (if g = 2 * a + 2 then _ else _) = _
                rw [if_pos z]
              rw [e, z, fo.2, show x + (14 + 11 * a + 6) = x + 14 + 11 * a + 6 by omega]
              exact mrow_fr f6 (by omega) (fun b y y2 w => by omega) g5
            · by_cases y : g = 2 * a + 1
              · have e : (ua_ (tK_ f n) (tN_ f n) a t u).1 g = (at1_ (tK_ f n) (tN_ f n) t).2.2 := by
                  funext c
                  show (if g = 2 * a + 2 then _ else if g = 2 * a + 1 then _ else _) = _
                  rw [if_neg z, if_pos y]
                rw [e, y, fo.1, show x + (14 + 11 * a) = x + 14 + 11 * a by omega]
                exact mrow_fr f6 (by omega) (fun b y y2 w => by omega) g1
              · have e : (ua_ (tK_ f n) (tN_ f n) a t u).1 g = u.1 g := by
                  funext c
                  show (if g = 2 * a + 2 then _ else if g = 2 * a + 1 then _ else _) = _
                  rw [if_neg z, if_neg y]
                rw [e]
                have fi := fo_in (a := a) g0 (by omega)
                have old := p2 g g0 (by omega)
                refine ⟨?_, fun c c0 c1 => ?_⟩
                · rw [fr_ri f6 (by omega), rd5 _ (by omega) (by omega)]; exact old.1
                · rw [fr_ri f6 (by omega), rd5 _ (by omega) (by omega)]; exact old.2 c c0 c1
          · show sgc_ (if i = a then tK_ f n (at1_ (tK_ f n) (tN_ f n) t).2.1 else u.2.1 i) _
            rw [fr_ri f6 (by omega)]
            by_cases z : i = a
            · rw [if_pos z, z, v5]; exact sgv
            · rw [if_neg z, rd5 _ (by omega) (by omega)]; exact p3 i i0 (by omega)
        · have w3 : (at2_ (tK_ f n) (tN_ f n) t).1 ≠ 0 := w3
          have k5 : mwr_ M5 f n (at2_ (tK_ f n) (tN_ f n) t).1 (at2_ (tK_ f n) (tN_ f n) t).2.1 := k5
          rw [if_pos w3] at h0
          have rd5 : nn_ri M5 408 (x + 8) = a := by
            rw [fr_ri f5 (by unfold mrc2_ mrc_ tkc2_; omega), fr_ri f4 (by unfold tkc2_; omega), fr_ri f3 (by omega), fr_ri f2 (by unfold mrc_ tkc2_; omega)]; exact p1
          rw [rd5, mm_w_id (x := a + 1) (by omega)]
          refine ⟨by omega, by omega, ?_⟩
          intro M6 e6
          have f6 : fr_ (fun o b => o = 408 ∧ (b : Int) = x + 8) M5 M6 := by rw [e6]; exact fr_ui (fr_refl M5) ⟨rfl, by omega⟩
          exact h0 w3 M6 (fr_trans F4 (fr_trans (fr_mono f5 (fun o b y => by unfold mrc2_ mrc_ tkc2_ at y; unfold mxc_; omega)) (fr_mono f6 (fun o b y => Or.inr ⟨y.1, by omega⟩)))) ⟨(fr_rf f6 (by omega)).trans k5.1, (fr_rf f6 (by omega)).trans k5.2⟩
      · have hng : tK_ f n (at1_ (tK_ f n) (tN_ f n) t).2.1 ≠ 10 ∧ tK_ f n (at1_ (tK_ f n) (tN_ f n) t).2.1 ≠ 11 ∧ tK_ f n (at1_ (tK_ f n) (tN_ f n) t).2.1 ≠ 12 := ⟨fun z => absurd y.1 (s60.mpr z), fun z => absurd y.2.1 (s61.mpr z), fun z => absurd y.2.2 (s62.mpr z)⟩
        rw [if_pos hng] at h0
        refine ct_M_fail k2 (fun M3 f3 w3 => f96 M3 _ (by rw [w3.1]; decide) ?_)
        exact h0 (show (1 : Int) ≠ 0 by decide) M3 (fr_trans F2 (fr_mono f3 (fun o b y => Or.inl ⟨y.1, by omega, by omega⟩))) w3
    · have w : (at1_ (tK_ f n) (tN_ f n) t).1 ≠ 0 := w
      have k2 : mwr_ M2 f n (at1_ (tK_ f n) (tN_ f n) t).1 (at1_ (tK_ f n) (tN_ f n) t).2.1 := k2
      rw [if_pos w] at h0
      have hw : nn_rf M2 407 7 ≠ 0 := by rw [k2.1]; exact w
      have hpos : 0 < nn_rf M2 407 7 := by rw [k2.1]; omega
      have ms := (m_wrong hw).1
      have hR := h0 w M2 (fr_mono f2 (fun o b y => by unfold mrc2_ mrc_ tkc2_ at y; unfold mxc_; omega)) k2
      refine ⟨fun y => ?_, fun _ => ct_M_failW hpos (f96 M2 _ hpos hR)⟩
      rw [ms, ms, ms] at y
      omega
  refine ng_M_readsAtom _ _ _ ?_
  rw [mm_w_id (x := x + 8) (by omega), p1]
  refine ⟨fun y => ⟨by omega, fun n3 => go (by omega) (htm.mp y), fun y3 => ?_⟩, fun y => ?_⟩
  · rw [if_pos y3, if_pos (htm.mp y)] at h0
    exact ct_M_fail k (fun M2 f2 w2 => f33 M2 (by rw [w2.1]; decide) (h0 (show (2 : Int) ≠ 0 by decide) M2 (fm M2 f2) w2))
  · have hn : ¬ (tK_ f n t = 1 ∨ tK_ f n t = 2) := fun w => absurd y (htm.mpr w)
    refine ct_M_fail k (fun M2 f2 w2 => f33 M2 (by rw [w2.1]; decide) ?_)
    by_cases y3 : a = 3
    · rw [if_pos y3, if_neg hn] at h0
      exact h0 (show (1 : Int) ≠ 0 by decide) M2 (fm M2 f2) w2
    · obtain ⟨q1, q2⟩ := at1_no (N := tN_ f n) hn
      rw [if_neg y3, if_pos (by rw [q1]; decide)] at h0
      exact h0 (by rw [q1]; decide) M2 (fm M2 f2) (by rw [q1, q2]; exact w2)
