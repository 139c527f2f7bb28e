/-! the Model: all merges of an index, by levels and by the cap -/
theorem lbP_pm1 {mends stamp f m level b1 : Int} {lat : ab_V} {w1 : ab_W} (hf : 0 ≤ f) (hm : 1 ≤ m) (hn : f + m ≤ w1.1) (l1 : lbP_ w1 b1) (hl0 : -1 ≤ level) (hl1 : level ≤ b1 + 1) : lbP_ (pm1_ mends stamp lat f m level w1) (b1 + 1) := by
  refine mpg_all (P := fun q => -1 ≤ q.2.2.1 ∧ q.2.2.1 ≤ b1 + 1) hf hm hn ⟨hl0, hl1⟩ (fun r r0 r1 => ?_)
  have := l1 r r0 r1
  unfold plv_ at this
  omega
theorem ct_M_mergesAllX {b i fan bd nT mends stamp : Int} {M : mm_M} {R : mm_M → Prop} {mem : ab_V} {q : Int → ab_R} {A : Int → Prop} {w : ab_W} (hb : bk_ b) (hi : 0 ≤ i ∧ i < 4) (hfan : 2 ≤ fan ∧ fan ≤ 4) (hf : nn_ri M 408 (b + 4) = fan) (t : tM_ M b mem nT q) (s : sX_ M b (xi_ b i) (lk_ mem nT q) A w) (hA : ∀ y, ve_ y → A y → skM_ (lk_ mem nT q) y) (hme : mends = if nn_ri M 408 (xi_ b i + 2) = 1 then 1 else 0) (hs : nn_ri M 408 b = stamp ∧ 0 ≤ stamp) (hl : lbP_ w bd ∧ 0 ≤ bd ∧ bd < 1000000000) (hid : 0 ≤ w.2.2.1 ∧ w.2.2.1 < 1000000000)
    (h : ∀ M', fr_ (mxi_ b (xi_ b i)) M M' → sX_ M' b (xi_ b i) (lk_ mem nT q) A (pmf_ fan mends stamp (lk_ mem nT q) w) → R M') : nr_M_mergesAll b i M R := by
  have hb' := hb
  unfold bk_ at hb'
  have n22 := t.2.2.1.2.2
  have hx : b + 1784 ≤ xi_ b i ∧ xi_ b i + 855 ≤ 32844 := by unfold xi_; omega
  have hat : nf_M_at b i = xi_ b i := nf_at hb hi
  generalize hxx : xi_ b i = x at hx s hme h hat
  have kx : ∀ M1, fr_ (mxi_ b x) M M1 → nn_ri M1 408 (b + 4) = fan ∧ nn_ri M1 408 b = stamp ∧ (mends = if nn_ri M1 408 (x + 2) = 1 then 1 else 0) ∧ tM_ M1 b mem nT q := by
    intro M1 f1
    refine ⟨(fr_ri f1 (fun z => by have := z.2; omega)).trans hf, (fr_ri f1 (fun z => by have := z.2; omega)).trans hs.1, ?_, tM_fr f1 hb (fun c' hc z2 => by have := z2.2; omega) t⟩
    rw [show nn_ri M1 408 (x + 2) = nn_ri M 408 (x + 2) from fr_ri f1 (fun z => by have := z.2; omega)]
    exact hme
  have step : ∀ M1 (w1 : ab_W) (f m level : Int) (R' : mm_M → Prop), fr_ (mxi_ b x) M M1 → sX_ M1 b x (lk_ mem nT q) A w1 → 0 ≤ f → 1 ≤ m → f + m ≤ w1.1 → 0 ≤ w1.2.2.1 → w1.2.2.1 < 2000000000 → (∀ M2, fr_ (mxi_ b x) M M2 → sX_ M2 b x (lk_ mem nT q) A (pm1_ mends stamp (lk_ mem nT q) f m level w1) → R' M2) → nr_M_merges b i f m level M1 R' := by
    intro M1 w1 f m level R' f1 k1 hf0 hm0 hn0 hd0 hd1 h'
    obtain ⟨a1, a2, a3, a4⟩ := kx M1 f1
    refine sX_pm1 (mends := mends) hb hi hf0 hm0 hn0 a4 (by rw [hxx]; exact k1) hA (by rw [hxx]; exact a3) (by rw [a2]; exact hs.2) ⟨hd0, hd1⟩ (fun M2 f2 k2 => ?_)
    rw [hxx, a2] at k2
    rw [hxx] at f2
    exact h' M2 (fr_trans f1 f2) k2
  have fin : ∀ M1 (w1 : ab_W) (b1 : Int), fr_ (mxi_ b x) M M1 → sX_ M1 b x (lk_ mem nT q) A w1 → lbP_ w1 b1 → 0 ≤ b1 → b1 < 1000000100 → 0 ≤ w1.2.2.1 → w1.2.2.1 < 1000000100 → pmz_ mends stamp (lk_ mem nT q) w1 = pmf_ fan mends stamp (lk_ mem nT q) w →
      ((nn_ri M1 408 (x + 5) ≤ 20 → R M1) ∧ (20 < nn_ri M1 408 (x + 5) → nr_M_topLevel b x 0 (nn_ri M1 408 (x + 5)) M1 (fun r108 M108 => nr_M_merges b i 0 (nn_ri M1 408 (x + 5)) (mm_w (r108 + 1)) M108 (fun M113 => R M113)))) := by
    intro M1 w1 b1 f1 k1 l1 hb0 hb1 hd0 hd1 he
    obtain ⟨x0, x1, x2, _⟩ := k1.1
    rw [x0]
    refine ⟨fun c => ?_, fun c => ?_⟩
    · have e : pmz_ mends stamp (lk_ mem nT q) w1 = w1 := if_neg (by omega)
      rw [e] at he
      exact h M1 f1 (he ▸ k1)
    · refine ct_M_topLevel (lvM_x ⟨by omega, hx.2⟩ k1.1) (by omega) (by omega) (by omega) (by omega) ?_
      have hl := hi_le (lv := plv_ w1.2.2.2) (f := 0) (b := b1) (by omega) (m := w1.1.toNat) (fun i i0 i1 => (l1 i i0 (by omega)).2)
      rw [mm_w_id (x := hi_ (plv_ w1.2.2.2) 0 w1.1.toNat + 1) (by omega)]
      refine step M1 w1 0 w1.1 _ _ f1 k1 (by omega) (by omega) (by omega) hd0 (by omega) (fun M2 f2 k2 => ?_)
      have e : pmz_ mends stamp (lk_ mem nT q) w1 = pm1_ mends stamp (lk_ mem nT q) 0 w1.1 (hi_ (plv_ w1.2.2.2) 0 w1.1.toNat + 1) w1 := if_pos c
      rw [e] at he
      exact h M2 f2 (he ▸ k2)
  have L : ∀ fuel : Nat, fuel ≤ 23 → ∀ M1 (w1 : ab_W) (b1 : Int), fr_ (mxi_ b x) M M1 → sX_ M1 b x (lk_ mem nT q) A w1 → lbP_ w1 b1 → 0 ≤ b1 → b1 + fuel < 1000000030 → 0 ≤ w1.2.2.1 → w1.2.2.1 + fuel < 1000000030 → w1.1 ≤ fuel → pmz_ mends stamp (lk_ mem nT q) (pml_ fan mends stamp (lk_ mem nT q) fuel w1) = pmf_ fan mends stamp (lk_ mem nT q) w → ∀ a, ak_ (plv_ w1.2.2.2) w1.1 fan a → nk_M_mergesAll_22 b i x a M1 R := by
    intro fuel
    induction fuel with
    | zero =>
      intro _ M1 w1 b1 f1 k1 l1 hb0 hb1 hd0 hd1 hn he a ha
      have ha2 : a = -1 := by
        rcases ha with ⟨z, _⟩ | ⟨z1, z2, _⟩
        · exact z
        · omega
      refine ng_M_mergesAll_22 _ _ _ _ _ _ ⟨fun _ => ⟨fun _ => ?_, fun c => by omega⟩, fun c => by omega⟩
      rw [mm_w_id (x := x + 5) (by omega)]
      exact ⟨by omega, fin M1 w1 b1 f1 k1 l1 hb0 (by omega) hd0 (by omega) he⟩
    | succ fuel ih =>
      intro hfu M1 w1 b1 f1 k1 l1 hb0 hb1 hd0 hd1 hn he a ha
      have ha2 : a = akc_ (plv_ w1.2.2.2) w1.1 fan := ak_one ha (akc_ak (by omega))
      refine ng_M_mergesAll_22 _ _ _ _ _ _ ⟨fun c => ⟨fun _ => ?_, fun c2 => by omega⟩, fun c => ?_⟩
      · have haz : a = -1 := by
          rcases ha with ⟨z, _⟩ | ⟨z1, z2, _⟩
          · exact z
          · omega
        have e : pml_ fan mends stamp (lk_ mem nT q) (fuel + 1) w1 = w1 := by
          unfold pml_
          exact if_pos (by rw [← ha2]; exact haz)
        rw [e] at he
        rw [mm_w_id (x := x + 5) (by omega)]
        exact ⟨by omega, fin M1 w1 b1 f1 k1 l1 hb0 (by omega) hd0 (by omega) he⟩
      · have hr : 0 ≤ a ∧ a + fan ≤ w1.1 := by
          rcases ha with ⟨z, _⟩ | ⟨z1, z2, _⟩
          · omega
          · exact ⟨z1, z2⟩
        obtain ⟨n1, e1⟩ := lvM_x (b := b) ⟨by omega, hx.2⟩ k1.1 a hr.1 (by omega)
        have hl1 := l1 a hr.1 (by omega)
        rw [mm_w_id (x := b + 4) (by omega), e1, (kx M1 f1).1, mm_w_id (x := plv_ w1.2.2.2 a + 1) (by omega)]
        refine ⟨by omega, n1, ?_⟩
        refine step M1 w1 a fan _ _ f1 k1 hr.1 (by omega) hr.2 hd0 (by omega) (fun M2 f2 k2 => ?_)
        have e : pml_ fan mends stamp (lk_ mem nT q) (fuel + 1) w1 = pml_ fan mends stamp (lk_ mem nT q) fuel (pm1_ mends stamp (lk_ mem nT q) a fan (plv_ w1.2.2.2 a + 1) w1) := by
          show (if akc_ (plv_ w1.2.2.2) w1.1 fan = -1 then w1 else pml_ fan mends stamp (lk_ mem nT q) fuel (pm1_ mends stamp (lk_ mem nT q) (akc_ (plv_ w1.2.2.2) w1.1 fan) fan (plv_ w1.2.2.2 (akc_ (plv_ w1.2.2.2) w1.1 fan) + 1) w1)) = _
          rw [← ha2, if_neg (by omega)]
        rw [e] at he
        have hn2 : (pm1_ mends stamp (lk_ mem nT q) a fan (plv_ w1.2.2.2 a + 1) w1).1 ≤ w1.1 - 1 := by
          have := pkS_in (mgS_ w1.2.2.2 a fan mends (lk_ mem nT q))
          show w1.1 - (fan - pk_ (mgS_ w1.2.2.2 a fan mends (lk_ mem nT q))) ≤ w1.1 - 1
          omega
        obtain ⟨y0, y1, y2, _⟩ := k2.1
        refine ct_M_alike hb (Or.inr ⟨by omega, hx.2⟩) (by rw [if_pos (by omega)]; exact y0) ⟨y1, by omega⟩ (kx M2 f2).1 hfan (lvM_x ⟨by omega, hx.2⟩ k2.1) (fun r hr2 => ?_)
        exact ih (by omega) M2 _ (b1 + 1) f2 k2 (lbP_pm1 hr.1 (by omega) hr.2 l1 (by omega) (by omega)) (by omega) (by omega) (show 0 ≤ w1.2.2.1 + 1 by omega) (show w1.2.2.1 + 1 + (fuel : Int) < 1000000030 by omega) (by omega) he r hr2
  refine ng_M_mergesAll _ _ _ _ ⟨fun _ => ?_, fun c => by omega⟩
  obtain ⟨x0, x1, x2, _⟩ := s.1
  rw [hat]
  refine ct_M_alike hb (Or.inr ⟨by omega, hx.2⟩) (by rw [if_pos (by omega)]; exact x0) ⟨x1, by omega⟩ hf hfan (lvM_x ⟨by omega, hx.2⟩ s.1) (fun r hr => ?_)
  exact L w.1.toNat (by omega) M w bd (fr_refl M) s hl.1 hl.2.1 (by omega) hid.1 (by omega) (by omega) rfl r hr
