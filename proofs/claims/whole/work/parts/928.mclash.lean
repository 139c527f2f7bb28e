/-! a build: the Model's clashes -/
theorem mR_why {M M' : mm_M} {b k0 a0 a1 a2 a3 a4 a5 : Int} {sc : Int → Int} {C : Int → ab_D} {f : Int → Int} (hb : bk_ b) (hk : k0 = 6 ∨ k0 = 7) (h : ∀ c, b ≤ c → c < b + 5474 → c ≠ b + k0 → (c < b + 9 ∨ b + 15 ≤ c) → (c < b + 1784 ∨ b + 5204 ≤ c) → nn_ri M' 408 c = nn_ri M 408 c) (hv : nn_ri M' 408 (b + k0) = sc k0 + 1) (x9 : nn_ri M' 408 (b + 9) = a0) (x10 : nn_ri M' 408 (b + 10) = a1) (x11 : nn_ri M' 408 (b + 11) = a2) (x12 : nn_ri M' 408 (b + 12) = a3) (x13 : nn_ri M' 408 (b + 13) = a4) (x14 : nn_ri M' 408 (b + 14) = a5) (hl : sc 20 ≤ 200) (hc : cw_ C) (kr : mR_ M b sc C f) : mR_ M' b (why_ (in1_ k0 sc) a0 a1 a2 a3 a4 a5) C f := by
  obtain ⟨r1, r2, r3⟩ := kr
  refine ⟨fun q hq => ?_, fun q q0 q1 => ?_, fun q q0 q1 => ?_⟩
  · unfold hd_ at hq
    by_cases y9 : q = 9
    · rw [y9, x9]; rfl
    by_cases y10 : q = 10
    · rw [y10, x10]; rfl
    by_cases y11 : q = 11
    · rw [y11, x11]; rfl
    by_cases y12 : q = 12
    · rw [y12, x12]; rfl
    by_cases y13 : q = 13
    · rw [y13, x13]; rfl
    by_cases y14 : q = 14
    · rw [y14, x14]; rfl
    rw [why_o (by omega)]
    by_cases y6 : q = k0
    · rw [y6, hv, in1_s]
    · rw [in1_o y6, h _ (by omega) (by omega) (by omega) (by omega) (by omega)]
      exact r1 q (by unfold hd_; omega)
  · rw [why_o (by omega), in1_o (by omega)] at q1
    rw [h _ (by omega) (by omega) (by omega) (by omega) (by omega)]
    exact r2 q q0 q1
  · have := hc q q0 q1
    exact mC_cg (fun c z0 z1 => h c (by omega) (by omega) (by omega) (by omega) (by omega)) this.2.1.2 this.2.2.2.2 (r3 q q0 q1)
theorem why_20 {sc : Int → Int} {a0 a1 a2 a3 a4 a5 : Int} (h : sc 20 ≤ 200) : why_ (in1_ 7 sc) a0 a1 a2 a3 a4 a5 20 ≤ 200 := by
  rw [why_o (by omega), in1_o (by omega)]; exact h
theorem setX_self {i : Int} {X : ab_X} {T : ab_T} : aTX_ (setX_ i X T) i = X := if_pos rfl
theorem setX_setX {i : Int} {X Y : ab_X} {T : ab_T} : setX_ i X (setX_ i Y T) = setX_ i X T := by
  have e : (fun j => if j = i then X else aTX_ (setX_ i Y T) j) = fun j => if j = i then X else aTX_ T j := by
    funext j
    by_cases z : j = i
    · rw [if_pos z, if_pos z]
    · rw [if_neg z, if_neg z]
      exact if_neg z
  show (T.1, T.2.1, T.2.2.1, T.2.2.2.1, T.2.2.2.2.1, _) = (T.1, T.2.1, T.2.2.1, T.2.2.2.1, T.2.2.2.2.1, _)
  rw [e]
theorem ct_M_goes2 {bd i : Int} {Z : ab_Z} {M : mm_M} {R : mm_M → Prop} (hi : 0 ≤ i ∧ i < 4) (k : mY_ bd M 0 Z) (hl : zs_ Z 20 ≤ 200) (hc : cw_ (zC_ Z)) (h : ∀ M', fr_ (fun o c => o = 408 ∧ xi_ 0 i ≤ (c : Int) ∧ (c : Int) < xi_ 0 i + 855) M M' → mY_ bd M' 0 (dro_ i Z) → R M') : nr_M_goes i M R := by
  have hx : 1784 ≤ xi_ 0 i ∧ xi_ 0 i + 855 ≤ 5204 := by unfold xi_; omega
  refine ng_M_goes _ _ _ ?_
  rw [at0 hi, mm_w_id (x := xi_ 0 i + 0) (by omega), show xi_ 0 i + 0 = xi_ 0 i by omega, mm_w_id (x := xi_ 0 i + 6) (by omega), mm_w_id (x := xi_ 0 i + 5) (by omega), mm_w_id (x := xi_ 0 i + 7) (by omega)]
  refine ⟨by omega, fun M1 e1 => ⟨by omega, fun M2 e2 => ⟨by omega, fun M3 e3 => ⟨by omega, fun M4 e4 => ?_⟩⟩⟩⟩
  have u : fr_ (fun o c => o = 408 ∧ xi_ 0 i ≤ (c : Int) ∧ (c : Int) < xi_ 0 i + 855) M M4 := by
    rw [e4, e3, e2, e1]
    exact fr_ui (fr_ui (fr_ui (fr_ui (fr_refl M) ⟨rfl, by omega, by omega⟩) ⟨rfl, by omega, by omega⟩) ⟨rfl, by omega, by omega⟩) ⟨rfl, by omega, by omega⟩
  refine h M4 u (mY_setX bk_0 hi u hl hc k ⟨?_, fun w => absurd rfl w⟩)
  rw [e4, rd_ii, if_neg (by omega), e3, rd_ii, if_neg (by omega), e2, rd_ii, if_neg (by omega), e1, rd_ii, if_pos ⟨rfl, rfl⟩]
  rfl
theorem ct_M_clashes {bd i : Int} {Z : ab_Z} {Y : ab_X} {M : mm_M} {R : Int → mm_M → Prop} (hbd : 0 ≤ bd ∧ bd < 800000000) (hi : 0 ≤ i ∧ i < 4) (j : jZ_ bd Z) (hY : xh_ Y ≠ 0) (hq : xq_ Y = 0 ∨ xq_ Y = 1) (k : mY_ bd M 0 (zs_ Z, setX_ i Y (zT_ Z), zC_ Z, zf_ Z))
    (h0 : (xq_ Y = 0 ∨ cl_ (xv_ (aTl_ (zT_ Z)) Y) 32 = -1) → R 0 M)
    (h1 : ¬ (xq_ Y = 0 ∨ cl_ (xv_ (aTl_ (zT_ Z)) Y) 32 = -1) → ∀ M', fr_ (mz_ 0) M M' → mY_ bd M' 0 (why_ (in1_ 7 (zs_ Z)) 2 (an_ (xv_ (aTl_ (zT_ Z)) Y) (cl_ (xv_ (aTl_ (zT_ Z)) Y) 32) (an_ (xv_ (aTl_ (zT_ Z)) Y) (cl_ (xv_ (aTl_ (zT_ Z)) Y) 32) (-1))) i (cl_ (xv_ (aTl_ (zT_ Z)) Y) 32) (an_ (xv_ (aTl_ (zT_ Z)) Y) (cl_ (xv_ (aTl_ (zT_ Z)) Y) 32) (-1)) (sp_ (aTl_ (zT_ Z) (an_ (xv_ (aTl_ (zT_ Z)) Y) (cl_ (xv_ (aTl_ (zT_ Z)) Y) 32) (-1)).toNat)), setX_ i (wd_ Y) (zT_ Z), zC_ Z, zf_ Z) → R 1 M') : nr_M_clashes i M R := by
  have hx : 1784 ≤ xi_ 0 i ∧ xi_ 0 i + 855 ≤ 5204 := by unfold xi_; omega
  obtain ⟨⟨kt, kr⟩, g0, g1⟩ := k
  have kx : mX_ M (xi_ 0 i) Y := by
    have := kt.2.2 i hi.1 hi.2
    rw [setX_self] at this
    exact this
  have t : tM_ M 0 (aTm_ (zT_ Z)) (aTn_ (zT_ Z)) (aTq_ (zT_ Z)) := kt.1
  have dd := j.1.1
  have hst := j.1.2.2.1.1
  obtain ⟨kx0, kx1⟩ := kx
  obtain ⟨⟨a1, a2, a3, a4, a5, a6, a7⟩, b1, c1, d, kk, E, e, I⟩ := kx1 hY
  refine ng_M_clashes _ _ _ ?_
  rw [at0 hi]
  by_cases hq1 : xq_ Y = 1
  · have hl := j.2.1.2.2.2.2.1.2
    have hc := j.2.2
    generalize hx' : xi_ 0 i = x at *
    have L : ∀ p : Int, p ≤ 32 → 0 ≤ p → nk_M_clashes_14 i x (cm_ (xv_ (aTl_ (zT_ Z)) Y) p.toNat).1 (cm_ (xv_ (aTl_ (zT_ Z)) Y) p.toNat).2 p M R := by
      refine lp_up (fun p hp ih p0 => ?_)
      refine ng_M_clashes_14 _ _ _ _ _ _ _ ⟨fun c => ?_, fun c => ?_⟩
      · rw [show p.toNat = 32 by omega]
        obtain ⟨cc0, cc1, cc2⟩ := cl_cm (xv_ (aTl_ (zT_ Z)) Y)
        by_cases hcl : cl_ (xv_ (aTl_ (zT_ Z)) Y) 32 = -1
        · have := cc1 hcl
          exact ⟨fun z => by omega, fun _ => h0 (Or.inr hcl)⟩
        · obtain ⟨m1, ⟨m2, m3, m4⟩, m5, m6⟩ := cc2 hcl
          refine ⟨fun _ => ?_, fun z => by omega⟩
          have h1 := h1 (fun w => w.elim (fun w => by omega) hcl)
          rw [cc0]
          rw [← m5] at h1
          generalize (cm_ (xv_ (aTl_ (zT_ Z)) Y) 32).2 = ky at *
          generalize cl_ (xv_ (aTl_ (zT_ Z)) Y) 32 = v at *
          have r7 : nn_ri M 408 7 = zs_ Z 7 := by
            have := kr.1 7 (by unfold hd_; omega)
            rw [show (0 : Int) + 7 = 7 by omega] at this
            exact this
          intro M1 e1
          rw [r7, mm_w_id (x := zs_ Z 7 + 1) (by have := j.2.1.2.2.2.1; omega)] at e1
          refine ct_M_whys bk_0 (fun M2 f2 v0 v1 v2 v3 v4 v5 => ?_)
          have f2' : fr_ (fun o c => o = 408 ∧ ((c : Int) = 7 ∨ (9 ≤ (c : Int) ∧ (c : Int) < 15))) M M2 := fr_trans (by rw [e1]; exact fr_ui (fr_refl M) ⟨rfl, by omega⟩) (fr_mono f2 (fun o c y => ⟨y.1, by have := y.2; omega⟩))
          refine ct_M_other (X := Y) (st := aTs_ (zT_ Z)) bk_0 ⟨by omega, by omega⟩ (tM_fr f2' bk_0 (fun c z y => by have := y.2; omega) t) dd (rlM_cg (fun q z0 z1 => fr_ri f2' (fun y => by have := y.2; omega)) b1) hcl ?_
          rw [show an_ (xv_ (lk_ (aTm_ (zT_ Z)) (aTn_ (zT_ Z)) (aTq_ (zT_ Z))) Y) v ky = an_ (xv_ (aTl_ (zT_ Z)) Y) v (-1) from m6]
          intro M3 e3
          have f3 : fr_ (fun o c => o = 408 ∧ ((c : Int) = 7 ∨ (9 ≤ (c : Int) ∧ (c : Int) < 15))) M M3 := by rw [e3]; exact fr_ui f2' ⟨rfl, by omega⟩
          have r13 : nn_ri M3 408 13 = an_ (xv_ (aTl_ (zT_ Z)) Y) v (-1) := by rw [e3, rd_ii, if_pos ⟨rfl, rfl⟩]
          rw [r13]
          refine ct_M_stampOf bk_0 ⟨m2, m3⟩ (tM_fr f3 bk_0 (fun c z y => by have := y.2; omega) t) ?_
          intro M4 e4
          have f4 : fr_ (fun o c => o = 408 ∧ ((c : Int) = 7 ∨ (9 ≤ (c : Int) ∧ (c : Int) < 15))) M M4 := by rw [e4]; exact fr_ui f3 ⟨rfl, by omega⟩
          have rd4 : ∀ c, 0 ≤ c → c ≠ 7 → (c < 9 ∨ 15 ≤ c) → nn_ri M4 408 c = nn_ri M 408 c := fun c z0 z1 z2 => fr_ri f4 (fun y => by have := y.2; omega)
          have kY4 : mY_ bd M4 0 (why_ (in1_ 7 (zs_ Z)) 2 ky i v (an_ (xv_ (aTl_ (zT_ Z)) Y) v (-1)) (sp_ (aTl_ (zT_ Z) (an_ (xv_ (aTl_ (zT_ Z)) Y) v (-1)).toNat)), setX_ i Y (zT_ Z), zC_ Z, zf_ Z) := by
            refine ⟨⟨mT_fr f4 bk_0 (fun c z y => by have := y.2; unfold mcore_ at z; omega) kt, mR_why bk_0 (Or.inr rfl) (fun c z0 z1 z2 z3 z4 => rd4 c (by omega) (by omega) (by omega)) ?_ ?_ ?_ ?_ ?_ ?_ ?_ hl hc kr⟩, ?_, ?_⟩
            · rw [e4, rd_ii, if_neg (by omega), e3, rd_ii, if_neg (by omega), fr_ri f2 (fun y => by have := y.2; omega), e1, rd_ii, if_pos ⟨rfl, by omega⟩]
            · rw [e4, rd_ii, if_neg (by omega), e3, rd_ii, if_neg (by omega)]; exact v0
            · rw [e4, rd_ii, if_neg (by omega), e3, rd_ii, if_neg (by omega)]; exact v1
            · rw [e4, rd_ii, if_neg (by omega), e3, rd_ii, if_neg (by omega)]; exact v2
            · rw [e4, rd_ii, if_neg (by omega), e3, rd_ii, if_neg (by omega)]; exact v3
            · rw [e4, rd_ii, if_neg (by omega), e3, rd_ii, if_pos ⟨rfl, by omega⟩]
            · rw [e4, rd_ii, if_pos ⟨rfl, by omega⟩]
            · rw [rd4 _ (by omega) (by omega) (by omega)]; exact g0
            · rw [rd4 _ (by omega) (by omega) (by omega)]; exact g1
          refine ct_M_goes2 hi kY4 (why_20 (a0 := 2) (a1 := ky) (a2 := i) (a3 := v) (a4 := an_ (xv_ (aTl_ (zT_ Z)) Y) v (-1)) (a5 := sp_ (aTl_ (zT_ Z) (an_ (xv_ (aTl_ (zT_ Z)) Y) v (-1)).toNat)) hl) hc (fun M5 f5 k5 => ?_)
          have e5 : dro_ i (why_ (in1_ 7 (zs_ Z)) 2 ky i v (an_ (xv_ (aTl_ (zT_ Z)) Y) v (-1)) (sp_ (aTl_ (zT_ Z) (an_ (xv_ (aTl_ (zT_ Z)) Y) v (-1)).toNat)), setX_ i Y (zT_ Z), zC_ Z, zf_ Z) = (why_ (in1_ 7 (zs_ Z)) 2 ky i v (an_ (xv_ (aTl_ (zT_ Z)) Y) v (-1)) (sp_ (aTl_ (zT_ Z) (an_ (xv_ (aTl_ (zT_ Z)) Y) v (-1)).toNat)), setX_ i (wd_ Y) (zT_ Z), zC_ Z, zf_ Z) := by
            show (_, setX_ i (wd_ (aTX_ (setX_ i Y (zT_ Z)) i)) (setX_ i Y (zT_ Z)), _, _) = _
            rw [setX_self, setX_setX]
          rw [e5] at k5
          refine h1 M5 (fr_trans (fr_mono f4 (fun o c y => ⟨y.1, by have := y.2; omega⟩)) (fr_mono f5 (fun o c y => ⟨y.1, by have := y.2; rw [hx'] at this; omega⟩))) k5
      · rw [mm_w_id (x := x + 1) (by omega), a1]
        refine ⟨by omega, fun z => absurd hq1 z, fun _ => ?_⟩
        have hr := lk_rows dd p.toNat
        have ih := ih c (by omega)
        rw [show (p + 1).toNat = p.toNat + 1 by omega] at ih
        unfold cm_ at ih
        rw [show ((p.toNat : Nat) : Int) = p by omega] at ih
        rw [mm_w_id (x := p + 1) (by omega)]
        obtain ⟨w1, w2⟩ := wv_vk (u := xu_ Y) (o := lk_ (aTm_ (zT_ Z)) (aTn_ (zT_ Z)) (aTq_ (zT_ Z)) p.toNat) (fun r hr' => (hr r hr').1)
        refine ct_M_isWanted bk_0 ⟨by omega, by omega⟩ ⟨p0, c⟩ t b1 (fun r hr' => by have := (hr r hr').1; omega) ?_
        by_cases hw : wv_ (xu_ Y) (lk_ (aTm_ (zT_ Z)) (aTn_ (zT_ Z)) (aTq_ (zT_ Z)) p.toNat) = true
        · obtain ⟨r, r1, r2, r3, r4⟩ := w1 hw
          have r4 : xv_ (aTl_ (zT_ Z)) Y p = su_ (xu_ Y) 0 r.2 := r4
          have hsu := su_in b1.1 (f := 0) ⟨by omega, by have := b1.1.1.1; omega⟩ r.2
          rw [if_pos hw]
          refine ⟨fun _ => ?_, fun z => absurd z (by decide)⟩
          refine ct_M_rowOf bk_0 ⟨p0, c⟩ t r1 ?_
          refine ct_M_valueOf ⟨by omega, by omega⟩ b1 r2 ?_
          refine ct_M_other (X := Y) (st := aTs_ (zT_ Z)) bk_0 ⟨by omega, by omega⟩ t dd b1 (by omega) ?_
          rw [r4] at ih
          show _ ∧ _
          have ea : an_ (xv_ (lk_ (aTm_ (zT_ Z)) (aTn_ (zT_ Z)) (aTq_ (zT_ Z))) Y) (su_ (xu_ Y) 0 r.2) p = an_ (xv_ (aTl_ (zT_ Z)) Y) (su_ (xu_ Y) 0 r.2) p := rfl
          rw [ea]
          refine ⟨fun z => ?_, fun z => ?_⟩
          · rw [if_neg (by omega)] at ih
            exact ih
          · rw [if_pos (by omega)] at ih
            exact ih
        · have hz : xv_ (aTl_ (zT_ Z)) Y p = -1 := w2 hw
          rw [if_neg hw]
          refine ⟨fun z => absurd rfl z, fun _ => ?_⟩
          rw [if_neg (fun z => z.1 hz)] at ih
          exact ih
    exact L 0 (by omega) (Int.le_refl _)
  · refine ng_M_clashes_14 _ _ _ _ _ _ _ ⟨fun c => by omega, fun c => ?_⟩
    rw [mm_w_id (x := xi_ 0 i + 1) (by omega), a1]
    refine ⟨by omega, fun _ => ⟨fun z => by omega, fun _ => h0 (Or.inl (hq.resolve_right hq1))⟩, fun z => absurd z hq1⟩
