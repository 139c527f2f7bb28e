/-! a new index out of the tape's text: the Model -/
theorem rix_st {K N : Int → Int} {T : Int} (k : kn_ K N T) : (rix_ K N).1 = 0 ∨ (rix_ K N).1 = 1 ∨ (rix_ K N).1 = 2 := by
  unfold rix_
  by_cases z0 : K 0 ≠ 3
  · rw [if_pos z0]
    exact Or.inr (Or.inl rfl)
  · rw [if_neg z0]
    have hT := k.1
    have l0 := kn_lt k hT.1 (by omega)
    obtain ⟨s1, s2, s3⟩ := rsm_in k 4 1 zv_ 0 ⟨by omega, by omega⟩ ⟨fun c _ _ => Int.le_refl _, Int.le_refl _⟩
    by_cases z1 : (rsm_ K N 4 1 zv_).1 ≠ 0
    · rw [if_pos z1]
      exact s2
    · rw [if_neg z1]
      have hv : vb_ (rsm_ K N 4 1 zv_).2.2 400 := ⟨(s3 (by omega)).1, by have := (s3 (by omega)).2; omega⟩
      by_cases z2 : (rwh_ K N).1 ≠ 0
      · rw [if_pos z2]
        show (rwh_ K N).1 = 0 ∨ (rwh_ K N).1 = 1 ∨ (rwh_ K N).1 = 2
        unfold rwh_
        by_cases z3 : K (rsm_ K N 4 1 zv_).2.1 = 4
        · rw [if_pos z3]
          have l1 := kn_lt k s1.2 (by rw [z3]; decide)
          exact (rats_in k 3 0 ((rsm_ K N 4 1 zv_).2.1 + 1) (u0_ (rsm_ K N 4 1 zv_).2.2) (by omega) (Int.le_refl _) ⟨by omega, by omega⟩ (ub_0 hv)).2.1
        · rw [if_neg z3]
          exact Or.inl rfl
      · rw [if_neg z2]
        by_cases y : K (op_ K 7 (op_ K 6 (rwh_ K N).2.1)) = 0
        · rw [if_pos y]; exact Or.inl rfl
        · rw [if_neg y]; exact Or.inr (Or.inl rfl)
theorem setX_slf {i : Int} {T : ab_T} : setX_ i (aTX_ T i) T = T := by
  have e : (fun j => if j = i then aTX_ T i else aTX_ T j) = aTX_ T := funext (fun j => by
    by_cases z : j = i
    · rw [if_pos z, z]
    · rw [if_neg z])
  unfold setX_
  rw [e]
def dmf_ (x : Int) (o c : Nat) : Prop := o = 407 ∨ (o = 408 ∧ ((20 ≤ c ∧ c < 23) ∨ (x ≤ (c : Int) ∧ (c : Int) < x + 855)))
theorem mY_dfn {bd a b i : Int} {Y : ab_X} {Z : ab_Z} {M M' : mm_M} (hi : 0 ≤ i ∧ i < 4) (f : fr_ (dmf_ (xi_ 0 i)) M M') (hl : zs_ Z 20 ≤ 200) (hc : cw_ (zC_ Z)) (k : mY_ bd M 0 Z) (kx : mX_ M' (xi_ 0 i) Y) (a20 : nn_ri M' 408 20 = 0) (a21 : nn_ri M' 408 21 = a) (a22 : nn_ri M' 408 22 = b) : mY_ bd M' 0 (scD_ a b (zs_ Z), setX_ i Y (zT_ Z), zC_ Z, zf_ Z) := by
  have hx : 1784 ≤ xi_ 0 i ∧ xi_ 0 i + 855 ≤ 5204 := by unfold xi_; omega
  obtain ⟨⟨⟨kt, ⟨k0, k1, k2, k8⟩, kX⟩, ⟨r1, r2, r3⟩⟩, g0, g1⟩ := k
  have n22 := kt.2.2.1.2.2
  have rd : ∀ c, 0 ≤ c → c < 20 ∨ (23 ≤ c ∧ c < 1784) ∨ 5204 ≤ c → nn_ri M' 408 c = nn_ri M 408 c := fun c z0 z1 => fr_ri f (fun y => by unfold dmf_ at y; omega)
  refine ⟨⟨⟨(show tM_ M' 0 (aTm_ (zT_ Z)) (aTn_ (zT_ Z)) (aTq_ (zT_ Z)) from tM_fr f bk_0 (fun c' hc' y => by unfold dmf_ at y; omega) kt), ⟨(rd _ (by omega) (by omega)).trans k0, (rd _ (by omega) (by omega)).trans k1, fun z => (rd _ (by omega) (by omega)).trans (k2 z), (rd _ (by omega) (by omega)).trans k8⟩, fun q q0 q1 => ?_⟩, ⟨fun q hq => ?_, fun q q0 q1 => ?_, fun q q0 q1 => ?_⟩⟩, ?_, ?_⟩
  · show mX_ M' (xi_ 0 q) (if q = i then Y else aTX_ (zT_ Z) q)
    by_cases z : q = i
    · rw [if_pos z, z]; exact kx
    · rw [if_neg z]
      exact mX_fr f (by unfold xi_; omega) (fun c y1 y2 y3 => by unfold dmf_ at y3; unfold xi_ at y1 y2 y3; omega) (kX q q0 q1)
  · show nn_ri M' 408 (0 + q) = scD_ a b (zs_ Z) q
    rw [show (0 : Int) + q = q by omega]
    unfold scD_
    by_cases z0 : q = 20
    · rw [if_pos z0, z0]; exact a20
    · rw [if_neg z0]
      by_cases z1 : q = 21
      · rw [if_pos z1, z1]; exact a21
      · rw [if_neg z1]
        by_cases z2 : q = 22
        · rw [if_pos z2, z2]; exact a22
        · rw [if_neg z2, rd q (by unfold hd_ at hq; omega) (by unfold hd_ at hq; omega)]
          have := r1 q hq
          rw [show (0 : Int) + q = q by omega] at this
          exact this
  · have q1 : q < 0 := q1
    omega
  · have hw := hc q q0 q1
    exact mC_cg (fun c z0 z1 => rd c (by omega) (by omega)) hw.2.1.2 hw.2.2.2.2 (r3 q q0 q1)
  · rw [rd _ (by omega) (by omega)]; exact g0
  · rw [rd _ (by omega) (by omega)]; exact g1
theorem ct_M_define {bd : Int} {Z : ab_Z} {M : mm_M} {R : Int → mm_M → Prop} (k : mY_ bd M 0 Z) (j : jZ_ bd Z) (hb : jB_ Z) (h : ∀ M', fr_ mod_ M M' → mY_ bd M' 0 (dfn_ Z) → R (dfna_ Z) M') : nr_M_define M R := by
  have jn := j.2.1.2.2.2.2.1
  have k20 : nn_ri M 408 20 = zs_ Z 20 := k.1.2.1 20 (by unfold hd_; omega)
  have kst : nn_ri M 408 0 = aTs_ (zT_ Z) := k.1.1.2.1.1
  have kX := k.1.1.2.2
  have kf := k.1.2.2.1
  refine ng_M_define _ _ ?_
  intro M1 e1 M2 e2 M3 e3 M4 e4
  have u4 : fr_ (fun o c => (o = 407 ∧ c = 3) ∨ (o = 408 ∧ 20 ≤ c ∧ c < 23)) M M4 := by
    rw [e4, e3, e2, e1]
    exact fr_ui (fr_ui (fr_ui (fr_uf (fr_refl M) (Or.inl ⟨rfl, rfl⟩)) (Or.inr ⟨rfl, by decide, by decide⟩)) (Or.inr ⟨rfl, by decide, by decide⟩)) (Or.inr ⟨rfl, by decide, by decide⟩)
  have c20 : nn_ri M4 408 20 = 0 := by
    rw [e4, rd_ii, if_neg (by omega), e3, rd_ii, if_neg (by omega), e2, rd_ii, if_pos ⟨rfl, rfl⟩]
  have c21 : nn_ri M4 408 21 = 0 := by
    rw [e4, rd_ii, if_neg (by omega), e3, rd_ii, if_pos ⟨rfl, rfl⟩]
  have c22 : nn_ri M4 408 22 = -1 := by
    rw [e4, rd_ii, if_pos ⟨rfl, rfl⟩]
  have n3 : nn_rf M4 407 3 = zs_ Z 20 := by
    rw [e4, rd_fi, if_neg (by omega), e3, rd_fi, if_neg (by omega), e2, rd_fi, if_neg (by omega), e1, rd_ff, if_pos ⟨rfl, rfl⟩]
    exact k20
  have none : fi_ (aTX_ (zT_ Z)) = 4 → R (-2) M4 := by
    intro h4
    unfold dfn_ dfna_ at h
    rw [if_pos h4, if_pos h4] at h
    refine h M4 (fr_mono u4 (fun o c y => by unfold mod_; omega)) ?_
    have := mY_dfn (i := 0) (Y := aTX_ (zT_ Z) 0) (by omega) (fr_mono u4 (fun o c y => by unfold dmf_; omega)) jn.2 j.2.2 k (mX_fr u4 (by unfold xi_; omega) (fun c y1 y2 y3 => by unfold xi_ at y1; omega) (kX 0 (by omega) (by omega))) c20 c21 c22
    rw [setX_slf] at this
    exact this
  have found : ∀ i : Int, 0 ≤ i ∧ i < 4 → fi_ (aTX_ (zT_ Z)) = i → nk_M_define_79 i (nf_M_at 0 i) 0 M4 R := by
    intro i hi hfi
    rw [at0 hi]
    have hx : 1784 ≤ xi_ 0 i ∧ xi_ 0 i + 855 ≤ 5204 := by unfold xi_; omega
    obtain ⟨T, xt⟩ := tx_ex (f := zf_ Z) jn
    have kn := kn_of jn xt.2.1 xt.2.2.1 xt.2.2.2
    have n4 : ¬ fi_ (aTX_ (zT_ Z)) = 4 := by omega
    unfold dfn_ dfna_ at h
    rw [if_neg n4, if_neg n4, hfi] at h
    have L2 : ∀ c : Int, c ≤ 855 → 0 ≤ c → ∀ M5, fr_ (fun o b => o = 408 ∧ xi_ 0 i ≤ (b : Int) ∧ (b : Int) < xi_ 0 i + 855) M4 M5 → (∀ q, 0 ≤ q → q < c → nn_ri M5 408 (xi_ 0 i + q) = 0) → nk_M_define_79 i (xi_ 0 i) c M5 R := by
      refine lp_up (fun c hc' ih c0 M5 f5 g5 => ?_)
      refine ng_M_define_79 _ _ _ _ _ ⟨fun y => ?_, fun y => ?_⟩
      · intro M6 e6 M7 e7
        have u7 : fr_ (fun o b => o = 407 ∧ (b = 4 ∨ b = 7)) M5 M7 := by
          rw [e7, e6]; exact fr_uf (fr_uf (fr_refl M5) ⟨rfl, Or.inl rfl⟩) ⟨rfl, Or.inr rfl⟩
        have mt : mtx_ M7 (zf_ Z) (zs_ Z 20) := by
          refine ⟨?_, jn, fun q q0 q1 => ⟨?_, hb q q0 q1⟩⟩
          · rw [fr_rf u7 (fun y => by omega), fr_rf f5 (fun y => by omega)]; exact n3
          · rw [fr_ri u7 (fun y => by omega), fr_ri f5 (fun y => by omega), fr_ri u4 (fun y => by omega)]
            have := kf q q0 q1
            rw [show (0 : Int) + 88 + q = 88 + q by omega] at this
            exact this
        have z4 : nn_rf M7 407 4 = 0 := by rw [e7, rd_ff, if_neg (by omega), e6, rd_ff, if_pos ⟨rfl, rfl⟩]
        have z7 : nn_rf M7 407 7 = 0 := by rw [e7, rd_ff, if_pos ⟨rfl, rfl⟩]
        refine ct_M_takes mt ⟨Int.le_refl _, jn.1⟩ z4 (fun M8 f8 t1 t2 t3 t4 => ?_)
        have ms : ms_ M8 (zf_ Z) (zs_ Z 20) 0 := by
          refine ⟨mtx_fr f8 (fun o b y => by unfold tkc2_; omega) mt, (fr_rf f8 (by unfold tkc2_; omega)).trans z7, t1, t2, ?_⟩
          rw [t3, t4]
          exact (tk5_at xt ⟨Int.le_refl _, xt.2.1.1⟩).2
        have U8 : fr_ (fun o b => (o = 407 ∧ 3 ≤ b ∧ b < 10) ∨ (o = 408 ∧ ((20 ≤ b ∧ b < 23) ∨ (xi_ 0 i ≤ (b : Int) ∧ (b : Int) < xi_ 0 i + 855)))) M M8 := fr_trans (fr_trans (fr_trans (fr_mono u4 (fun o b y => by omega)) (fr_mono f5 (fun o b y => by omega))) (fr_mono u7 (fun o b y => by omega))) (fr_mono f8 (fun o b y => by unfold tkc2_ at y; omega))
        have z8 : ∀ q, 0 ≤ q → q < 855 → nn_ri M8 408 (xi_ 0 i + q) = 0 := fun q q0 q1 => by
          rw [fr_ri f8 (fun y => by unfold tkc2_ at y; omega), fr_ri u7 (fun y => by omega)]
          exact g5 q q0 (by omega)
        have s8 : ∀ q : Int, 0 ≤ q → q < 23 → nn_ri M8 408 q = nn_ri M4 408 q := fun q q0 q1 => by
          rw [fr_ri f8 (fun y => by unfold tkc2_ at y; omega), fr_ri u7 (fun y => by omega), fr_ri f5 (fun y => by omega)]
        refine ct_M_index2 (x := xi_ 0 i) ⟨by omega, by omega⟩ xt kn ms (z8 8 (by omega) (by omega)) (fun w M9 a f9 s7 a0 a1 ub rp q1 q2 => ?_) (fun w M9 f9 mw => ?_)
        · -- it is one
          have w' : ¬ (rZ_ Z).1 ≠ 0 := fun y => y w
          rw [if_neg w', if_neg w'] at h
          have hb01 := (rix_ub kn w).2
          have ub : ub_ (rZ_ Z).2.2.1 a := ub
          have rp : rpm_ M9 (xi_ 0 i) (rZ_ Z).2.2.1 a := rp
          have q1 : nn_ri M9 408 (xi_ 0 i + 1) = (rZ_ Z).2.2.2.1 := q1
          have q2 : nn_ri M9 408 (xi_ 0 i + 2) = (rZ_ Z).2.2.2.2 := q2
          generalize (rZ_ Z).2.2.1 = u at *
          generalize (rZ_ Z).2.2.2.1 = uq at *
          generalize (rZ_ Z).2.2.2.2 = um at *
          have c0' : nn_ri M9 408 0 = aTs_ (zT_ Z) := by
            rw [fr_ri f9 (fun y => by unfold mxc_ at y; omega), s8 0 (by omega) (by omega), fr_ri u4 (fun y => by omega)]; exact kst
          have fin : ∀ (hw : Int) (M10 M11 : mm_M), hw = (if aTs_ (zT_ Z) = 0 then 2 else 1) → M10 = nn_ui M9 408 (xi_ 0 i) hw → M11 = nn_ui M10 408 (xi_ 0 i + 3) (nn_ri M10 408 0) → R i M11 := by
            intro hw M10 M11 ehw e10 e11
            have rd : ∀ c, 0 ≤ c → c ≠ xi_ 0 i → c ≠ xi_ 0 i + 3 → nn_ri M11 408 c = nn_ri M9 408 c := fun c z0 z1 z2 => by rw [e11, rd_ii, if_neg (by omega), e10, rd_ii, if_neg (by omega)]
            have rz : ∀ c, 0 ≤ c → c < 855 → c ≠ 0 → c ≠ 1 → c ≠ 2 → c ≠ 3 → ¬ (8 ≤ c ∧ c < 47) → nn_ri M11 408 (xi_ 0 i + c) = 0 := fun c z0 z1 z2 z3 z4 z5 z6 => by
              rw [rd _ (by omega) (by omega) (by omega), fr_ri f9 (fun y => by unfold mxc_ at y; omega)]
              exact z8 c z0 z1
            have F11 : fr_ (dmf_ (xi_ 0 i)) M M11 := by
              have f11 : fr_ (fun o b => o = 408 ∧ (xi_ 0 i ≤ (b : Int) ∧ (b : Int) < xi_ 0 i + 855)) M9 M11 := by
                rw [e11, e10]; exact fr_ui (fr_ui (fr_refl M9) ⟨rfl, by omega, by omega⟩) ⟨rfl, by omega, by omega⟩
              exact fr_trans (fr_trans (fr_mono U8 (fun o b y => by unfold dmf_; omega)) (fr_mono f9 (fun o b y => by unfold mxc_ at y; unfold dmf_; omega))) (fr_mono f11 (fun o b y => by unfold dmf_; omega))
            have hd : ∀ q : Int, 0 ≤ q → q < 23 → nn_ri M11 408 q = nn_ri M4 408 q := fun q q0 q1 => by
              rw [rd _ q0 (by omega) (by omega), fr_ri f9 (fun y => by unfold mxc_ at y; omega)]
              exact s8 q q0 q1
            refine h M11 (fr_mono F11 (fun o c y => by unfold dmf_ at y; unfold mod_; omega)) (mY_dfn hi F11 jn.2 j.2.2 k ⟨?_, fun _ => ⟨⟨?_, ?_, ?_, fun y => ?_, ?_, Int.le_refl _, by show (0 : Int) ≤ 32; decide⟩, ?_, ?_, ?_, 0, fun _ => 0, ?_, ?_⟩⟩ ((hd 20 (by omega) (by omega)).trans c20) ((hd 21 (by omega) (by omega)).trans c21) ((hd 22 (by omega) (by omega)).trans c22))
            · rw [e11, rd_ii, if_neg (by omega), e10, rd_ii, if_pos ⟨rfl, rfl⟩]; exact ehw
            · exact (rd _ (by omega) (by omega) (by omega)).trans q1
            · exact (rd _ (by omega) (by omega) (by omega)).trans q2
            · rw [e11, rd_ii, if_pos ⟨rfl, rfl⟩, e10, rd_ii, if_neg (by omega)]; exact c0'
            · have y : (if aTs_ (zT_ Z) = 0 then (2 : Int) else 1) = 1 := y
              show _ = (if aTs_ (zT_ Z) = 0 then (32 : Int) else 0)
              rw [rz 4 (by omega) (by omega) (by omega) (by omega) (by omega) (by omega) (by omega)]
              by_cases v : aTs_ (zT_ Z) = 0
              · rw [if_pos v] at y; exact absurd y (by decide)
              · rw [if_neg v]
            · exact rz 7 (by omega) (by omega) (by omega) (by omega) (by omega) (by omega) (by omega)
            · obtain ⟨p1, p2, p3⟩ := rp
              have u2 := ub.1
              have fo : ∀ f, 0 ≤ f → f ≤ 2 * a → 9 ≤ fo_ f ∧ fo_ f + 5 ≤ 47 := fun f f0 f1 => by
                have := fo_in f0 f1
                omega
              refine ⟨rb_ub ⟨a0, a1⟩ ub, ?_, fun f f0 f1 => ?_, fun b b0 b1 => ?_⟩
              · rw [rd _ (by omega) (by omega) (by omega), p1]; exact u2.symm
              · have f1 : f ≤ 2 * u.2.2 := f1
                have g := fo f f0 (by omega)
                obtain ⟨m1, m2⟩ := p2 f f0 (by omega)
                exact ⟨(rd _ (by omega) (by omega) (by omega)).trans m1, fun c c0 c1 => (rd _ (by omega) (by omega) (by omega)).trans (m2 c c0 c1)⟩
              · have b1 : b < u.2.2 := b1
                rw [rd _ (by omega) (by omega) (by omega)]
                exact p3 b b0 (by omega)
            · exact ⟨fun _ => 0, fun q z0 z1 => by have z1 : q < 0 := z1; omega, fun q q' z0 z1 z2 => by have z2 : q' < 0 := z2; omega, fun y => ⟨fun z => z.elim, fun ⟨q, z0, z1, _⟩ => by have z1 : q < 0 := z1; omega⟩⟩
            · exact ⟨rz 5 (by omega) (by omega) (by omega) (by omega) (by omega) (by omega) (by omega), Int.le_refl _, by show (0 : Int) ≤ 23; decide, fun r r0 r1 => by have r1 : r < 0 := r1; omega⟩
            · exact ⟨rz 6 (by omega) (by omega) (by omega) (by omega) (by omega) (by omega) (by omega), Int.le_refl _, by decide, fun r r0 r1 => by omega⟩
            · exact ⟨fun q q' z0 z1 z2 => by omega, fun q z0 z1 => by omega, fun y _ => ⟨fun ⟨q, z0, z1, _⟩ => by omega, fun z => z.elim⟩, fun r r0 r1 => by have r1 : r < 0 := r1; omega⟩
          refine ⟨fun _ => ?_, fun y => by omega⟩
          rw [c0', mm_w_id (x := xi_ 0 i + 0) (by omega), show xi_ 0 i + 0 = xi_ 0 i by omega, mm_w_id (x := xi_ 0 i + 3) (by omega)]
          refine ⟨fun v => ⟨by omega, fun M10 e10 => ⟨by omega, fun M11 e11 => fin 1 M10 M11 (if_neg v).symm e10 e11⟩⟩, fun v => ⟨by omega, fun M10 e10 => ⟨by omega, fun M11 e11 => fin 2 M10 M11 (if_pos v).symm e10 e11⟩⟩⟩
        · -- it is none
          have w' : (rZ_ Z).1 ≠ 0 := w
          rw [if_pos w', if_pos w'] at h
          obtain ⟨w7, w8⟩ := mw
          have w7 : nn_rf M9 407 7 = (rZ_ Z).1 := w7
          have st : (rZ_ Z).1 = 0 ∨ (rZ_ Z).1 = 1 ∨ (rZ_ Z).1 = 2 := rix_st kn
          refine ⟨fun y => by omega, fun _ => ?_⟩
          intro M10 e10 M11 e11
          have F9 : fr_ (dmf_ (xi_ 0 i)) M M9 := fr_trans (fr_mono U8 (fun o b y => by unfold dmf_; omega)) (fr_mono f9 (fun o b y => by unfold mxc_ at y; unfold dmf_; omega))
          have F11 : fr_ (dmf_ (xi_ 0 i)) M M11 := by
            have f11 : fr_ (fun o b => o = 408 ∧ 20 ≤ b ∧ b < 23) M9 M11 := by
              rw [e11, e10]; exact fr_ui (fr_ui (fr_refl M9) ⟨rfl, by decide, by decide⟩) ⟨rfl, by decide, by decide⟩
            exact fr_trans F9 (fr_mono f11 (fun o b y => by unfold dmf_; omega))
          have hz : xh_ (aTX_ (zT_ Z) i) = 0 := fi_free hi hfi
          have := mY_dfn (a := (rZ_ Z).1) (b := tP_ (zf_ Z) (zs_ Z 20) (rZ_ Z).2.1) (Y := aTX_ (zT_ Z) i) hi F11 jn.2 j.2.2 k ⟨?_, fun y => absurd hz y⟩ ?_ ?_ ?_
          · rw [setX_slf] at this
            exact h M11 (fr_mono F11 (fun o c y => by unfold dmf_ at y; unfold mod_; omega)) this
          · rw [hz, e11, rd_ii, if_neg (by omega), e10, rd_ii, if_neg (by omega), fr_ri f9 (fun y => by unfold mxc_ at y; omega)]
            have := z8 0 (by omega) (by omega)
            rw [show xi_ 0 i + 0 = xi_ 0 i by omega] at this
            exact this
          · rw [e11, rd_ii, if_neg (by omega), e10, rd_ii, if_neg (by omega), fr_ri f9 (fun y => by unfold mxc_ at y; omega), s8 20 (by omega) (by omega)]; exact c20
          · rw [e11, rd_ii, if_neg (by omega), e10, rd_ii, if_pos ⟨rfl, rfl⟩]; exact w7
          · rw [e11, rd_ii, if_pos ⟨rfl, rfl⟩, e10, rd_fi, if_neg (by omega)]; exact w8
      · rw [mm_w_id (x := xi_ 0 i + c) (by omega), mm_w_id (x := c + 1) (by omega)]
        refine ⟨by omega, fun M6 e6 => ih y (by omega) M6 ?_ (fun q q0 q1 => ?_)⟩
        · rw [e6]; exact fr_ui f5 ⟨rfl, by omega, by omega⟩
        · rw [e6, rd_ii]
          by_cases z : q = c
          · rw [if_pos ⟨rfl, by rw [z]⟩]
          · rw [if_neg (by omega)]; exact g5 q q0 (by omega)
    exact L2 0 (by omega) (Int.le_refl _) M4 (fr_refl M4) (fun q q0 q1 => by omega)
  have L : ∀ i : Int, i ≤ 4 → 0 ≤ i → (∀ q, 0 ≤ q → q < i → xh_ (aTX_ (zT_ Z) q) ≠ 0) → nk_M_define_37 i M4 R := by
    refine lp_up (fun i hi ih i0 hq => ?_)
    refine ng_M_define_37 _ _ _ ⟨fun c => ⟨fun y => by omega, fun y => none ((fi_eq (i := i) ⟨i0, hi⟩ (fun y => by omega) hq).trans y)⟩, fun c => ?_⟩
    have hx : 1784 ≤ xi_ 0 i ∧ xi_ 0 i + 855 ≤ 5204 := by unfold xi_; omega
    have kx : nn_ri M4 408 (xi_ 0 i) = xh_ (aTX_ (zT_ Z) i) := (fr_ri u4 (fun y => by omega)).trans (kX i i0 c).1
    have e : mm_w (nf_M_at 0 i + 0) = xi_ 0 i := by
      rw [at0 ⟨i0, c⟩, mm_w_id (by omega)]; omega
    have hh := h012 j (i := i) i0 c
    rw [e, kx]
    refine ⟨by omega, fun z => ⟨fun _ => found i ⟨i0, c⟩ (fi_eq ⟨i0, hi⟩ (fun _ => by omega) hq), fun y => by omega⟩, fun z => ?_⟩
    rw [mm_w_id (x := i + 1) (by omega)]
    exact ih c (by omega) (fun q q0 q1 => by
      by_cases y : q = i
      · rw [y]; omega
      · exact hq q q0 (by omega))
  exact L 0 (by omega) (Int.le_refl _) (fun q q0 q1 => by omega)
