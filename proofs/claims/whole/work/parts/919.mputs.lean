/-! the Model: puts, removes, changes; the class's changes -/
def mcore_ (b : Int) (c : Nat) : Prop := (b ≤ (c : Int) ∧ (c : Int) < b + 3) ∨ (c : Int) = b + 5 ∨ (c : Int) = b + 8 ∨ (b + 24 ≤ (c : Int) ∧ (c : Int) < b + 88) ∨ (b + 288 ≤ (c : Int) ∧ (c : Int) < b + 5204)
theorem mT_fr {P : Nat → Nat → Prop} {M M' : mm_M} (h : fr_ P M M') {b : Int} {T : ab_T} (hb : bk_ b) (hv : ∀ c : Nat, mcore_ b c → ¬ P 408 c) (k : mT_ M b T) : mT_ M' b T := by
  have hb' := hb
  unfold bk_ at hb'
  obtain ⟨kt, ⟨k0, k1, k2, k8⟩, kX⟩ := k
  have rd : ∀ c : Int, b ≤ c → mcore_ b c.toNat → nn_ri M' 408 c = nn_ri M 408 c := fun c _ z => fr_ri h (hv _ z)
  have n22 := kt.2.2.1.2.2
  refine ⟨tM_fr h hb (fun c' hc => hv c' (by unfold mcore_; omega)) kt, ⟨(rd _ (by omega) (by unfold mcore_; omega)).trans k0, (rd _ (by omega) (by unfold mcore_; omega)).trans k1, fun z => (rd _ (by omega) (by unfold mcore_; omega)).trans (k2 z), (rd _ (by omega) (by unfold mcore_; omega)).trans k8⟩, mXs_fr h hb (fun c z0 z1 => hv c (by unfold mcore_; omega)) kX⟩
def mz_ (b : Int) (o c : Nat) : Prop := o = 408 ∧ b ≤ (c : Int) ∧ (c : Int) < b + 5474
theorem mw_mz {b : Int} {o c : Nat} (h : mw_ b o c) : mz_ b o c := ⟨h.1, by have := h.2; omega⟩
theorem ct_M_wrZ {b bd key row : Int} {Z : ab_Z} {M : mm_M} {R : Int → mm_M → Prop} (hb : bk_ b) (hk : 0 ≤ key ∧ key < 32) (hrow : row = -1 ∨ (0 ≤ row ∧ row < 65536)) (hbd : 0 ≤ bd ∧ bd < 800000000) (k : mY_ bd M b Z) (j : jZ_ bd Z)
    (h : ∀ M', fr_ (mz_ b) M M' → mY_ (bd + 25) M' b (zs_ Z, wr_ (zs_ Z 3) (zs_ Z 4) key row (zT_ Z), zC_ Z, zf_ Z) → R (aTs_ (zT_ Z) + 1) M') : nr_M_writes b key row M R := by
  obtain ⟨⟨kt, kr⟩, g0, g1⟩ := k
  obtain ⟨jt, ⟨b1, b2, _, _, b5, _⟩, b7⟩ := j
  refine ct_M_wr (bd := bd) hb hk hrow b2 b1.2 (kr.1 4 (by unfold hd_; omega)) (kr.1 3 (by unfold hd_; omega)) hbd ⟨g0, by omega⟩ kt jt (fun M' f u0 u1 k' => ?_)
  exact h M' (fr_mono f (fun o c z => mw_mz z)) ⟨⟨k', mR_mw hb f b5.2 b7 kr⟩, by omega, by omega⟩
theorem ct_M_puts {b bd which key row : Int} {Z : ab_Z} {M : mm_M} {R : Int → mm_M → Prop} (hb : bk_ b) (hk : 0 ≤ key ∧ key < 32) (hrow : 0 ≤ row ∧ row < 65536) (hbd : 0 ≤ bd ∧ bd < 800000000) (k : mY_ bd M b Z) (j : jZ_ bd Z)
    (h : ∀ M', fr_ (mz_ b) M M' → mY_ (bd + 25) M' b (pt_ which key row Z) → R (pa_ key row Z) M') : nr_M_puts b which key row M R := by
  have hb' := hb
  unfold bk_ at hb'
  refine ng_M_puts _ _ _ _ _ _ ?_
  have L : ∀ i : Int, i ≤ 4 → 0 ≤ i → rfx_ (aTl_ (zT_ Z)) key row (aTX_ (zT_ Z)) = ff_ (fun i => decide (rfi_ (aTl_ (zT_ Z)) key row (aTX_ (zT_ Z) i) ≠ -1)) (4 - i).toNat i → nk_M_puts_3 b which key row i M R := by
    refine lp_up (fun i hi ih i0 hq => ?_)
    refine ng_M_puts_3 _ _ _ _ _ _ _ ⟨fun c => ?_, fun c => ?_⟩
    · rw [show (4 - i).toNat = 0 by omega] at hq
      have hq : rfx_ (aTl_ (zT_ Z)) key row (aTX_ (zT_ Z)) = -1 := hq
      have e1 : pt_ which key row Z = (zs_ Z, wr_ (zs_ Z 3) (zs_ Z 4) key row (zT_ Z), zC_ Z, zf_ Z) := if_pos hq
      have e2 : pa_ key row Z = aTs_ (zT_ Z) + 1 := if_pos hq
      rw [e1, e2] at h
      exact ct_M_wrZ hb hk (Or.inr hrow) hbd k j h
    obtain ⟨⟨kt, kr⟩, g0, g1⟩ := k
    have jt := j.1
    have kx := kt.2.2 i i0 c
    obtain ⟨kx0, kx1⟩ := kx
    rw [ff_up c i0] at hq
    have hxi : b + 1784 + 855 * i + 0 = xi_ b i := by unfold xi_; omega
    have hxa : b + 1784 + 855 * i = xi_ b i := by unfold xi_; omega
    have hxr : b + 1784 ≤ xi_ b i ∧ xi_ b i + 855 ≤ 32844 := by unfold xi_; omega
    rw [nf_at hb ⟨i0, c⟩, mm_w_id (x := b + 1784 + 855 * i + 0) (by omega), mm_w_id (x := b + 1784 + 855 * i + 1) (by omega), mm_w_id (x := i + 1) (by omega), hxi, show b + 1784 + 855 * i + 1 = xi_ b i + 1 by unfold xi_; omega, hxa, kx0, mm_w_id (x := b + 6) (by omega), mm_w_id (x := b + 13) (by omega), mm_w_id (x := b + 14) (by omega)]
    have next : rfi_ (aTl_ (zT_ Z)) key row (aTX_ (zT_ Z) i) = -1 → nk_M_puts_3 b which key row (i + 1) M R := by
      intro z
      have e1 : decide (rfi_ (aTl_ (zT_ Z)) key row (aTX_ (zT_ Z) i) ≠ -1) = false := decide_eq_false (fun w => w z)
      rw [e1, if_neg (by decide)] at hq
      exact ih c (by omega) hq
    refine ⟨by omega, fun _ => by omega, fun z => next ?_, fun z => ?_⟩
    · refine if_neg (fun w => ?_)
      rcases z with z | z
      · exact z w.1
      · obtain ⟨⟨a1, _⟩, _⟩ := kx1 (by rw [w.1]; decide)
        rw [a1] at z
        exact w.2.1 z
    · have hz : xh_ (aTX_ (zT_ Z) i) ≠ 0 := by rw [z.1]; decide
      obtain ⟨⟨a1, a2, a3, a4⟩, b1, c1, d1, e1⟩ := kx1 hz
      obtain ⟨_, ⟨q1, q2⟩, _⟩ := jt.2.2.2.2 i i0 c hz
      have hsu := su_in q1 (f := 0) ⟨by omega, by have := q1.1.1; omega⟩ row
      refine ct_M_wants ⟨by omega, by omega⟩ b1 hrow ?_
      by_cases hw : wn_ (xu_ (aTX_ (zT_ Z) i)) row (xu_ (aTX_ (zT_ Z) i)).2.2.toNat = true
      · rw [if_pos hw]
        refine ⟨fun _ => ?_, fun w => absurd w (by decide)⟩
        have hva : va_ (xu_ (aTX_ (zT_ Z) i)) row = su_ (xu_ (aTX_ (zT_ Z) i)) 0 row := if_pos hw
        have er : rfi_ (aTl_ (zT_ Z)) key row (aTX_ (zT_ Z) i) = an_ (xv_ (aTl_ (zT_ Z)) (aTX_ (zT_ Z) i)) (va_ (xu_ (aTX_ (zT_ Z) i)) row) key := if_pos ⟨z.1, by rw [← a1]; exact z.2, by rw [hva]; omega⟩
        refine ct_M_valueOf ⟨by omega, by omega⟩ b1 hrow ?_
        rw [← hva]
        refine ct_M_other (st := aTs_ (zT_ Z)) hb ⟨by omega, by omega⟩ kt.1 jt.1 b1 (by rw [hva]; omega) ?_
        rw [← er]
        rcases an_spec (xv_ (aTl_ (zT_ Z)) (aTX_ (zT_ Z) i)) (va_ (xu_ (aTX_ (zT_ Z) i)) row) key with ⟨w, _⟩ | ⟨w0, w1, w2, w3, _⟩
        · rw [← er] at w
          rw [w]
          exact ⟨fun y => absurd y (by decide), fun _ => next w⟩
        · rw [← er] at w0 w1 w3
          refine ⟨fun _ => ?_, fun y => by omega⟩
          have e1 : decide (rfi_ (aTl_ (zT_ Z)) key row (aTX_ (zT_ Z) i) ≠ -1) = true := decide_eq_true (by omega)
          rw [e1, if_pos rfl] at hq
          refine ⟨by omega, by omega, ?_⟩
          intro M1 eM1
          have f1 : fr_ (fun o c => o = 408 ∧ (c : Int) = b + 6) M M1 := by rw [eM1]; exact fr_ui (fr_refl M) ⟨rfl, by omega⟩
          have b1' : rlM_ M1 (xi_ b i) (xu_ (aTX_ (zT_ Z) i)) := rlM_cg (fun q z0 z1 => fr_ri f1 (fun y => by have := y.2; omega)) b1
          refine ct_M_valueOf ⟨by omega, by omega⟩ b1' hrow ?_
          rw [← hva]
          refine ct_M_whys hb (fun M2 f2 v0 v1 v2 v3 v4 v5 => ?_)
          refine ⟨by omega, ?_⟩
          intro M3 eM3
          have f3 : fr_ (fun o c => o = 408 ∧ ((c : Int) = b + 6 ∨ (b + 9 ≤ (c : Int) ∧ (c : Int) < b + 15))) M M3 := by
            rw [eM3]
            exact fr_ui (fr_trans (fr_mono f1 (fun o c y => ⟨y.1, Or.inl y.2⟩)) (fr_mono f2 (fun o c y => ⟨y.1, Or.inr y.2⟩))) ⟨rfl, by omega⟩
          have kt3 : mT_ M3 b (zT_ Z) := mT_fr f3 hb (fun c z0 y => by have := y.2; unfold mcore_ at z0; omega) kt
          refine ct_M_stampOf hb ⟨w0, w1⟩ kt3.1 ?_
          refine ⟨by omega, ?_⟩
          intro M4 eM4
          have f4 : fr_ (fun o c => o = 408 ∧ ((c : Int) = b + 6 ∨ (b + 9 ≤ (c : Int) ∧ (c : Int) < b + 15))) M M4 := by
            rw [eM4]
            exact fr_ui f3 ⟨rfl, by omega⟩
          have hi2 : rfx_ (aTl_ (zT_ Z)) key row (aTX_ (zT_ Z)) = i := hq
          have hne : rfx_ (aTl_ (zT_ Z)) key row (aTX_ (zT_ Z)) ≠ -1 := by rw [hi2]; omega
          have e2 : pa_ key row Z = -1 := if_neg hne
          unfold pt_ at h
          rw [if_neg hne, e2, hi2] at h
          have jl := j.2.1
          have rd4 : ∀ c, b ≤ c → c ≠ b + 6 → (c < b + 9 ∨ b + 15 ≤ c) → nn_ri M4 408 c = nn_ri M 408 c := fun c z0 z1 z2 => fr_ri f4 (fun y => by have := y.2; omega)
          have x6 : nn_ri M4 408 (b + 6) = zs_ Z 6 + 1 := by
            rw [eM4, rd_ii, if_neg (by omega), eM3, rd_ii, if_neg (by omega), fr_ri f2 (fun y => by have := y.2; omega), eM1, rd_ii, if_pos ⟨rfl, rfl⟩, kr.1 6 (by unfold hd_; omega), mm_w_id (by omega)]
          have x9 : nn_ri M4 408 (b + 9) = which := by rw [eM4, rd_ii, if_neg (by omega), eM3, rd_ii, if_neg (by omega)]; exact v0
          have x10 : nn_ri M4 408 (b + 10) = key := by rw [eM4, rd_ii, if_neg (by omega), eM3, rd_ii, if_neg (by omega)]; exact v1
          have x11 : nn_ri M4 408 (b + 11) = i := by rw [eM4, rd_ii, if_neg (by omega), eM3, rd_ii, if_neg (by omega)]; exact v2
          have x12 : nn_ri M4 408 (b + 12) = va_ (xu_ (aTX_ (zT_ Z) i)) row := by rw [eM4, rd_ii, if_neg (by omega), eM3, rd_ii, if_neg (by omega)]; exact v3
          have x13 : nn_ri M4 408 (b + 13) = rfi_ (aTl_ (zT_ Z)) key row (aTX_ (zT_ Z) i) := by rw [eM4, rd_ii, if_neg (by omega), eM3, rd_ii, if_pos ⟨rfl, rfl⟩]
          have x14 : nn_ri M4 408 (b + 14) = sp_ (aTl_ (zT_ Z) (rfi_ (aTl_ (zT_ Z)) key row (aTX_ (zT_ Z) i)).toNat) := by rw [eM4, rd_ii, if_pos ⟨rfl, rfl⟩]
          refine h M4 (fr_mono f4 (fun o c y => ⟨y.1, by have := y.2; omega⟩)) ⟨⟨mT_fr f4 hb (fun c z0 y => by have := y.2; unfold mcore_ at z0; omega) kt, ?_⟩, by rw [rd4 _ (by omega) (by omega) (by omega)]; omega, by rw [rd4 _ (by omega) (by omega) (by omega)]; omega⟩
          obtain ⟨r1, r2, r3⟩ := kr
          refine ⟨fun q hq => ?_, fun q q0 q1 => ?_, fun q q0 q1 => ?_⟩
          · unfold hd_ at hq
            show nn_ri M4 408 (b + q) = why_ (in1_ 6 (zs_ Z)) which key i (va_ (xu_ (aTX_ (zT_ Z) i)) row) (rfi_ (aTl_ (zT_ Z)) key row (aTX_ (zT_ Z) i)) (sp_ (aTl_ (zT_ Z) (rfi_ (aTl_ (zT_ Z)) key row (aTX_ (zT_ Z) i)).toNat)) q
            by_cases y9 : q = 9
            · rw [y9, x9]; rfl
            by_cases y10 : q = 10
            · rw [y10, x10]; rfl
            by_cases y11 : q = 11
            · rw [y11, x11]; rfl
            by_cases y12 : q = 12
            · rw [y12, x12]; rfl
            by_cases y13 : q = 13
            · rw [y13, x13]; rfl
            by_cases y14 : q = 14
            · rw [y14, x14]; rfl
            rw [why_o (by omega)]
            by_cases y6 : q = 6
            · rw [y6, x6, in1_s]
            · rw [in1_o y6, rd4 _ (by omega) (by omega) (by omega)]
              exact r1 q (by unfold hd_; omega)
          · have q1 : q < why_ (in1_ 6 (zs_ Z)) which key i (va_ (xu_ (aTX_ (zT_ Z) i)) row) (rfi_ (aTl_ (zT_ Z)) key row (aTX_ (zT_ Z) i)) (sp_ (aTl_ (zT_ Z) (rfi_ (aTl_ (zT_ Z)) key row (aTX_ (zT_ Z) i)).toNat)) 20 := q1
            rw [why_o (by omega), in1_o (by omega)] at q1
            rw [rd4 _ (by omega) (by omega) (by omega)]
            exact r2 q q0 q1
          · have := j.2.2 q q0 q1
            exact mC_cg (fun c z0 z1 => rd4 c (by omega) (by omega) (by omega)) this.2.1.2 this.2.2.2.2 (r3 q q0 q1)
      · rw [if_neg hw]
        refine ⟨fun w => absurd rfl w, fun _ => next ?_⟩
        refine if_neg (fun w => w.2.2 ?_)
        exact if_neg hw
  exact L 0 (by omega) (Int.le_refl _) rfl
/-- a change -/
noncomputable def cg_ (key col num : Int) (Z : ab_Z) : ab_Z := match aTl_ (zT_ Z) key.toNat with
  | some p => if p.2 = -1 then rf0_ 1 key Z else pt_ 1 key (chg_ p.2 col num) Z
  | none => rf0_ 1 key Z
def ca_ (key col num : Int) (Z : ab_Z) : Int := match aTl_ (zT_ Z) key.toNat with
  | some p => if p.2 = -1 then -1 else pa_ key (chg_ p.2 col num) Z
  | none => -1
theorem cg_no {key col num : Int} {Z : ab_Z} (h : aTl_ (zT_ Z) key.toNat = none ∨ ∃ s, aTl_ (zT_ Z) key.toNat = some (s, -1)) : cg_ key col num Z = rf0_ 1 key Z ∧ ca_ key col num Z = -1 := by
  unfold cg_ ca_
  rcases h with e | ⟨s, e⟩
  · rw [e]; exact ⟨rfl, rfl⟩
  · rw [e]; exact ⟨if_pos rfl, if_pos rfl⟩
theorem cg_yes {key col num : Int} {Z : ab_Z} {p : Int × Int} (h : aTl_ (zT_ Z) key.toNat = some p) (hp : p.2 ≠ -1) : cg_ key col num Z = pt_ 1 key (chg_ p.2 col num) Z ∧ ca_ key col num Z = pa_ key (chg_ p.2 col num) Z := by
  unfold cg_ ca_
  rw [h]
  exact ⟨if_neg hp, if_neg hp⟩
theorem jZ_rf0 {bd which key : Int} {Z : ab_Z} (k : jZ_ bd Z) : jZ_ (bd + 1) (rf0_ which key Z) := jZ_why k
theorem jZ_cg {bd key col num : Int} {Z : ab_Z} (hk : 0 ≤ key ∧ key < 32) (hc : 0 ≤ col ∧ col < 4) (hn : 0 ≤ num ∧ num < 16) (hbd : bd < 900000000) (k : jZ_ bd Z) : jZ_ (bd + 400) (cg_ key col num Z) := by
  have hr := lk_rows k.1.1 key.toNat
  cases hp : aTl_ (zT_ Z) key.toNat with
  | none => rw [(cg_no (Or.inl hp)).1]; exact jZ_up (by omega) (jZ_rf0 k)
  | some p =>
    by_cases z : p.2 = -1
    · have e : p = (p.1, -1) := Prod.ext rfl z
      rw [(cg_no (Or.inr ⟨p.1, hp.trans (congrArg some e)⟩)).1]
      exact jZ_up (by omega) (jZ_rf0 k)
    · rw [(cg_yes hp z).1]
      have := (hr p hp).1.resolve_left z
      exact jZ_pt hk (chg_in this hc hn) hbd k
theorem ct_S_cg {s : Nat} {bd key col num : Int} {Z : ab_Z} {M : mm_M} {R : Int → mm_M → Prop} (hs : sk_ s) (hk : 0 ≤ key ∧ key < 32) (hc : 0 ≤ col ∧ col < 4) (hn : 0 ≤ num ∧ num < 16) (hbd : bd < 800000000) (k : cZ_ M s Z) (j : jZ_ bd Z)
    (h : ∀ M', fr_ (sp3_ s) M M' → cZ_ M' s (cg_ key col num Z) → R (ca_ key col num Z) M') : nc_Store_changed s key col num M ∧ nr_Store_write s 1 key (nf_Store_changed s key col num M) M R := by
  have hl := k.1.1.2.1.1
  obtain ⟨nc, hth⟩ := nf_isThere (M := M) (v := s + 7) hk
  have e4 : cv_ M (s + 7) = aTl_ (zT_ Z) := hl
  refine ⟨⟨nc, fun _ => hk⟩, ?_⟩
  unfold nf_Store_changed
  rcases hth with ⟨w, y⟩ | ⟨w, p, w1, w2, w3, w4⟩
  · rw [w, if_neg (fun z => z rfl)]
    rw [e4] at y
    obtain ⟨e1, e2⟩ := cg_no (col := col) (num := num) y
    rw [e1, e2] at h
    exact ct_S_ref0 (by decide) hbd k j h
  · rw [w, if_pos (by decide)]
    rw [e4] at w1
    obtain ⟨e1, e2⟩ := cg_yes (col := col) (num := num) w1 w2
    rw [e1, e2] at h
    have hr := ((lk_rows j.1.1 key.toNat p w1).1).resolve_left w2
    have e5 : nn_ri M (s + 8) key = p.2 := w3
    rw [e5, chg_class hr hc hn]
    exact ct_S_put hs (by decide) hk (chg_in hr hc hn) hbd k j h
theorem ct_M_cg {b bd key col num : Int} {Z : ab_Z} {M : mm_M} {R : Int → mm_M → Prop} (hb : bk_ b) (hk : 0 ≤ key ∧ key < 32) (hc : 0 ≤ col ∧ col < 4) (hn : 0 ≤ num ∧ num < 16) (hbd : 0 ≤ bd ∧ bd < 800000000) (k : mY_ bd M b Z) (j : jZ_ bd Z)
    (h : ∀ M', fr_ (mz_ b) M M' → mY_ (bd + 25) M' b (cg_ key col num Z) → R (ca_ key col num Z) M') : nr_M_changes b key col num M R := by
  have hb' := hb
  unfold bk_ at hb'
  have hrow := lk_rows j.1.1 key.toNat
  refine ng_M_changes _ _ _ _ _ _ ?_
  refine ct_M_isThere hb hk k.1.1.1 ?_
  by_cases z : ∃ p, aTl_ (zT_ Z) key.toNat = some p ∧ p.2 ≠ -1
  · obtain ⟨p, hp, hz⟩ := z
    have hr := (hrow p hp).1.resolve_left hz
    have e0 : th_ (lk_ (aTm_ (zT_ Z)) (aTn_ (zT_ Z)) (aTq_ (zT_ Z)) key.toNat) = true := by
      rw [show lk_ (aTm_ (zT_ Z)) (aTn_ (zT_ Z)) (aTq_ (zT_ Z)) key.toNat = some p from hp]
      exact decide_eq_true hr.1
    rw [if_pos e0]
    refine ⟨fun _ => ?_, fun w => absurd w (by decide)⟩
    refine ct_M_rowOf hb hk k.1.1.1 hp ?_
    rw [chg_model hr hc hn]
    obtain ⟨e1, e2⟩ := cg_yes (col := col) (num := num) hp hz
    rw [e1, e2] at h
    exact ct_M_puts hb hk (chg_in hr hc hn) hbd k j h
  · have hno : aTl_ (zT_ Z) key.toNat = none ∨ ∃ s, aTl_ (zT_ Z) key.toNat = some (s, -1) := by
      cases hp : aTl_ (zT_ Z) key.toNat with
      | none => exact Or.inl rfl
      | some p =>
        refine Or.inr ⟨p.1, ?_⟩
        have : p.2 = -1 := by
          by_cases w : p.2 = -1
          · exact w
          · exact absurd ⟨p, hp, w⟩ z
        rw [← this]
    have e0 : ¬ th_ (lk_ (aTm_ (zT_ Z)) (aTn_ (zT_ Z)) (aTq_ (zT_ Z)) key.toNat) = true := by
      rcases hno with e | ⟨s, e⟩
      · rw [show lk_ (aTm_ (zT_ Z)) (aTn_ (zT_ Z)) (aTq_ (zT_ Z)) key.toNat = none from e]
        exact Bool.false_ne_true
      · rw [show lk_ (aTm_ (zT_ Z)) (aTn_ (zT_ Z)) (aTq_ (zT_ Z)) key.toNat = some (s, -1) from e]
        exact of_decide_eq_false (by rfl)
    rw [if_neg e0]
    refine ⟨fun w => absurd rfl w, fun _ => ?_⟩
    rw [mm_w_id (x := b + 6) (by omega)]
    refine ⟨by omega, by omega, ?_⟩
    intro M1 eM1
    refine ct_M_whys hb (fun M2 f2 v0 v1 v2 v3 v4 v5 => ?_)
    obtain ⟨e1, e2⟩ := cg_no (col := col) (num := num) hno
    rw [e1, e2] at h
    obtain ⟨⟨kt, kr⟩, g0, g1⟩ := k
    have f4 : fr_ (fun o c => o = 408 ∧ ((c : Int) = b + 6 ∨ (b + 9 ≤ (c : Int) ∧ (c : Int) < b + 15))) M M2 := by
      refine fr_trans ?_ (fr_mono f2 (fun o c y => ⟨y.1, Or.inr y.2⟩))
      rw [eM1]
      exact fr_ui (fr_refl M) ⟨rfl, by omega⟩
    have rd4 : ∀ c, b ≤ c → c ≠ b + 6 → (c < b + 9 ∨ b + 15 ≤ c) → nn_ri M2 408 c = nn_ri M 408 c := fun c z0 z1 z2 => fr_ri f4 (fun y => by have := y.2; omega)
    have x6 : nn_ri M2 408 (b + 6) = zs_ Z 6 + 1 := by
      have := j.2.1.2.2.1
      rw [fr_ri f2 (fun y => by have := y.2; omega), eM1, rd_ii, if_pos ⟨rfl, rfl⟩, kr.1 6 (by unfold hd_; omega), mm_w_id (by omega)]
    refine h M2 (fr_mono f4 (fun o c y => ⟨y.1, by have := y.2; omega⟩)) ⟨⟨mT_fr f4 hb (fun c z0 y => by have := y.2; unfold mcore_ at z0; omega) kt, ?_⟩, by rw [rd4 _ (by omega) (by omega) (by omega)]; omega, by rw [rd4 _ (by omega) (by omega) (by omega)]; omega⟩
    obtain ⟨r1, r2, r3⟩ := kr
    have jl := j.2.1
    refine ⟨fun q hq => ?_, fun q q0 q1 => ?_, fun q q0 q1 => ?_⟩
    · unfold hd_ at hq
      show nn_ri M2 408 (b + q) = why_ (in1_ 6 (zs_ Z)) 1 key (-1) (-1) (-1) (-1) q
      by_cases y9 : q = 9
      · rw [y9, v0]; rfl
      by_cases y10 : q = 10
      · rw [y10, v1]; rfl
      by_cases y11 : q = 11
      · rw [y11, v2]; rfl
      by_cases y12 : q = 12
      · rw [y12, v3]; rfl
      by_cases y13 : q = 13
      · rw [y13, v4]; rfl
      by_cases y14 : q = 14
      · rw [y14, v5]; rfl
      rw [why_o (by omega)]
      by_cases y6 : q = 6
      · rw [y6, x6, in1_s]
      · rw [in1_o y6, rd4 _ (by omega) (by omega) (by omega)]
        exact r1 q (by unfold hd_; omega)
    · have q1 : q < why_ (in1_ 6 (zs_ Z)) 1 key (-1) (-1) (-1) (-1) 20 := q1
      rw [why_o (by omega), in1_o (by omega)] at q1
      rw [rd4 _ (by omega) (by omega) (by omega)]
      exact r2 q q0 q1
    · have := j.2.2 q q0 q1
      exact mC_cg (fun c z0 z1 => rd4 c (by omega) (by omega) (by omega)) this.2.1.2 this.2.2.2.2 (r3 q q0 q1)
