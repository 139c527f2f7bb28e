/-! the whole state of a store, of a block; what is refused -/
abbrev ab_D : Type := ab_C × (Int → Int)
abbrev ab_Z : Type := (Int → Int) × ab_T × (Int → ab_D) × (Int → Int)
abbrev zs_ (Z : ab_Z) : Int → Int := Z.1
abbrev zT_ (Z : ab_Z) : ab_T := Z.2.1
abbrev zC_ (Z : ab_Z) : Int → ab_D := Z.2.2.1
abbrev zf_ (Z : ab_Z) : Int → Int := Z.2.2.2
/-- why the last one was refused, as the class has it: -1, if none was -/
def wy_ (sc : Int → Int) (i : Int) : Int := if sc 9 = -1 then -1 else sc (9 + i)
theorem wy_cg {sc sc' : Int → Int} {i : Int} (h9 : sc' 9 = sc 9) (h : sc' (9 + i) = sc (9 + i)) : wy_ sc' i = wy_ sc i := by
  unfold wy_
  rw [h9, h]
/-- what the class's store has beside the core: ROOM, FAN, counts, FAULT; WHY; COST; the tape; cursors -/
def cR_ (M : mm_M) (s : Nat) (sc : Int → Int) (C : Int → ab_D) (f : Int → Int) : Prop := (nn_rf M s 7 = sc 3 ∧ nn_rf M s 8 = sc 4 ∧ nn_rf M s 11 = sc 6 ∧ nn_rf M s 12 = sc 7 ∧ nn_rf M s 9 = sc 21 ∧ nn_rf M s 10 = sc 22) ∧ (∀ i, 0 ≤ i → i < 6 → nn_ri M (s + 88) i = wy_ sc i) ∧ (nn_rf M (s + 87) 0 = sc 15 ∧ nn_rf M (s + 87) 1 = sc 16 ∧ nn_rf M (s + 87) 2 = sc 17 ∧ nn_rf M (s + 87) 3 = sc 18 ∧ nn_rf M (s + 87) 4 = sc 19) ∧ tp_ M (s + 1) (sc 20) f ∧ ∀ i, 0 ≤ i → i < 3 → cu2_ M (s + 150 + 3 * i.toNat) (C i).1
def cZ_ (M : mm_M) (s : Nat) (Z : ab_Z) : Prop := cT_ M s (zT_ Z) ∧ cR_ M s (zs_ Z) (zC_ Z) (zf_ Z)
def mC_ (M : mm_M) (y : Int) (D : ab_D) : Prop := nn_ri M 408 y = D.1.1 ∧ nn_ri M 408 (y + 1) = D.1.2.1 ∧ nn_ri M 408 (y + 2) = D.1.2.2.1 ∧ (∀ i, 0 ≤ i → i < D.1.2.1 → nn_ri M 408 (y + 3 + i) = D.1.2.2.2.1 i) ∧ nn_ri M 408 (y + 35) = D.1.2.2.2.2.1 ∧ ∀ i, 0 ≤ i → i < D.1.2.2.2.2.1 → nn_ri M 408 (y + 36 + i) = D.2 i
def hd_ (k : Int) : Prop := k = 3 ∨ k = 4 ∨ k = 6 ∨ k = 7 ∨ (9 ≤ k ∧ k ≤ 22)
def mR_ (M : mm_M) (b : Int) (sc : Int → Int) (C : Int → ab_D) (f : Int → Int) : Prop := (∀ k, hd_ k → nn_ri M 408 (b + k) = sc k) ∧ (∀ i, 0 ≤ i → i < sc 20 → nn_ri M 408 (b + 88 + i) = f i) ∧ ∀ i, 0 ≤ i → i < 3 → mC_ M (b + 5204 + 90 * i) (C i)
def mZ_ (M : mm_M) (b : Int) (Z : ab_Z) : Prop := mT_ M b (zT_ Z) ∧ mR_ M b (zs_ Z) (zC_ Z) (zf_ Z)
/-- the cells of what is beside the core -/
def crr_ (s o b : Nat) : Prop := (o = s ∧ 7 ≤ b ∧ b ≤ 12) ∨ o = s + 1 ∨ o = s + 2 ∨ o = s + 87 ∨ o = s + 88 ∨ (s + 150 ≤ o ∧ o < s + 159)
theorem cR_fr {P : Nat → Nat → Prop} {M M' : mm_M} (h : fr_ P M M') {s : Nat} {sc : Int → Int} {C : Int → ab_D} {f : Int → Int} (hv : ∀ o b, crr_ s o b → ¬ P o b) (k : cR_ M s sc C f) : cR_ M' s sc C f := by
  obtain ⟨⟨a1, a2, a3, a4, a5, a6⟩, b, ⟨c1, c2, c3, c4, c5⟩, d, e⟩ := k
  have rf : ∀ o b, crr_ s o b → nn_rf M' o b = nn_rf M o b := fun o b z => fr_rf h (hv o b z)
  refine ⟨⟨(rf _ _ (by unfold crr_; omega)).trans a1, (rf _ _ (by unfold crr_; omega)).trans a2, (rf _ _ (by unfold crr_; omega)).trans a3, (rf _ _ (by unfold crr_; omega)).trans a4, (rf _ _ (by unfold crr_; omega)).trans a5, (rf _ _ (by unfold crr_; omega)).trans a6⟩, fun i i0 i1 => (fr_ri h (hv _ _ (by unfold crr_; omega))).trans (b i i0 i1), ⟨(rf _ _ (by unfold crr_; omega)).trans c1, (rf _ _ (by unfold crr_; omega)).trans c2, (rf _ _ (by unfold crr_; omega)).trans c3, (rf _ _ (by unfold crr_; omega)).trans c4, (rf _ _ (by unfold crr_; omega)).trans c5⟩, tp_fr h (fun o b z z2 => hv o b (by unfold crr_; omega)) d, fun i i0 i1 => cu2_fr h (fun o b z z2 => hv o b (by unfold crr_; omega)) (e i i0 i1)⟩
theorem cT_fr {P : Nat → Nat → Prop} {M M' : mm_M} (h : fr_ P M M') {s : Nat} {T : ab_T} (hv : ∀ o b, sw_ s o b → ¬ P o b) (k : cT_ M s T) : cT_ M' s T := by
  obtain ⟨kt, ⟨k6, k7, k8⟩, kX⟩ := k
  exact ⟨tb_fr h (fun o b z _ => hv o b (by unfold tr_ at z; unfold sw_; omega)) kt, ⟨(fr_rf h (hv _ _ (by unfold sw_; omega))).trans k6, (fr_rf h (hv _ _ (by unfold sw_; omega))).trans k7, (fr_rf h (hv _ _ (by unfold sw_; omega))).trans k8⟩, cXs_fr h (fun o b z z2 => hv o b (by unfold sw_; omega)) kX⟩
theorem sw_crr {s o b : Nat} (h : crr_ s o b) : ¬ sw_ s o b := by unfold crr_ at h; unfold sw_; omega
theorem mC_cg {M M' : mm_M} {y : Int} {D : ab_D} (h : ∀ c, y ≤ c → c < y + 90 → nn_ri M' 408 c = nn_ri M 408 c) (hm : D.1.2.1 ≤ 32) (hh : D.1.2.2.2.2.1 ≤ 48) (k : mC_ M y D) : mC_ M' y D := by
  obtain ⟨k1, k2, k3, k4, k5, k6⟩ := k
  exact ⟨(h _ (by omega) (by omega)).trans k1, (h _ (by omega) (by omega)).trans k2, (h _ (by omega) (by omega)).trans k3, fun i i0 i1 => (h _ (by omega) (by omega)).trans (k4 i i0 i1), (h _ (by omega) (by omega)).trans k5, fun i i0 i1 => (h _ (by omega) (by omega)).trans (k6 i i0 i1)⟩
/-- cursors that can be -/
def cw_ (C : Int → ab_D) : Prop := ∀ i, 0 ≤ i → i < 3 → ((C i).1.1 = 0 ∨ (C i).1.1 = 1) ∧ (0 ≤ (C i).1.2.1 ∧ (C i).1.2.1 ≤ 32) ∧ (0 ≤ (C i).1.2.2.1 ∧ (C i).1.2.2.1 ≤ (C i).1.2.1) ∧ 0 ≤ (C i).1.2.2.2.2.1 ∧ (C i).1.2.2.2.2.1 ≤ 48
theorem mR_cg {M M' : mm_M} {b : Int} {sc : Int → Int} {C : Int → ab_D} {f : Int → Int} (h1 : ∀ c, b + 3 ≤ c → c < b + 23 → c ≠ b + 5 → c ≠ b + 8 → nn_ri M' 408 c = nn_ri M 408 c) (h2 : ∀ c, (b + 88 ≤ c ∧ c < b + 288) ∨ (b + 5204 ≤ c ∧ c < b + 5474) → nn_ri M' 408 c = nn_ri M 408 c) (hl : sc 20 ≤ 200) (hc : cw_ C) (k : mR_ M b sc C f) : mR_ M' b sc C f := by
  obtain ⟨k1, k2, k3⟩ := k
  refine ⟨fun k hk => (h1 _ (by unfold hd_ at hk; omega) (by unfold hd_ at hk; omega) (by unfold hd_ at hk; omega) (by unfold hd_ at hk; omega)).trans (k1 k hk), fun i i0 i1 => (h2 _ (by omega)).trans (k2 i i0 i1), fun i i0 i1 => ?_⟩
  have := hc i i0 i1
  exact mC_cg (fun c c0 c1 => h2 c (by omega)) this.2.1.2 this.2.2.2.2 (k3 i i0 i1)
theorem mR_mw {M M' : mm_M} {b : Int} {sc : Int → Int} {C : Int → ab_D} {f : Int → Int} (hb : bk_ b) (h : fr_ (mw_ b) M M') (hl : sc 20 ≤ 200) (hc : cw_ C) (k : mR_ M b sc C f) : mR_ M' b sc C f := by
  have hb' := hb
  unfold bk_ at hb'
  exact mR_cg (fun c z0 z1 z2 z3 => fr_ri h (fun y => by have := y.2; omega)) (fun c z => fr_ri h (fun y => by have := y.2; omega)) hl hc k
/-- WHY is told -/
def why_ (sc : Int → Int) (a0 a1 a2 a3 a4 a5 : Int) : Int → Int := fun k => if k = 9 then a0 else if k = 10 then a1 else if k = 11 then a2 else if k = 12 then a3 else if k = 13 then a4 else if k = 14 then a5 else sc k
def in1_ (a : Int) (sc : Int → Int) : Int → Int := fun k => if k = a then sc k + 1 else sc k
/-- the values that an index has of the keys -/
def xv_ (lat : ab_V) (X : ab_X) (k : Int) : Int := vk_ (xu_ X) (lat k.toNat)
def rfi_ (lat : ab_V) (key row : Int) (X : ab_X) : Int := if xh_ X = 2 ∧ xq_ X ≠ 0 ∧ va_ (xu_ X) row ≠ -1 then an_ (xv_ lat X) (va_ (xu_ X) row) key else -1
def rfx_ (lat : ab_V) (key row : Int) (Xs : Int → ab_X) : Int := ff_ (fun i => decide (rfi_ lat key row (Xs i) ≠ -1)) 4 0
theorem cR_why {M M' : mm_M} {s : Nat} {sc : Int → Int} {C : Int → ab_D} {f : Int → Int} {a0 a1 a2 a3 a4 a5 : Int} (ha : a0 ≠ -1) (h : fr_ (fun o _ => o = s + 88) M M') (h0 : nn_ri M' (s + 88) 0 = a0) (h1 : nn_ri M' (s + 88) 1 = a1) (h2 : nn_ri M' (s + 88) 2 = a2) (h3 : nn_ri M' (s + 88) 3 = a3) (h4 : nn_ri M' (s + 88) 4 = a4) (h5 : nn_ri M' (s + 88) 5 = a5) (k : cR_ M s sc C f) : cR_ M' s (why_ sc a0 a1 a2 a3 a4 a5) C f := by
  obtain ⟨⟨x1, x2, x3, x4, x5, x6⟩, b, ⟨c1, c2, c3, c4, c5⟩, d, e⟩ := k
  have rf : ∀ o b, o ≠ s + 88 → nn_rf M' o b = nn_rf M o b := fun o b z => fr_rf h z
  have w : ∀ k, (k < 9 ∨ 14 < k) → why_ sc a0 a1 a2 a3 a4 a5 k = sc k := by
    intro k hk
    unfold why_
    rw [if_neg (by omega), if_neg (by omega), if_neg (by omega), if_neg (by omega), if_neg (by omega), if_neg (by omega)]
  refine ⟨?_, fun i i0 i1 => ?_, ?_, ?_, fun i i0 i1 => cu2_fr h (fun o b z z2 z3 => by omega) (e i i0 i1)⟩
  · rw [w 3 (by omega), w 4 (by omega), w 6 (by omega), w 7 (by omega), w 21 (by omega), w 22 (by omega)]
    exact ⟨(rf _ _ (by omega)).trans x1, (rf _ _ (by omega)).trans x2, (rf _ _ (by omega)).trans x3, (rf _ _ (by omega)).trans x4, (rf _ _ (by omega)).trans x5, (rf _ _ (by omega)).trans x6⟩
  · have hi : i = 0 ∨ i = 1 ∨ i = 2 ∨ i = 3 ∨ i = 4 ∨ i = 5 := by omega
    have ew : wy_ (why_ sc a0 a1 a2 a3 a4 a5) i = why_ sc a0 a1 a2 a3 a4 a5 (9 + i) := if_neg ha
    rw [ew]
    rcases hi with z | z | z | z | z | z <;> subst z
    · exact h0
    · exact h1
    · exact h2
    · exact h3
    · exact h4
    · exact h5
  · rw [w 15 (by omega), w 16 (by omega), w 17 (by omega), w 18 (by omega), w 19 (by omega)]
    exact ⟨(rf _ _ (by omega)).trans c1, (rf _ _ (by omega)).trans c2, (rf _ _ (by omega)).trans c3, (rf _ _ (by omega)).trans c4, (rf _ _ (by omega)).trans c5⟩
  · rw [w 20 (by omega)]
    exact tp_fr h (fun o b z z2 z3 => by omega) d
theorem ct_S_tell {s : Nat} {w key : Int} {M : mm_M} {R : mm_M → Prop} (h : ∀ M', fr_ (fun o _ => o = s + 88) M M' → nn_ri M' (s + 88) 0 = w → nn_ri M' (s + 88) 1 = key → (∀ i, 2 ≤ i → i < 6 → nn_ri M' (s + 88) i = -1) → R M') : nr_Store_tell s w key M R := by
  refine ng_Store_tell _ _ _ _ _ ?_
  rintro _ rfl _ rfl
  have L : ∀ i : Int, i ≤ 6 → 2 ≤ i → ∀ M1, fr_ (fun o _ => o = s + 88) M M1 → nn_ri M1 (s + 88) 0 = w → nn_ri M1 (s + 88) 1 = key → (∀ j, 2 ≤ j → j < i → nn_ri M1 (s + 88) j = -1) → nk_Store_tell_16 s i M1 R := by
    refine lp_up (fun i hi ih i0 M1 f1 g0 g1 g2 => ?_)
    refine ng_Store_tell_16 _ _ _ _ ⟨fun c => h M1 f1 g0 g1 (fun j j0 j1 => g2 j j0 (by omega)), fun c => ⟨by omega, ?_⟩⟩
    rintro _ rfl
    rw [mm_w_id (x := i + 1) (by omega)]
    refine ih c (by omega) _ (fr_ui f1 rfl) ?_ ?_ (fun j j0 j1 => ?_)
    · rw [rd_ii, if_neg (by omega)]; exact g0
    · rw [rd_ii, if_neg (by omega)]; exact g1
    · rw [rd_ii]
      by_cases z : j = i
      · rw [if_pos ⟨rfl, by rw [z]⟩]
      · rw [if_neg (by omega)]; exact g2 j j0 (by omega)
  refine L 2 (by omega) (Int.le_refl _) _ (fr_ui (fr_ui (fr_refl M) rfl) rfl) ?_ ?_ (fun j j0 j1 => by omega)
  · rw [rd_ii, if_neg (by omega), rd_ii, if_pos ⟨rfl, rfl⟩]
  · rw [rd_ii, if_pos ⟨rfl, rfl⟩]
theorem an_xv {M : mm_M} {x : Nat} {lat : ab_V} {X : ab_X} (k : cX_ M x lat X) (h0 : xh_ X ≠ 0) {value but : Int} : an_ (nn_ri M (x + 14)) value but = an_ (xv_ lat X) value but := an_cg (fun i i0 i1 => by
  obtain ⟨_, _, _, _, _, vv⟩ := k.2.2 h0
  exact vv i i0 i1)
/-- a put of a row: refused, and told; or not -/
theorem ct_S_isRefused {s : Nat} {bd which key row : Int} {T : ab_T} {M : mm_M} {R : Int → mm_M → Prop} (k : cT_ M s T) (j : jT_ bd 64 11 T) (hk : 0 ≤ key ∧ key < 32) (hrow : 0 ≤ row ∧ row < 65536)
    (h0 : rfx_ (aTl_ T) key row (aTX_ T) = -1 → R 0 M) (h1 : ∀ i, rfx_ (aTl_ T) key row (aTX_ T) = i → i ≠ -1 → ∀ M', fr_ (fun o _ => o = s + 88) M M' → nn_ri M' (s + 88) 0 = which → nn_ri M' (s + 88) 1 = key → nn_ri M' (s + 88) 2 = i → nn_ri M' (s + 88) 3 = va_ (xu_ (aTX_ T i)) row → nn_ri M' (s + 88) 4 = rfi_ (aTl_ T) key row (aTX_ T i) → nn_ri M' (s + 88) 5 = sp_ (aTl_ T (rfi_ (aTl_ T) key row (aTX_ T i)).toNat) → R 1 M') : nr_Store_isRefused s which key row M R := by
  obtain ⟨kt, ⟨k6, k7, k8⟩, kX⟩ := k
  refine ng_Store_isRefused _ _ _ _ _ _ ⟨fun _ => ?_, fun z => by omega⟩
  have L : ∀ i : Int, i ≤ 4 → 0 ≤ i → rfx_ (aTl_ T) key row (aTX_ T) = ff_ (fun i => decide (rfi_ (aTl_ T) key row (aTX_ T i) ≠ -1)) (4 - i).toNat i → nk_Store_isRefused_16 s which key row i M R := by
    refine lp_up (fun i hi ih i0 hq => ?_)
    refine ng_Store_isRefused_16 _ _ _ _ _ _ _ ⟨fun c => ?_, fun c => ⟨⟨i0, c⟩, ?_⟩⟩
    · rw [show (4 - i).toNat = 0 by omega] at hq
      exact h0 hq
    have kx := kX i i0 c
    obtain ⟨kx0, _, kx1⟩ := kx
    rw [ff_up c i0] at hq
    rw [mm_w_id (x := i + 1) (by omega)]
    have next : rfi_ (aTl_ T) key row (aTX_ T i) = -1 → nk_Store_isRefused_16 s which key row (i + 1) M R := by
      intro z
      have e1 : decide (rfi_ (aTl_ T) key row (aTX_ T i) ≠ -1) = false := decide_eq_false (fun w => w z)
      rw [e1, if_neg (by decide)] at hq
      exact ih c (by omega) hq
    refine ⟨fun z => next ?_, fun z => ?_⟩
    · refine if_neg (fun w => ?_)
      rcases z with z | z
      · exact z (kx0.trans w.1)
      · obtain ⟨⟨a1, _⟩, _⟩ := kx1 (by rw [w.1]; decide)
        rw [a1] at z
        exact w.2.1 z
    · have hz : xh_ (aTX_ T i) ≠ 0 := by rw [← kx0, z.1]; decide
      obtain ⟨⟨a1, a2, a3, a4⟩, b, e1, e2, p, vv⟩ := kx1 hz
      obtain ⟨_, ⟨_, q2⟩, _⟩ := j.2.2.2.2 i i0 c hz
      refine ct_R_valueOf b q2 hrow ⟨fun y => ?_, fun y => next (if_neg (fun w => w.2.2 y))⟩
      refine ct_I_another ?_
      rw [an_xv (kX i i0 c) hz]
      have er : rfi_ (aTl_ T) key row (aTX_ T i) = an_ (xv_ (aTl_ T) (aTX_ T i)) (va_ (xu_ (aTX_ T i)) row) key := if_pos ⟨by rw [← kx0]; exact z.1, by rw [← a1]; exact z.2, y⟩
      rw [← er]
      refine ⟨next, fun y2 => ?_⟩
      have e1 : decide (rfi_ (aTl_ T) key row (aTX_ T i) ≠ -1) = true := decide_eq_true y2
      rw [e1, if_pos rfl] at hq
      rcases an_spec (xv_ (aTl_ T) (aTX_ T i)) (va_ (xu_ (aTX_ T i)) row) key with ⟨w, _⟩ | ⟨w0, w1, w2, w3, _⟩
      · rw [er] at y2; exact absurd w y2
      rw [← er] at w0 w1 w3
      refine ct_S_tell (fun M2 f2 g0 g1 g2 => ?_)
      refine ng_Store_tellBy _ _ _ _ _ _ ?_
      intro M3 e3 M4 e4 M5 e5
      refine ⟨⟨w0, w1⟩, ?_⟩
      intro M6 e6
      have f6 : fr_ (fun o _ => o = s + 88) M M6 := by
        rw [e6, e5, e4, e3]
        exact fr_ui (fr_ui (fr_ui (fr_ui f2 rfl) rfl) rfl) rfl
      refine h1 i hq (by omega) M6 f6 ?_ ?_ ?_ ?_ ?_ ?_
      · rw [e6, rd_ii, if_neg (by omega), e5, rd_ii, if_neg (by omega), e4, rd_ii, if_neg (by omega), e3, rd_ii, if_neg (by omega)]; exact g0
      · rw [e6, rd_ii, if_neg (by omega), e5, rd_ii, if_neg (by omega), e4, rd_ii, if_neg (by omega), e3, rd_ii, if_neg (by omega)]; exact g1
      · rw [e6, rd_ii, if_neg (by omega), e5, rd_ii, if_neg (by omega), e4, rd_ii, if_neg (by omega), e3, rd_ii, if_pos ⟨rfl, rfl⟩]
      · rw [e6, rd_ii, if_neg (by omega), e5, rd_ii, if_neg (by omega), e4, rd_ii, if_pos ⟨rfl, rfl⟩]
      · rw [e6, rd_ii, if_neg (by omega), e5, rd_ii, if_pos ⟨rfl, rfl⟩]
      · rw [e6, rd_ii, if_pos ⟨rfl, rfl⟩, e5, rd_ii, if_neg (by omega), e4, rd_ii, if_neg (by omega), e3, rd_ii, if_neg (by omega), fr_ri f2 (fun w => by omega)]
        generalize rfi_ (aTl_ T) key row (aTX_ T i) = o at w0 w1 w3 ⊢
        have hl := kt.2.1.1
        have w4 : xv_ (aTl_ T) (aTX_ T i) o ≠ -1 := by rw [w3]; exact y
        unfold xv_ at w4
        cases hp : aTl_ T o.toNat with
        | none => rw [hp] at w4; exact absurd rfl w4
        | some p =>
          have h2 := cv_rd (M := M) (v := s + 3 + 4) (k := o) ⟨w0, w1⟩ ((hs1 ⟨w0, w1⟩).mpr (by rw [hl, hp]; exact Option.some_ne_none p))
          rw [hl, hp] at h2
          have h3 := Option.some.inj h2
          rw [h3]
          show nn_ri M (s + 9) o = nn_ri M (s + 3 + 4 + 2) o
          rw [show s + 3 + 4 + 2 = s + 9 by omega]
  exact L 0 (by omega) (Int.le_refl _) rfl
