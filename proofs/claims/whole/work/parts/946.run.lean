/-! run, held, both sides -/
def vn_ (V : ab_V) (k : Nat) : Int := (cn_ (fun j => (V j).isSome) k : Nat)
theorem vn_s (V : ab_V) (k : Nat) : vn_ V (k + 1) = vn_ V k + (if (V k).isSome = true then 1 else 0) := by
  have e : vn_ V (k + 1) = ((cn_ (fun j => (V j).isSome) k + (if (V k).isSome = true then 1 else 0) : Nat) : Int) := rfl
  rw [e]
  unfold vn_
  split <;> omega
theorem vn_b (V : ab_V) (k : Nat) : 0 ≤ vn_ V k ∧ vn_ V k ≤ k := by
  have := cn_le (fun j => (V j).isSome) k
  unfold vn_
  omega
/-- the class's size -/
theorem cn_size {M : mm_M} {v : Nat} (n : Nat) : cn_ (bt_ (nn_rf M v 2)) n = cn_ (fun j => (cv_ M v j).isSome) n := cn_cg (fun k _ => (cv_some M v k).symm)
theorem nf_size {M : mm_M} {v : Nat} : nf_Versions_size v M = vn_ (cv_ M v) 32 := (pop (nn_rf M v 2)).trans (congrArg Nat.cast (cn_size 32))
/-- the i-th key -/
def kat_ (V : ab_V) (i : Int) : Int := ff_ (fun k => (V k.toNat).isSome && decide (vn_ V k.toNat = i)) 32 0
theorem ct_V_keyAt {v : Nat} {i : Int} {V : ab_V} {M : mm_M} {R : Int → mm_M → Prop} (hV : cv_ M v = V) (hi : 0 ≤ i ∧ i < 2147483648) (h : R (kat_ V i) M) : nr_Versions_keyAt v i M R := by
  refine ng_Versions_keyAt _ _ _ _ ?_
  have L : ∀ k : Int, k ≤ 32 → 0 ≤ k → vn_ V k.toNat ≤ i → kat_ V i = ff_ (fun k => (V k.toNat).isSome && decide (vn_ V k.toNat = i)) (32 - k).toNat k → nk_Versions_keyAt_4 v (i - vn_ V k.toNat) k M R := by
    refine lp_up (fun k hk ih k0 hle hq => ?_)
    have b := vn_b V k.toNat
    refine ng_Versions_keyAt_4 _ _ _ _ _ ⟨fun c => ?_, fun c => ?_⟩
    · rw [show (32 - k).toNat = 0 by omega] at hq
      rw [hq] at h
      exact h
    rw [ff_up c k0] at hq
    have ih := ih c
    have e := vn_s V k.toNat
    rw [show (k + 1).toNat = k.toNat + 1 by omega, e] at ih
    rw [mm_w_id (x := k + 1) (by omega)]
    refine ⟨fun z => ?_, fun z => ⟨fun y => ?_, fun y => ?_⟩⟩
    · have z := (hs0 ⟨k0, c⟩).mp z
      rw [hV] at z
      have z2 : (V k.toNat).isSome = false := by rw [z]; rfl
      rw [z2, Bool.false_and, if_neg (by decide)] at hq
      rw [z2, if_neg (by decide), Int.add_zero] at ih
      exact ih (by omega) (by omega) hq
    · have z := (hs1 ⟨k0, c⟩).mp z
      rw [hV] at z
      have z2 : (V k.toNat).isSome = true := Option.isSome_iff_ne_none.mpr z
      rw [z2] at hq ih
      rw [mm_w_id (x := i - vn_ V k.toNat + -1) (by omega)]
      rw [decide_eq_false (fun w => y (by omega)), Bool.true_and, if_neg (by decide)] at hq
      rw [if_pos rfl] at ih
      have ih := ih (by omega) (by omega) hq
      rw [show i - (vn_ V k.toNat + 1) = i - vn_ V k.toNat + -1 by omega] at ih
      exact ih
    · have z := (hs1 ⟨k0, c⟩).mp z
      rw [hV] at z
      have z2 : (V k.toNat).isSome = true := Option.isSome_iff_ne_none.mpr z
      rw [z2, decide_eq_true (show vn_ V k.toNat = i by omega), Bool.true_and, if_pos rfl] at hq
      rw [hq] at h
      exact h
  have L0 := L 0 (by omega) (Int.le_refl _) (by show vn_ V 0 ≤ i; have : vn_ V 0 = 0 := rfl; omega) rfl
  have e0 : vn_ V (0 : Int).toNat = 0 := rfl
  rw [e0, show i - 0 = i by omega] at L0
  exact L0
def ruk_ (r : Int) (Z : ab_Z) : Prop := 0 ≤ r ∧ r < aTn_ (zT_ Z)
def runa_ (r what : Int) (Z : ab_Z) : Int := if what = 0 then vn_ (aTq_ (zT_ Z) r).2.2.2.2.2 32 else if what = 1 then (aTq_ (zT_ Z) r).2.2.1 else if what = 2 then (aTq_ (zT_ Z) r).2.2.2.1 else if what = 3 then (aTq_ (zT_ Z) r).2.2.2.2.1 else if what = 4 then fo_2 (aTq_ (zT_ Z) r).2.2.2.2.2 32 else if 10 ≤ what then kat_ (aTq_ (zT_ Z) r).2.2.2.2.2 (what - 10) else -1
theorem ct_LI_run {bd r what : Int} {Z : ab_Z} {M : mm_M} {R : Int → mm_M → Prop} (hw : -2147483648 ≤ what ∧ what < 2147483648) (k : cZ_ M 2 Z) (j : jZ_ bd Z) (h1 : ruk_ r Z → R (runa_ r what Z) M) (h0 : ¬ ruk_ r Z → R (-1) M) : nr_LI_run r what M R := by
  have kt : tb_ M 5 (aTm_ (zT_ Z)) (aTl_ (zT_ Z)) (aTn_ (zT_ Z)) (aTq_ (zT_ Z)) := k.1.1
  have hn := j.1.2.1
  have e5 : nn_rf M 5 5 = aTn_ (zT_ Z) := kt.2.2.1.1
  refine ng_LI_run _ _ _ _ ?_
  rw [e5]
  refine ⟨fun z => by omega, fun z => h0 (fun w => by unfold ruk_ at w; omega), fun z => ?_⟩
  have h1 := h1 z
  obtain ⟨r1, r2, r3, r4, r5, r6⟩ := kt.2.2.2.2 r z.1 z.2
  have r2 : nn_ri M 13 r = (aTq_ (zT_ Z) r).2.2.1 := r2
  have r3 : nn_rf M (nn_rr M 12 r) 3 = (aTq_ (zT_ Z) r).2.2.2.1 := r3
  have r4 : nn_rf M (nn_rr M 12 r) 4 = (aTq_ (zT_ Z) r).2.2.2.2.1 := r4
  have r5 : cv_ M (nn_rr M 12 r) = (aTq_ (zT_ Z) r).2.2.2.2.2 := r5
  unfold runa_ at h1
  rw [r2, r3, r4, nf_size, nf_filter, r5]
  refine ⟨fun y => ?_, fun y => ⟨by omega, ?_⟩, fun y => ?_, fun y => ?_, fun y => ?_, fun y => ⟨fun y2 => ?_, fun y2 => ?_⟩⟩
  · rw [if_pos y] at h1; exact h1
  · rw [if_neg (c := what = 0) (by omega), if_pos y] at h1; exact h1
  · rw [if_neg (c := what = 0) (by omega), if_neg (c := what = 1) (by omega), if_pos y] at h1; exact h1
  · rw [if_neg (c := what = 0) (by omega), if_neg (c := what = 1) (by omega), if_neg (c := what = 2) (by omega), if_pos y] at h1; exact h1
  · rw [if_neg (c := what = 0) (by omega), if_neg (c := what = 1) (by omega), if_neg (c := what = 2) (by omega), if_neg (c := what = 3) (by omega), if_pos y] at h1; exact h1
  · rw [if_neg (c := what = 0) (by omega), if_neg (c := what = 1) (by omega), if_neg (c := what = 2) (by omega), if_neg (c := what = 3) (by omega), if_neg (c := what = 4) (by omega), if_neg (by omega)] at h1; exact h1
  · rw [if_neg (c := what = 0) (by omega), if_neg (c := what = 1) (by omega), if_neg (c := what = 2) (by omega), if_neg (c := what = 3) (by omega), if_neg (c := what = 4) (by omega), if_pos y2] at h1
    rw [mm_w_id (x := what - 10) (by omega)]
    exact ct_V_keyAt r5 ⟨by omega, by omega⟩ h1
theorem ct_M_run {bd r what : Int} {Z : ab_Z} {M : mm_M} {R : Int → mm_M → Prop} (hw : -2147483648 ≤ what ∧ what < 2147483648) (k : mY_ bd M 0 Z) (j : jZ_ bd Z) (h1 : ruk_ r Z → R (runa_ r what Z) M) (h0 : ¬ ruk_ r Z → R (-1) M) : nr_M_run r what M R := by
  have t : tM_ M 0 (aTm_ (zT_ Z)) (aTn_ (zT_ Z)) (aTq_ (zT_ Z)) := k.1.1.1
  have hn := j.1.2.1
  have e5 : nn_ri M 408 5 = aTn_ (zT_ Z) := t.2.2.1.1
  refine ng_M_run _ _ _ _ ?_
  rw [e5, k_in, k_in0, mm_w_id (x := aTn_ (zT_ Z) - 1) (by omega)]
  by_cases hr : ruk_ r Z
  · have h1 := h1 hr
    unfold ruk_ at hr
    by_cases hw0 : what < 0
    · refine ⟨fun _ => ?_, fun z => by omega⟩
      unfold runa_ at h1
      rw [if_neg (c := what = 0) (by omega), if_neg (c := what = 1) (by omega), if_neg (c := what = 2) (by omega), if_neg (c := what = 3) (by omega), if_neg (c := what = 4) (by omega), if_neg (by omega)] at h1
      exact h1
    refine ⟨fun z => by omega, fun z => ?_⟩
    obtain ⟨r1, r2, r3, r4, r5, r6⟩ := t.2.2.2 r hr.1 hr.2
    rw [nf_runAt bk_0 ⟨by omega, by omega⟩]
    have L : ∀ q : Int, q ≤ 32 → 0 ≤ q → (10 ≤ what → kat_ (aTq_ (zT_ Z) r).2.2.2.2.2 (what - 10) = ff_ (fun k => ((aTq_ (zT_ Z) r).2.2.2.2.2 k.toNat).isSome && decide (vn_ (aTq_ (zT_ Z) r).2.2.2.2.2 k.toNat = what - 10)) (32 - q).toNat q) → nk_M_run_34 r what (0 + 288 + 68 * r) (vn_ (aTq_ (zT_ Z) r).2.2.2.2.2 q.toNat) q M R := by
      refine lp_up (fun q hq ih q0 hk => ?_)
      have b := vn_b (aTq_ (zT_ Z) r).2.2.2.2.2 q.toNat
      refine ng_M_run_34 _ _ _ _ _ _ _ ⟨fun c => ?_, fun c => ?_⟩
      · have eq : q.toNat = 32 := by omega
        unfold runa_ at h1
        refine ⟨fun y0 => ⟨fun y4 => ⟨fun y => ?_, fun y => ?_⟩, fun y4 => ?_⟩, fun y0 => ?_⟩
        · rw [if_neg (c := what = 0) (by omega), if_neg (c := what = 1) (by omega), if_neg (c := what = 2) (by omega), if_neg (c := what = 3) (by omega), if_neg (c := what = 4) (by omega)] at h1
          by_cases y10 : 10 ≤ what
          · rw [if_pos y10, hk y10, show (32 - q).toNat = 0 by omega] at h1
            exact h1
          · rw [if_neg y10] at h1; exact h1
        · rw [mm_w_id (x := 0 + 288 + 68 * r + what) (by omega)]
          refine ⟨by omega, ?_⟩
          have yw : what = 1 ∨ what = 2 ∨ what = 3 := by omega
          rcases yw with yw | yw | yw
          · rw [if_neg (c := what = 0) (by omega), if_pos yw] at h1
            rw [yw, r2]; exact h1
          · rw [if_neg (c := what = 0) (by omega), if_neg (c := what = 1) (by omega), if_pos yw] at h1
            rw [yw, r3]; exact h1
          · rw [if_neg (c := what = 0) (by omega), if_neg (c := what = 1) (by omega), if_neg (c := what = 2) (by omega), if_pos yw] at h1
            rw [yw, r4]; exact h1
        · rw [if_neg (c := what = 0) (by omega), if_neg (c := what = 1) (by omega), if_neg (c := what = 2) (by omega), if_neg (c := what = 3) (by omega), if_pos y4] at h1
          exact ct_M_filter rfl t hr h1
        · rw [if_pos y0] at h1
          rw [eq]; exact h1
      · have ih := ih c (by omega)
        have e := vn_s (aTq_ (zT_ Z) r).2.2.2.2.2 q.toNat
        rw [show (q + 1).toNat = q.toNat + 1 by omega, e] at ih
        have hs := mv_some (M := M) (x := 0 + 288 + 68 * r + 4) ⟨q0, c⟩
        rw [r5] at hs
        have hp := r6 q q0 c
        rw [mm_w_id (x := 0 + 288 + 68 * r + 4) (by omega), mm_w_id (x := 0 + 288 + 68 * r + 4 + q) (by omega), mm_w_id (x := q + 1) (by omega), mm_w_id (x := what - 10) (by omega), mm_w_id (x := vn_ (aTq_ (zT_ Z) r).2.2.2.2.2 q.toNat + 1) (by omega)]
        refine ⟨by omega, fun y => ?_, fun y => ?_⟩
        · rw [decide_eq_true (by omega)] at hs
          rw [hs, if_pos rfl] at ih
          refine ⟨fun y2 => ih (fun y10 => ?_), fun y2 => ?_⟩
          · have hk := hk y10
            rw [ff_up c q0, hs, decide_eq_false (fun w => y2 w.symm), Bool.true_and, if_neg (by decide)] at hk
            exact hk
          · have y10 : 10 ≤ what := by omega
            have hk := hk y10
            rw [ff_up c q0, hs, decide_eq_true y2.symm, Bool.true_and, if_pos rfl] at hk
            unfold runa_ at h1
            rw [if_neg (c := what = 0) (by omega), if_neg (c := what = 1) (by omega), if_neg (c := what = 2) (by omega), if_neg (c := what = 3) (by omega), if_neg (c := what = 4) (by omega), if_pos y10, hk] at h1
            exact h1
        · rw [decide_eq_false (by omega)] at hs
          rw [hs, if_neg (by decide)] at ih
          have ih := ih (fun y10 => by
            have hk := hk y10
            rw [ff_up c q0, hs, Bool.false_and, if_neg (by decide)] at hk
            exact hk)
          rw [show vn_ (aTq_ (zT_ Z) r).2.2.2.2.2 q.toNat + 0 = vn_ (aTq_ (zT_ Z) r).2.2.2.2.2 q.toNat by omega] at ih
          exact ih
    exact L 0 (by omega) (Int.le_refl _) (fun _ => rfl)
  · have h0 := h0 hr
    exact ⟨fun _ => h0, fun z => absurd (show ruk_ r Z from ⟨z.1.1, by omega⟩) hr⟩
/-- held -/
def osx_ (X : ab_X) : Int := if xh_ X = 0 then -1 else os_ (xh_ X) (xb_ X) (xn_ X) (xg_ X)
def hok_ (key : Int) (Z : ab_Z) : Prop := (0 ≤ key ∧ key < 32) ∧ aTl_ (zT_ Z) key.toNat ≠ none ∧ th_ (aTl_ (zT_ Z) key.toNat) = false
def hela_ (key : Int) (Z : ab_Z) : Int := ff_ (fun i => decide (osx_ (aTX_ (zT_ Z) i) ≠ -1 ∧ osx_ (aTX_ (zT_ Z) i) < sp_ (aTl_ (zT_ Z) key.toNat))) 4 0
theorem osx_0 {X : ab_X} (h : xh_ X = 0) : osx_ X = -1 := if_pos h
theorem osx_1 {X : ab_X} (h : xh_ X ≠ 0) : osx_ X = os_ (xh_ X) (xb_ X) (xn_ X) (xg_ X) := if_neg h
theorem ct_I_osx {M : mm_M} {x : Nat} {lat : ab_V} {X : ab_X} {R : Int → mm_M → Prop} (k : cX_ M x lat X) (h0 : xh_ X ≠ 0) (h : R (osx_ X) M) : nr_Index_sure x M R := by
  obtain ⟨⟨a1, a2, a3, a4⟩, b1, b2, b3, b4, b5⟩ := k.2.2 h0
  refine ct_I_sure b4 ?_
  rw [k.1, a3]
  rw [osx_1 h0] at h
  exact h
theorem ct_M_osx {b i st since lvb sb nb : Int} {mem lat : ab_V} {X : ab_X} {M : mm_M} {R : Int → mm_M → Prop} (hb : bk_ b) (hi : 0 ≤ i ∧ i < 4) (k : mX_ M (xi_ b i) X) (j : jX_ st since lvb sb nb mem lat X) (hz : xh_ X ≠ 0) (h : R (osx_ X) M) : nr_M_oldest b i M R := by
  obtain ⟨⟨a1, a2, a3, a4⟩, b1, c1, d, e⟩ := k.2 hz
  obtain ⟨⟨_, _, _, q1, _⟩, _, ⟨_, q2⟩, _⟩ := j hz
  rw [osx_1 hz] at h
  exact ct_M_oldest (how := xh_ X) (begun := xb_ X) (n := xn_ X) (g := xg_ X) hb hi ⟨k.1, fun _ => ⟨a3, q1.1, d, fun r r0 r1 => (q2 r r0 r1).1.1⟩⟩ hz h
theorem ct_LI_held {bd key : Int} {Z : ab_Z} {M : mm_M} {R : Int → mm_M → Prop} (k : cZ_ M 2 Z) (j : jZ_ bd Z) (h1 : hok_ key Z → R (hela_ key Z) M) (h0 : ¬ hok_ key Z → R (-1) M) : nr_LI_held key M R := by
  refine ng_LI_held _ _ _ ⟨fun z => h0 (fun w => absurd z (k_key.mpr w.1)), fun z => ?_⟩
  have hk := k_key.mp z
  have hl : cv_ M 9 = aTl_ (zT_ Z) := k.1.1.2.1.1
  refine ng_Store_heldBy _ _ _ _ ?_
  obtain ⟨nc, hth⟩ := nf_isThere (M := M) (v := 2 + 7) hk
  have e9 : cv_ M (2 + 7) = aTl_ (zT_ Z) := hl
  rw [e9] at hth
  have h2 := hs0 (M := M) (v := 2 + 7) hk
  rw [e9] at h2
  refine ⟨fun _ => nc, fun y => h0 (fun w => ?_), fun y => ?_⟩
  · rcases y with y | y
    · exact w.2.1 (h2.mp y)
    · rcases hth with ⟨t0, _⟩ | ⟨t0, p, t1, t2, _⟩
      · exact y t0
      · have e := w.2.2
        rw [t1] at e
        have e := of_decide_eq_false (p := 0 ≤ p.2) e
        have := lk_rows j.1.1 key.toNat p t1
        omega
  · have hne : aTl_ (zT_ Z) key.toNat ≠ none := fun w => y.1 (h2.mpr w)
    have hf : th_ (aTl_ (zT_ Z) key.toNat) = false := by
      rcases hth with ⟨_, t1 | ⟨s, t1⟩⟩ | ⟨t0, _⟩
      · exact absurd t1 hne
      · rw [t1]; rfl
      · rw [y.2] at t0; exact absurd t0 (by decide)
    have h1 := h1 ⟨hk, hne, hf⟩
    have L : ∀ i : Int, i ≤ 4 → 0 ≤ i → hela_ key Z = ff_ (fun i => decide (osx_ (aTX_ (zT_ Z) i) ≠ -1 ∧ osx_ (aTX_ (zT_ Z) i) < sp_ (aTl_ (zT_ Z) key.toNat))) (4 - i).toNat i → nk_Store_heldBy_28 2 key (2 + 7) i M R := by
      refine lp_up (fun i hi ih i0 hq => ?_)
      refine ng_Store_heldBy_28 _ _ _ _ _ _ ⟨fun c => ?_, fun c => ⟨⟨i0, c⟩, ?_⟩⟩
      · rw [show (4 - i).toNat = 0 by omega] at hq
        rw [hq] at h1; exact h1
      rw [ff_up c i0] at hq
      have kx := k.1.2.2 i i0 c
      rw [kx.1, mm_w_id (x := i + 1) (by omega)]
      refine ⟨fun w => ⟨⟨i0, c⟩, ct_I_osx kx w ?_⟩, fun w => ?_⟩
      · have es : nn_ri M (2 + 7 + 2) key = sp_ (aTl_ (zT_ Z) key.toNat) := by
          have e := cv_rd (M := M) (v := 2 + 7) hk y.1
          rw [e9] at e
          rw [e]; rfl
        rw [es]
        refine ⟨fun _ => hk, fun v => ih c (by omega) ?_, fun v => ?_⟩
        · rw [decide_eq_false (fun u => by omega), if_neg (by decide)] at hq; exact hq
        · rw [decide_eq_true v, if_pos rfl] at hq
          rw [hq] at h1; exact h1
      · rw [decide_eq_false (fun u => u.1 (osx_0 w)), if_neg (by decide)] at hq
        exact ih c (by omega) hq
    exact L 0 (by omega) (Int.le_refl _) rfl
theorem ct_M_held {bd key : Int} {Z : ab_Z} {M : mm_M} {R : Int → mm_M → Prop} (k : mY_ bd M 0 Z) (j : jZ_ bd Z) (h1 : hok_ key Z → R (hela_ key Z) M) (h0 : ¬ hok_ key Z → R (-1) M) : nr_M_held key M R := by
  have t : tM_ M 0 (aTm_ (zT_ Z)) (aTn_ (zT_ Z)) (aTq_ (zT_ Z)) := k.1.1.1
  have ek : nf_M_isKey key ≠ 0 ↔ 0 ≤ key ∧ key < 32 := by
    unfold nf_M_isKey
    rw [k_in]; omega
  have hr := fun q => lk_rows j.1.1 q
  refine ng_M_held _ _ _ ⟨fun z => h0 (fun w => absurd z (ek.mpr w.1)), fun z => ?_⟩
  have hk := ek.mp z
  refine ct_M_latest bk_0 hk t (fun a ha => ?_)
  cases hp : lk_ (aTm_ (zT_ Z)) (aTn_ (zT_ Z)) (aTq_ (zT_ Z)) key.toNat with
  | none =>
    refine ⟨fun _ => h0 (fun w => w.2.1 hp), fun y => ?_⟩
    rcases ha with ⟨e, a1⟩ | ⟨p, e, a1, _⟩
    · omega
    · rw [hp] at e; exact absurd e (by intro w; cases w)
  | some p =>
    have hrp := hr key.toNat p hp
    refine ⟨fun y => ?_, fun y => ct_M_rowOf bk_0 hk t hp ⟨fun w => ?_, fun w => h0 (fun v => ?_)⟩⟩
    · rcases ha with ⟨e, a1⟩ | ⟨p', e, a1, _⟩
      · rw [hp] at e; exact absurd e (by intro w; cases w)
      · omega
    · have hf : th_ (aTl_ (zT_ Z) key.toNat) = false := by
        show th_ (lk_ (aTm_ (zT_ Z)) (aTn_ (zT_ Z)) (aTq_ (zT_ Z)) key.toNat) = false
        rw [hp]
        unfold th_
        have e2 : p.2 = -1 := by omega
        dsimp only
        rw [e2]; rfl
      have h1 := h1 ⟨hk, by show lk_ (aTm_ (zT_ Z)) (aTn_ (zT_ Z)) (aTq_ (zT_ Z)) key.toNat ≠ none; rw [hp]; exact Option.some_ne_none p, hf⟩
      have L : ∀ i : Int, i ≤ 4 → 0 ≤ i → hela_ key Z = ff_ (fun i => decide (osx_ (aTX_ (zT_ Z) i) ≠ -1 ∧ osx_ (aTX_ (zT_ Z) i) < sp_ (aTl_ (zT_ Z) key.toNat))) (4 - i).toNat i → nk_M_held_29 key i M R := by
        refine lp_up (fun i hi ih i0 hq => ?_)
        refine ng_M_held_29 _ _ _ _ ⟨fun c => ?_, fun c => ?_⟩
        · rw [show (4 - i).toNat = 0 by omega] at hq
          rw [hq] at h1; exact h1
        rw [ff_up c i0] at hq
        have kx := k.1.1.2.2 i i0 c
        have hx : 1784 ≤ xi_ 0 i ∧ xi_ 0 i + 855 ≤ 5204 := by unfold xi_; omega
        rw [at0 ⟨i0, c⟩, mm_w_id (x := xi_ 0 i + 0) (by omega), show xi_ 0 i + 0 = xi_ 0 i by omega, kx.1, mm_w_id (x := i + 1) (by omega)]
        refine ⟨by omega, fun w => ct_M_osx bk_0 ⟨i0, c⟩ kx (j.1.2.2.2.2 i i0 c) w ⟨fun v => ih c (by omega) ?_, fun v => ct_M_stampOf bk_0 hk t ⟨fun u => ih c (by omega) ?_, fun u => ?_⟩⟩, fun w => ih c (by omega) ?_⟩
        · rw [decide_eq_false (fun u => u.1 v), if_neg (by decide)] at hq; exact hq
        · have u2 : sp_ (aTl_ (zT_ Z) key.toNat) ≤ osx_ (aTX_ (zT_ Z) i) := u
          rw [decide_eq_false (fun x => by have := x.2; omega), if_neg (by decide)] at hq; exact hq
        · rw [decide_eq_true ⟨v, u⟩, if_pos rfl] at hq
          rw [hq] at h1; exact h1
        · rw [decide_eq_false (fun u => u.1 (osx_0 w)), if_neg (by decide)] at hq; exact hq
      exact L 0 (by omega) (Int.le_refl _) rfl
    · have e := v.2.2
      have e : th_ (lk_ (aTm_ (zT_ Z)) (aTn_ (zT_ Z)) (aTq_ (zT_ Z)) key.toNat) = false := e
      rw [hp] at e
      have e := of_decide_eq_false (p := 0 ≤ p.2) e
      omega
