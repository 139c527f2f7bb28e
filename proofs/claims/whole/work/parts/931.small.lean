/-! feed, row, value, why, cost, both sides -/
theorem by_shr {w s : Int} (hs : 0 ≤ s ∧ s ≤ 24) : mm_and (mm_shr w s) 255 = by_ w s := by
  unfold by_
  refine bt_ext (by rw [bb_and]; exact bb_rng _) (by rw [bb_and]; exact bb_rng _) (fun k hk => ?_)
  rw [bt_and, bt_and, bt_255 k hk]
  by_cases h8 : k < 8
  · have e : s = ((s.toNat : Nat) : Int) := by omega
    have h1 : bt_ (mm_shr w s) k = bt_ w (s.toNat + k) := by
      unfold bt_
      rw [e, bb_shr w s.toNat (by omega), BitVec.ofInt_toInt, BitVec.getLsbD_sshiftRight, if_pos (by omega), show ((s.toNat : Nat) : Int).toNat = s.toNat by omega]
      rw [decide_eq_false (by omega)]
      rfl
    have h2 : bt_ (mm_ushr w s) k = bt_ w (s.toNat + k) := by
      rw [e]
      have := bt_ushr w s.toNat k (by omega)
      rw [show ((s.toNat : Nat) : Int).toNat = s.toNat by omega]
      exact this
    rw [h1, h2]
  · rw [decide_eq_false h8, Bool.and_false, Bool.and_false]
/-- five words on a tape -/
def f5_ (len a b c d e : Int) (f : Int → Int) : Int → Int := ap_ (len + 4 + 4 + 4 + 4) e (ap_ (len + 4 + 4 + 4) d (ap_ (len + 4 + 4) c (ap_ (len + 4) b (ap_ len a f))))
def fed_ (a b c d e : Int) (Z : ab_Z) : ab_Z := if zs_ Z 20 + 20 ≤ 200 then (up1_ 20 (zs_ Z 20 + 20) (zs_ Z), zT_ Z, zC_ Z, f5_ (zs_ Z 20) a b c d e (zf_ Z)) else Z
def feda_ (Z : ab_Z) : Int := if zs_ Z 20 + 20 ≤ 200 then zs_ Z 20 + 20 else -1
theorem ct_LI_feed {bd a b c d e : Int} {Z : ab_Z} {M : mm_M} {R : Int → mm_M → Prop} (k : cZ_ M 2 Z) (j : jZ_ bd Z) (h : ∀ M', fr_ now_ M M' → cZ_ M' 2 (fed_ a b c d e Z) → R (feda_ Z) M') : nr_LI_feed a b c d e M R := by
  obtain ⟨kt, kr⟩ := k
  have ht : tp_ M 3 (zs_ Z 20) (zf_ Z) := kr.2.2.2.1
  have hl : nn_rf M 3 1 = zs_ Z 20 := ht.1
  have hl2 := j.2.1.2.2.2.2.1
  refine ng_LI_feed _ _ _ _ _ _ _ ?_
  rw [hl, mm_w_id (x := zs_ Z 20 + 20) (by omega)]
  unfold fed_ feda_ at h
  refine ⟨fun z => ?_, fun z => ?_⟩
  · rw [if_pos z, if_pos z] at h
    refine ct_Tape_add ht (by omega) (fun M1 f1 t1 => ?_)
    refine ct_Tape_add t1 (by omega) (fun M2 f2 t2 => ?_)
    refine ct_Tape_add t2 (by omega) (fun M3 f3 t3 => ?_)
    refine ct_Tape_add t3 (by omega) (fun M4 f4 t4 => ?_)
    refine ct_Tape_add t4 (by omega) (fun M5 f5 t5 => ?_)
    have f : fr_ (fun o _ => o = 2 + 1 ∨ o = 2 + 2) M M5 := fr_mono (fr_trans f1 (fr_trans f2 (fr_trans f3 (fr_trans f4 f5)))) (fun o b y => by unfold er_ at y; omega)
    have e1 : nn_rf M5 3 1 = zs_ Z 20 + 20 := by rw [t5.1]; omega
    rw [e1]
    rw [show zs_ Z 20 + 4 + 4 + 4 + 4 + 4 = zs_ Z 20 + 20 by omega] at t5
    refine h M5 (fr_mono f (fun o b y => by unfold now_; omega)) ⟨cT_fr f (fun o b y y2 => by unfold sw_ at y; omega) kt, cR_tape (s := 2) f t5 kr⟩
  · rw [if_neg (by omega), if_neg (by omega)] at h
    exact h M (fr_refl M) ⟨kt, kr⟩
theorem jZ_20 {bd n : Int} {f : Int → Int} {Z : ab_Z} (hn : 0 ≤ n ∧ n ≤ 200) (j : jZ_ bd Z) : jZ_ bd (up1_ 20 n (zs_ Z), zT_ Z, zC_ Z, f) := by
  obtain ⟨a, ⟨b1, b2, b3, b4, b5, b6⟩, c⟩ := j
  refine ⟨a, ?_, c⟩
  show (2 ≤ up1_ 20 n (zs_ Z) 3 ∧ up1_ 20 n (zs_ Z) 3 ≤ 12) ∧ (2 ≤ up1_ 20 n (zs_ Z) 4 ∧ up1_ 20 n (zs_ Z) 4 ≤ 4) ∧ (0 ≤ up1_ 20 n (zs_ Z) 6 ∧ up1_ 20 n (zs_ Z) 6 ≤ bd) ∧ (0 ≤ up1_ 20 n (zs_ Z) 7 ∧ up1_ 20 n (zs_ Z) 7 ≤ bd) ∧ (0 ≤ up1_ 20 n (zs_ Z) 20 ∧ up1_ 20 n (zs_ Z) 20 ≤ 200) ∧ (up1_ 20 n (zs_ Z) 15 = 0 ∨ up1_ 20 n (zs_ Z) 15 = 1)
  rw [up1_o (q := 3) (by omega), up1_o (q := 4) (by omega), up1_o (q := 6) (by omega), up1_o (q := 7) (by omega), up1_s, up1_o (q := 15) (by omega)]
  exact ⟨b1, b2, b3, b4, hn, b6⟩
theorem jZ_fed {bd a b c d e : Int} {Z : ab_Z} (j : jZ_ bd Z) : jZ_ bd (fed_ a b c d e Z) := by
  unfold fed_
  by_cases z : zs_ Z 20 + 20 ≤ 200
  · rw [if_pos z]
    exact jZ_20 (by have := j.2.1.2.2.2.2.1; omega) j
  · rw [if_neg z]; exact j
/-- the byte at place k of five words -/
def b5_ (a b c d e k : Int) : Int := by_ (if k < 4 then a else if k < 8 then b else if k < 12 then c else if k < 16 then d else e) (24 - 8 * (k % 4))
theorem f5_b5 {len a b c d e : Int} {f : Int → Int} {k : Int} (h : 0 ≤ k ∧ k < 20) : f5_ len a b c d e f (len + k) = b5_ a b c d e k := by
  unfold f5_ ap_ b5_
  by_cases h4 : k < 4
  · rw [if_pos (by omega), if_pos (by omega), if_pos (by omega), if_pos (by omega), if_neg (by omega), if_pos h4, show 24 - 8 * (len + k - len) = 24 - 8 * (k % 4) by omega]
  by_cases h8 : k < 8
  · rw [if_pos (by omega), if_pos (by omega), if_pos (by omega), if_neg (by omega), if_neg h4, if_pos h8, show 24 - 8 * (len + k - (len + 4)) = 24 - 8 * (k % 4) by omega]
  by_cases h12 : k < 12
  · rw [if_pos (by omega), if_pos (by omega), if_neg (by omega), if_neg h4, if_neg h8, if_pos h12, show 24 - 8 * (len + k - (len + 4 + 4)) = 24 - 8 * (k % 4) by omega]
  by_cases h16 : k < 16
  · rw [if_pos (by omega), if_neg (by omega), if_neg h4, if_neg h8, if_neg h12, if_pos h16, show 24 - 8 * (len + k - (len + 4 + 4 + 4)) = 24 - 8 * (k % 4) by omega]
  · rw [if_neg (by omega), if_neg h4, if_neg h8, if_neg h12, if_neg h16, show 24 - 8 * (len + k - (len + 4 + 4 + 4 + 4)) = 24 - 8 * (k % 4) by omega]
theorem f5_lo {len a b c d e : Int} {f : Int → Int} {i : Int} (h : i < len) : f5_ len a b c d e f i = f i := by
  unfold f5_ ap_
  rw [if_pos (by omega), if_pos (by omega), if_pos (by omega), if_pos (by omega), if_pos h]
theorem ct_M_feed {bd a b c d e : Int} {Z : ab_Z} {M : mm_M} {R : Int → mm_M → Prop} (k : mY_ bd M 0 Z) (j : jZ_ bd Z) (h : ∀ M', fr_ mod_ M M' → mY_ bd M' 0 (fed_ a b c d e Z) → R (feda_ Z) M') : nr_M_feed a b c d e M R := by
  have hl : nn_ri M 408 20 = zs_ Z 20 := by
    have := k.1.2.1 20 (by unfold hd_; omega)
    rw [show (0 : Int) + 20 = 20 by omega] at this
    exact this
  have hl2 := j.2.1.2.2.2.2.1
  refine ng_M_feed _ _ _ _ _ _ _ ?_
  rw [hl, mm_w_id (x := zs_ Z 20 + 20) (by omega)]
  unfold fed_ feda_ at h
  refine ⟨fun z => ?_, fun z => ?_⟩
  · rw [if_pos z, if_pos z] at h
    have L : ∀ i : Int, i ≤ 20 → 0 ≤ i → ∀ M1, fr_ (fun o q => o = 408 ∧ 88 + zs_ Z 20 ≤ (q : Int) ∧ (q : Int) < 88 + zs_ Z 20 + 20) M M1 → (∀ q, 0 ≤ q → q < i → nn_ri M1 408 (88 + zs_ Z 20 + q) = b5_ a b c d e q) → nk_M_feed_21 a b c d e i M1 R := by
      refine lp_up (fun i hi ih i0 M1 f1 g1 => ?_)
      have l1 : nn_ri M1 408 20 = zs_ Z 20 := by rw [fr_ri f1 (fun y => by have := y.2; omega)]; exact hl
      have go : ∀ w : Int, b5_ a b c d e i = by_ w (24 - 8 * (i % 4)) → i < 20 → ((0 : Int) ≤ 88 + zs_ Z 20 + i ∧ 88 + zs_ Z 20 + i < (32844 : Int)) ∧ (∀ M110 : mm_M, M110 = nn_ui M1 408 (88 + zs_ Z 20 + i) (mm_and (mm_shr w (24 - 8 * (i % 4))) 255) → nk_M_feed_21 a b c d e (i + 1) M110 R) := by
        intro w hw c20
        refine ⟨by omega, ?_⟩
        intro M2 e2
        rw [by_shr (by omega), ← hw] at e2
        refine ih c20 (by omega) M2 (by rw [e2]; exact fr_ui f1 ⟨rfl, by omega, by omega⟩) (fun q q0 q1 => ?_)
        rw [e2, rd_ii]
        by_cases y : q = i
        · rw [if_pos ⟨rfl, by rw [y]⟩, y]
        · rw [if_neg (by omega)]; exact g1 q q0 (by omega)
      refine ng_M_feed_21 _ _ _ _ _ _ _ _ ?_
      refine ⟨fun c20 => ?_, fun c20 => ?_⟩
      · rw [l1, mm_w_id (x := zs_ Z 20 + 20) (by omega)]
        intro M2 e2
        have e20 : nn_ri M2 408 20 = zs_ Z 20 + 20 := by rw [e2, rd_ii, if_pos ⟨rfl, rfl⟩]
        rw [e20]
        have f2 : fr_ (fun o q => o = 408 ∧ ((q : Int) = 20 ∨ (88 + zs_ Z 20 ≤ (q : Int) ∧ (q : Int) < 88 + zs_ Z 20 + 20))) M M2 := by
          rw [e2]; exact fr_ui (fr_mono f1 (fun o q y => ⟨y.1, by have := y.2; omega⟩)) ⟨rfl, by omega⟩
        have rd : ∀ q, 0 ≤ q → q ≠ 20 → (q < 88 + zs_ Z 20 ∨ 88 + zs_ Z 20 + 20 ≤ q) → nn_ri M2 408 q = nn_ri M 408 q := fun q z0 z1 z2 => fr_ri f2 (fun y => by have := y.2; omega)
        obtain ⟨⟨kt, ⟨r1, r2, r3⟩⟩, g0, g2⟩ := k
        refine h M2 (fr_mono f2 (fun o q y => Or.inl ⟨y.1, by have := y.2; omega⟩)) ⟨⟨mT_fr f2 bk_0 (fun q z0 y => by have := y.2; unfold mcore_ at z0; omega) kt, fun q hq => ?_, fun q q0 q1 => ?_, fun q q0 q1 => ?_⟩, by rw [rd _ (by omega) (by omega) (by omega)]; exact g0, by rw [rd _ (by omega) (by omega) (by omega)]; exact g2⟩
        · show nn_ri M2 408 (0 + q) = up1_ 20 (zs_ Z 20 + 20) (zs_ Z) q
          by_cases y : q = 20
          · rw [y, up1_s]; exact e20
          · rw [up1_o y, rd _ (by unfold hd_ at hq; omega) (by omega) (by unfold hd_ at hq; omega)]
            exact r1 q hq
        · have q1 : q < up1_ 20 (zs_ Z 20 + 20) (zs_ Z) 20 := q1
          rw [up1_s] at q1
          show nn_ri M2 408 (0 + 88 + q) = f5_ (zs_ Z 20) a b c d e (zf_ Z) q
          by_cases y : q < zs_ Z 20
          · rw [f5_lo y, rd _ (by omega) (by omega) (by omega)]
            exact r2 q q0 y
          · have := f5_b5 (len := zs_ Z 20) (a := a) (b := b) (c := c) (d := d) (e := e) (f := zf_ Z) (k := q - zs_ Z 20) (by omega)
            rw [show zs_ Z 20 + (q - zs_ Z 20) = q by omega] at this
            have g1 := g1 (q - zs_ Z 20) (by omega) (by omega)
            rw [this, e2, rd_ii, if_neg (by omega), ← g1, show (0 : Int) + 88 + q = 88 + zs_ Z 20 + (q - zs_ Z 20) by omega]
        · have := j.2.2 q q0 q1
          exact mC_cg (fun q' z0 z1 => rd q' (by omega) (by omega) (by omega)) this.2.1.2 this.2.2.2.2 (r3 q q0 q1)
      · rw [l1, mm_w_id (x := 88 + zs_ Z 20) (by omega), mm_w_id (x := 88 + zs_ Z 20 + i) (by omega), and3 i (by omega) (by omega), mm_w_id (x := 8 * (i % 4)) (by omega), mm_w_id (x := 24 - 8 * (i % 4)) (by omega), mm_w_id (x := i + 1) (by omega)]
        refine ⟨fun c4 => ⟨fun c8 => ⟨fun c12 => ⟨fun c16 => go e ?_ c20, fun c16 => go d ?_ c20⟩, fun c12 => go c ?_ c20⟩, fun c8 => go b ?_ c20⟩, fun c4 => go a ?_ c20⟩
        · unfold b5_; rw [if_neg (by omega), if_neg (by omega), if_neg (by omega), if_neg (by omega)]
        · unfold b5_; rw [if_neg (by omega), if_neg (by omega), if_neg (by omega), if_pos (by omega)]
        · unfold b5_; rw [if_neg (by omega), if_neg (by omega), if_pos (by omega)]
        · unfold b5_; rw [if_neg (by omega), if_pos (by omega)]
        · unfold b5_; rw [if_pos (by omega)]
    exact L 0 (by omega) (Int.le_refl _) M (fr_refl M) (fun q q0 q1 => by omega)
  · rw [if_neg (by omega), if_neg (by omega)] at h
    exact h M (fr_refl M) k
/-- row -/
def rowa_ (key what : Int) (Z : ab_Z) : Int := if 0 ≤ key ∧ key < 32 then (match aTl_ (zT_ Z) key.toNat with
  | some p => if what = 4 then p.1 else if (0 ≤ what ∧ what < 4) ∧ p.2 ≠ -1 then co_ p.2 what else -1
  | none => -1) else -1
theorem nf_row {bd key what : Int} {Z : ab_Z} {M : mm_M} (k : cZ_ M 2 Z) (j : jZ_ bd Z) : nc_LI_row key what M ∧ nf_LI_row key what M = rowa_ key what Z := by
  have hl : cv_ M 9 = aTl_ (zT_ Z) := k.1.1.2.1.1
  have hr := fun q => lk_rows j.1.1 q
  unfold nc_LI_row nf_LI_row rowa_
  by_cases h0 : nf_LI_isKey key = 0
  · rw [if_pos h0, if_neg (fun w => absurd h0 (k_key.mpr w))]
    exact ⟨fun w => absurd h0 w, rfl⟩
  · rw [if_neg h0]
    have hk := k_key.mp h0
    rw [if_pos hk]
    cases hp : aTl_ (zT_ Z) key.toNat with
    | none =>
      have hh : nf_Versions_has 9 key M = 0 := (hs0 hk).mpr (by rw [hl]; exact hp)
      rw [if_neg (fun w => w hh)]
      exact ⟨fun _ w => absurd hh w, rfl⟩
    | some p =>
      have hh : nf_Versions_has 9 key M ≠ 0 := (hs1 hk).mpr (by rw [hl, hp]; exact Option.some_ne_none p)
      have e := cv_rd (M := M) (v := 9) hk hh
      rw [hl, hp] at e
      have e := Option.some.inj e
      have hr := hr key.toNat p hp
      rw [if_pos hh]
      refine ⟨fun _ _ => ⟨fun _ _ => ⟨(nf_isThere hk).1, fun _ => hk⟩, fun _ => hk⟩, ?_⟩
      dsimp only
      by_cases h4 : what = 4
      · rw [if_neg (fun w => w h4), if_pos h4, e]
      · rw [if_pos h4, if_neg h4]
        by_cases hc : nf_LI_isColumn what = 0
        · rw [if_pos hc, if_neg (fun w => absurd hc (k_col.mpr w.1))]
        · rw [if_neg hc]
          have hw := k_col.mp hc
          rcases (nf_isThere (M := M) (v := 9) hk).2 with ⟨t0, t1⟩ | ⟨t0, p', t1, t2, t3, t4⟩
          · rw [if_pos t0, if_neg (fun w => ?_)]
            rw [hl, hp] at t1
            rcases t1 with t1 | ⟨s, t1⟩
            · exact absurd t1 (Option.some_ne_none p)
            · have := Option.some.inj t1
              rw [this] at w
              exact w.2 rfl
          · rw [hl, hp] at t1
            have t1 := Option.some.inj t1
            rw [← t1] at t2 t3
            rw [if_neg (by rw [t0]; decide), if_pos ⟨hw, t2⟩]
            have t3 : nn_ri M 10 key = p.2 := t3
            rw [t3, nf_columnOf (by omega) hw]
theorem ct_M_row {bd key what : Int} {Z : ab_Z} {M : mm_M} {R : Int → mm_M → Prop} (k : mY_ bd M 0 Z) (j : jZ_ bd Z) (h : R (rowa_ key what Z) M) : nr_M_row key what M R := by
  have t : tM_ M 0 (aTm_ (zT_ Z)) (aTn_ (zT_ Z)) (aTq_ (zT_ Z)) := k.1.1.1
  have hr := fun q => lk_rows j.1.1 q
  unfold rowa_ at h
  refine ng_M_row _ _ _ _ ⟨fun z => ?_, fun z => ?_⟩
  · by_cases hk : 0 ≤ key ∧ key < 32
    · have hw := k_in0.mp (z.resolve_left (k_keyM.mpr hk))
      rw [if_pos hk] at h
      have e : (match aTl_ (zT_ Z) key.toNat with
        | some p => if what = 4 then p.1 else if (0 ≤ what ∧ what < 4) ∧ p.2 ≠ -1 then co_ p.2 what else -1
        | none => -1) = -1 := by
        cases aTl_ (zT_ Z) key.toNat with
        | none => rfl
        | some p => dsimp only; rw [if_neg (by omega), if_neg (by omega)]
      rw [e] at h
      exact h
    · rw [if_neg hk] at h; exact h
  · have hk := k_keyM.mp z.1
    have hw := k_in.mp z.2
    rw [if_pos hk] at h
    refine ct_M_latest bk_0 hk t (fun a ha => ?_)
    have ha : la_ M (aTl_ (zT_ Z) key.toNat) a := ha
    rcases ha with ⟨e, ea⟩ | ⟨p, e, a0, a1, a2, a3⟩
    · rw [e] at h
      exact ⟨fun w => by omega, fun _ => h⟩
    · rw [e] at h
      have h : R (if what = 4 then p.1 else if (0 ≤ what ∧ what < 4) ∧ p.2 ≠ -1 then co_ p.2 what else -1) M := h
      have hr := hr key.toNat p e
      refine ⟨fun _ => ⟨fun w => ?_, fun w => ?_⟩, fun w => by omega⟩
      · rw [if_neg w] at h
        refine ct_M_rowOf bk_0 hk t e ?_
        refine ⟨fun y => ?_, fun y => ?_⟩
        · refine ct_M_rowOf bk_0 hk t e ?_
          rw [nf_M_column' (by omega) (by omega)]
          rw [if_pos (by omega)] at h
          exact h
        · rw [if_neg (by omega)] at h
          exact h
      · rw [if_pos w] at h
        refine ct_M_stampOf bk_0 hk t ?_
        have e2 : sp_ (lk_ (aTm_ (zT_ Z)) (aTn_ (zT_ Z)) (aTq_ (zT_ Z)) key.toNat) = p.1 := by
          have e : lk_ (aTm_ (zT_ Z)) (aTn_ (zT_ Z)) (aTq_ (zT_ Z)) key.toNat = some p := e
          rw [e]; rfl
        rw [e2]; exact h
/-- value -/
def vok_ (i a b c d : Int) (Z : ab_Z) : Prop := ix_ i Z ∧ (0 ≤ a ∧ a < 16) ∧ (0 ≤ b ∧ b < 16) ∧ (0 ≤ c ∧ c < 16) ∧ (0 ≤ d ∧ d < 16)
theorem ct_LI_value {bd i a b c d : Int} {Z : ab_Z} {M : mm_M} {R : Int → mm_M → Prop} (k : cZ_ M 2 Z) (j : jZ_ bd Z) (h1 : vok_ i a b c d Z → R (va_ (xu_ (aTX_ (zT_ Z) i)) (rw_ a b c d)) M) (h0 : ¬ vok_ i a b c d Z → R (-1) M) : nr_LI_value i a b c d M R := by
  refine ng_LI_value _ _ _ _ _ _ _ ?_
  refine ct_S_find k (fun z => ?_) (fun z => ?_)
  · exact ⟨fun _ => h0 (fun w => z w.1), fun w => absurd rfl w.1⟩
  refine ⟨fun w => h0 (fun v => ?_), fun w => ?_⟩
  · obtain ⟨v1, v2, v3, v4, v5⟩ := v
    rcases w with w | w | w | w | w
    · omega
    · exact absurd w (k_num.mpr v2)
    · exact absurd w (k_num.mpr v3)
    · exact absurd w (k_num.mpr v4)
    · exact absurd w (k_num.mpr v5)
  · obtain ⟨w1, w2, w3, w4, w5⟩ := w
    have w2 := k_num.mp w2
    have w3 := k_num.mp w3
    have w4 := k_num.mp w4
    have w5 := k_num.mp w5
    obtain ⟨_, b, _⟩ := (k.1.2.2 i z.1.1 z.1.2).2.2 z.2
    obtain ⟨_, ⟨_, q2⟩, _⟩ := j.1.2.2.2.2 i z.1.1 z.1.2 z.2
    rw [nf_packed w2 w3 w4 w5]
    exact ct_R_valueOf b q2 (rw_in w2 w3 w4 w5) (h1 ⟨z, w2, w3, w4, w5⟩)
theorem ct_M_value {bd i a b c d : Int} {Z : ab_Z} {M : mm_M} {R : Int → mm_M → Prop} (k : mY_ bd M 0 Z) (j : jZ_ bd Z) (h1 : vok_ i a b c d Z → R (va_ (xu_ (aTX_ (zT_ Z) i)) (rw_ a b c d)) M) (h0 : ¬ vok_ i a b c d Z → R (-1) M) : nr_M_value i a b c d M R := by
  obtain ⟨m1, m2⟩ := m_isIndex (i := i) k j
  refine ng_M_value _ _ _ _ _ _ _ ⟨m1, fun z => h0 (fun w => ?_), fun z => ?_⟩
  · rcases z with z | z
    · exact absurd z (m2.mpr w.1)
    · exact absurd z (k_rowM.mpr w.2)
  · have z1 := m2.mp z.1
    obtain ⟨w2, w3, w4, w5⟩ := k_rowM.mp z.2
    have hx : 1784 ≤ xi_ 0 i ∧ xi_ 0 i + 855 ≤ 5204 := by have := z1.1; unfold xi_; omega
    obtain ⟨_, b1, _⟩ := (k.1.1.2.2 i z1.1.1 z1.1.2).2 z1.2
    have h1 := h1 ⟨z1, w2, w3, w4, w5⟩
    rw [nf_packedM w2 w3 w4 w5, at0 z1.1]
    refine ct_M_wants ⟨by omega, by omega⟩ b1 (rw_in w2 w3 w4 w5) ?_
    by_cases hw : wn_ (xu_ (aTX_ (zT_ Z) i)) (rw_ a b c d) (xu_ (aTX_ (zT_ Z) i)).2.2.toNat = true
    · rw [if_pos hw]
      have hva : va_ (xu_ (aTX_ (zT_ Z) i)) (rw_ a b c d) = su_ (xu_ (aTX_ (zT_ Z) i)) 0 (rw_ a b c d) := if_pos hw
      rw [hva] at h1
      exact ⟨fun y => absurd y (by decide), fun _ => ct_M_valueOf ⟨by omega, by omega⟩ b1 (rw_in w2 w3 w4 w5) h1⟩
    · rw [if_neg hw]
      have hva : va_ (xu_ (aTX_ (zT_ Z) i)) (rw_ a b c d) = -1 := if_neg hw
      rw [hva] at h1
      exact ⟨fun _ => h1, fun y => absurd rfl y⟩
/-- why -/
def whya_ (level what : Int) (Z : ab_Z) : Int := if (0 ≤ level ∧ level ≤ 2) ∧ 0 ≤ what ∧ what ≤ 1 then wy_ (zs_ Z) (2 * level + what) else -1
theorem nf_why {level what : Int} {Z : ab_Z} {M : mm_M} (k : cZ_ M 2 Z) : nc_LI_why level what M ∧ nf_LI_why level what M = whya_ level what Z := by
  have hb := k.2.2.1
  unfold nc_LI_why nf_LI_why whya_
  refine ⟨fun h1 h2 h3 h4 => by rw [mm_w_id (x := 2 * level) (by omega), mm_w_id (by omega)]; omega, ?_⟩
  by_cases h1 : level < 0
  · rw [if_pos h1, if_neg (by omega)]
  rw [if_neg h1]
  by_cases h2 : 2 < level
  · rw [if_pos h2, if_neg (by omega)]
  rw [if_neg h2]
  by_cases h3 : what < 0
  · rw [if_pos h3, if_neg (by omega)]
  rw [if_neg h3]
  by_cases h4 : what ≤ 1
  · rw [if_pos h4, if_pos (by omega), mm_w_id (x := 2 * level) (by omega), mm_w_id (by omega)]
    exact hb (2 * level + what) (by omega) (by omega)
  · rw [if_neg h4, if_neg (by omega)]
theorem nf_whyM {bd level what : Int} {Z : ab_Z} {M : mm_M} (k : mY_ bd M 0 Z) : nc_M_why level what M ∧ nf_M_why level what M = whya_ level what Z := by
  have r9 : nn_ri M 408 9 = zs_ Z 9 := by
    have := k.1.2.1 9 (by unfold hd_; omega)
    rw [show (0 : Int) + 9 = 9 by omega] at this
    exact this
  unfold nc_M_why nf_M_why whya_
  rw [r9]
  simp only [k_in, k_in0]
  refine ⟨fun _ h2 h3 => by rw [mm_w_id (x := 2 * level) (by omega), mm_w_id (x := 9 + 2 * level) (by omega), mm_w_id (by omega)]; omega, ?_⟩
  by_cases h9 : zs_ Z 9 = -1
  · rw [if_pos h9]
    by_cases hz : (0 ≤ level ∧ level ≤ 2) ∧ 0 ≤ what ∧ what ≤ 1
    · rw [if_pos hz]; exact (if_pos h9).symm
    · rw [if_neg hz]
  · rw [if_neg h9]
    by_cases h1 : ¬ (0 ≤ level ∧ level ≤ 2)
    · rw [if_pos h1, if_neg (fun y => h1 y.1)]
    · rw [if_neg h1]
      by_cases h2 : 0 ≤ what ∧ what ≤ 1
      · rw [if_pos h2, if_pos (by omega), mm_w_id (x := 2 * level) (by omega), mm_w_id (x := 9 + 2 * level) (by omega), mm_w_id (by omega)]
        have := k.1.2.1 (9 + (2 * level + what)) (by unfold hd_; omega)
        rw [show (0 : Int) + (9 + (2 * level + what)) = 9 + 2 * level + what by omega] at this
        have ew : wy_ (zs_ Z) (2 * level + what) = zs_ Z (9 + (2 * level + what)) := if_neg h9
        rw [ew]
        exact this
      · rw [if_neg h2, if_neg (fun y => h2 y.2)]
/-- cost -/
def costa_ (what : Int) (Z : ab_Z) : Int := if zs_ Z 15 = 1 ∧ 0 ≤ what ∧ what ≤ 3 then zs_ Z (16 + what) else -1
theorem ct_LI_cost {bd what : Int} {Z : ab_Z} {M : mm_M} {R : Int → mm_M → Prop} (k : cZ_ M 2 Z) (j : jZ_ bd Z) (h : R (costa_ what Z) M) : nr_LI_cost what M R := by
  obtain ⟨c0, c1, c2, c3, c4⟩ := k.2.2.2.1
  have c0 : nn_rf M 89 0 = zs_ Z 15 := c0
  have c1 : nn_rf M 89 1 = zs_ Z 16 := c1
  have c2 : nn_rf M 89 2 = zs_ Z 17 := c2
  have c3 : nn_rf M 89 3 = zs_ Z 18 := c3
  have c4 : nn_rf M 89 4 = zs_ Z 19 := c4
  have h15 := j.2.1.2.2.2.2.2
  unfold costa_ at h
  refine ng_LI_cost _ _ _ ?_
  rw [c0, c1, c2, c3, c4]
  refine ⟨fun z => ⟨fun w => ?_, fun w => ?_, fun w => ?_, fun w => ?_, fun w => ?_⟩, fun z => ?_⟩
  · rw [w, if_pos (by omega)] at h; exact h
  · rw [w, if_pos (by omega)] at h; exact h
  · rw [w, if_pos (by omega)] at h; exact h
  · rw [w, if_pos (by omega)] at h; exact h
  · rw [if_neg (by omega)] at h; exact h
  · rw [if_neg (by omega)] at h; exact h
theorem nf_costM {bd what : Int} {Z : ab_Z} {M : mm_M} (k : mY_ bd M 0 Z) : nc_M_cost what M ∧ nf_M_cost what M = costa_ what Z := by
  have r15 : nn_ri M 408 15 = zs_ Z 15 := by
    have := k.1.2.1 15 (by unfold hd_; omega)
    rw [show (0 : Int) + 15 = 15 by omega] at this
    exact this
  unfold nc_M_cost nf_M_cost costa_
  rw [r15]
  simp only [k_in, k_in0]
  refine ⟨fun _ h2 => by rw [mm_w_id (by omega)]; omega, ?_⟩
  by_cases h1 : zs_ Z 15 ≠ 1
  · rw [if_pos h1, if_neg (fun y => h1 y.1)]
  · rw [if_neg h1]
    by_cases h2 : ¬ (0 ≤ what ∧ what ≤ 3)
    · rw [if_pos h2, if_neg (fun y => h2 y.2)]
    · rw [if_neg h2, if_pos (by omega), mm_w_id (by omega)]
      have := k.1.2.1 (16 + what) (by unfold hd_; omega)
      rw [show (0 : Int) + (16 + what) = 16 + what by omega] at this
      exact this
