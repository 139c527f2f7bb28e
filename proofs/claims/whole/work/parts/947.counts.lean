/-! what is counted (but what is left over, the next merges), both sides, any store, any block -/
def wq_ (g : Int) (o : Option (Int × Int)) : Bool := match o with
  | some p => decide (g = 0) || decide (p.2 = -1)
  | none => false
def vw_ (g : Int) (V : ab_V) (k : Nat) : Int := (cn_ (fun j => wq_ g (V j)) k : Nat)
theorem vw_s (g : Int) (V : ab_V) (k : Nat) : vw_ g V (k + 1) = vw_ g V k + (if wq_ g (V k) = true then 1 else 0) := by
  have e : vw_ g V (k + 1) = ((cn_ (fun j => wq_ g (V j)) k + (if wq_ g (V k) = true then 1 else 0) : Nat) : Int) := rfl
  rw [e]
  unfold vw_
  split <;> omega
theorem vw_b (g : Int) (V : ab_V) (k : Nat) : 0 ≤ vw_ g V k ∧ vw_ g V k ≤ k := by
  have := cn_le (fun j => wq_ g (V j)) k
  unfold vw_
  omega
theorem wq_0 (o : Option (Int × Int)) : wq_ 0 o = o.isSome := by
  cases o <;> rfl
theorem vw_0 (V : ab_V) (k : Nat) : vw_ 0 V k = vn_ V k := by
  have e : cn_ (fun j => wq_ 0 (V j)) k = cn_ (fun j => (V j).isSome) k := cn_cg (fun j _ => wq_0 (V j))
  unfold vw_ vn_
  rw [e]
/-- of all runs -/
def vs_ (g : Int) (q : Int → ab_R) (n : Nat) : Int := sm_ (fun r => vw_ g (q r).2.2.2.2.2 32) n
theorem vs_b (g : Int) (q : Int → ab_R) : ∀ n : Nat, 0 ≤ vs_ g q n ∧ vs_ g q n ≤ 32 * (n : Int)
  | 0 => by show (0 : Int) ≤ 0 ∧ (0 : Int) ≤ 32 * ((0 : Nat) : Int); omega
  | n + 1 => by
    have h1 := vs_b g q n
    have h2 := vw_b g (q (n : Int)).2.2.2.2.2 32
    have e : vs_ g q (n + 1) = vs_ g q n + vw_ g (q (n : Int)).2.2.2.2.2 32 := rfl
    rw [e]
    omega
theorem ct_V_gon2 {v : Nat} {V : ab_V} {M : mm_M} {R : Int → mm_M → Prop} (hV : cv_ M v = V) (h : R (vw_ 1 V 32) M) : nr_Versions_gone v M R := by
  refine ng_Versions_gone _ _ _ ?_
  have L : ∀ k : Int, k ≤ 32 → 0 ≤ k → nk_Versions_gone_4 v (vw_ 1 V k.toNat) k M R := by
    refine lp_up (fun k hk ih k0 => ?_)
    have b := vw_b 1 V k.toNat
    refine ng_Versions_gone_4 _ _ _ _ _ ⟨fun c => ?_, fun c => ?_⟩
    · rw [show k.toNat = 32 by omega]; exact h
    have ih := ih c (by omega)
    have e := vw_s 1 V k.toNat
    rw [show (k + 1).toNat = k.toNat + 1 by omega, e] at ih
    rw [mm_w_id (x := k + 1) (by omega), mm_w_id (x := vw_ 1 V k.toNat + 0) (by omega), mm_w_id (x := vw_ 1 V k.toNat + 1) (by omega)]
    refine ⟨fun _ => ⟨k0, c⟩, fun z => ?_, fun z => ?_⟩
    · have hf : wq_ 1 (V k.toNat) = false := by
        by_cases y : nf_Versions_has v k M = 0
        · have y := (hs0 ⟨k0, c⟩).mp y
          rw [hV] at y
          rw [y]; rfl
        · have y2 := cv_rd (M := M) (v := v) ⟨k0, c⟩ y
          rw [hV] at y2
          rw [y2]
          have z := z.resolve_left y
          show (decide ((1 : Int) = 0) || decide (nn_ri M (v + 1) k = -1)) = false
          rw [decide_eq_false z]; rfl
      rw [hf, if_neg (by decide)] at ih
      exact ih
    · have hf : wq_ 1 (V k.toNat) = true := by
        have y2 := cv_rd (M := M) (v := v) ⟨k0, c⟩ z.1
        rw [hV] at y2
        rw [y2]
        show (decide ((1 : Int) = 0) || decide (nn_ri M (v + 1) k = -1)) = true
        rw [decide_eq_true z.2]; rfl
      rw [hf, if_pos rfl] at ih
      exact ih
  exact L 0 (by omega) (Int.le_refl _)
theorem ct_T_versions {t : Nat} {mem lat : ab_V} {n : Int} {q : Int → ab_R} {M : mm_M} {R : Int → mm_M → Prop} (k : tb_ M t mem lat n q) (h : R (vs_ 0 q n.toNat) M) : nr_Table_versions t M R := by
  have hn := k.2.2.1
  refine ng_Table_versions _ _ _ ?_
  have L : ∀ r : Int, r ≤ n → 0 ≤ r → nk_Table_versions_4 t (vs_ 0 q r.toNat) r M R := by
    refine lp_up (fun r hr ih r0 => ?_)
    have b := vs_b 0 q r.toNat
    refine ng_Table_versions_4 _ _ _ _ _ ?_
    rw [hn.1]
    refine ⟨fun c => ?_, fun c => ⟨by omega, ?_⟩⟩
    · rw [show r = n by omega]; exact h
    have ih := ih c (by omega)
    obtain ⟨r1, r2, r3, r4, r5, r6⟩ := k.2.2.2.2 r r0 c
    have e : vs_ 0 q (r + 1).toNat = vs_ 0 q r.toNat + vw_ 0 (q r).2.2.2.2.2 32 := by
      rw [show (r + 1).toNat = r.toNat + 1 by omega]
      show vs_ 0 q r.toNat + vw_ 0 (q ((r.toNat : Nat) : Int)).2.2.2.2.2 32 = _
      rw [show ((r.toNat : Nat) : Int) = r by omega]
    have b2 := vw_b 0 (q r).2.2.2.2.2 32
    rw [nf_size, r5, ← vw_0, mm_w_id (x := vs_ 0 q r.toNat + vw_ 0 (q r).2.2.2.2.2 32) (by omega), mm_w_id (x := r + 1) (by omega)]
    intro y ey
    rw [ey, ← e]
    exact ih
  exact L 0 (by omega) (Int.le_refl _)
theorem ct_T_gone {t : Nat} {mem lat : ab_V} {n : Int} {q : Int → ab_R} {M : mm_M} {R : Int → mm_M → Prop} (k : tb_ M t mem lat n q) (h : R (vs_ 1 q n.toNat) M) : nr_Table_gone t M R := by
  have hn := k.2.2.1
  refine ng_Table_gone _ _ _ ?_
  have L : ∀ r : Int, r ≤ n → 0 ≤ r → nk_Table_gone_4 t (vs_ 1 q r.toNat) r M R := by
    refine lp_up (fun r hr ih r0 => ?_)
    have b := vs_b 1 q r.toNat
    refine ng_Table_gone_4 _ _ _ _ _ ?_
    rw [hn.1]
    refine ⟨fun c => ?_, fun c => ⟨by omega, ?_⟩⟩
    · rw [show r = n by omega]; exact h
    have ih := ih c (by omega)
    obtain ⟨r1, r2, r3, r4, r5, r6⟩ := k.2.2.2.2 r r0 c
    have e : vs_ 1 q (r + 1).toNat = vs_ 1 q r.toNat + vw_ 1 (q r).2.2.2.2.2 32 := by
      rw [show (r + 1).toNat = r.toNat + 1 by omega]
      show vs_ 1 q r.toNat + vw_ 1 (q ((r.toNat : Nat) : Int)).2.2.2.2.2 32 = _
      rw [show ((r.toNat : Nat) : Int) = r by omega]
    have b2 := vw_b 1 (q r).2.2.2.2.2 32
    refine ct_V_gon2 r5 ?_
    rw [mm_w_id (x := vs_ 1 q r.toNat + vw_ 1 (q r).2.2.2.2.2 32) (by omega), mm_w_id (x := r + 1) (by omega), ← e]
    exact ih
  exact L 0 (by omega) (Int.le_refl _)
theorem ct_M_versions {b g n : Int} {mem : ab_V} {q : Int → ab_R} {M : mm_M} {R : Int → mm_M → Prop} (hb : bk_ b) (t : tM_ M b mem n q) (h : R (vs_ g q n.toNat) M) : nr_M_versions b g M R := by
  have hb' := hb
  unfold bk_ at hb'
  have hn := t.2.2.1
  refine ng_M_versions _ _ _ _ ?_
  have L : ∀ r : Int, r ≤ n → 0 ≤ r → nk_M_versions_5 b g (vs_ g q r.toNat) r M R := by
    refine lp_up (fun r hr ih r0 => ?_)
    have bb := vs_b g q r.toNat
    refine ng_M_versions_5 _ _ _ _ _ _ ?_
    rw [mm_w_id (x := b + 5) (by omega), hn.1]
    refine ⟨by omega, fun c => ?_, fun c => ?_⟩
    · rw [show r = n by omega]; exact h
    have ih := ih c (by omega)
    obtain ⟨r1, r2, r3, r4, r5, r6⟩ := t.2.2.2 r r0 c
    have e : vs_ g q (r + 1).toNat = vs_ g q r.toNat + vw_ g (q r).2.2.2.2.2 32 := by
      rw [show (r + 1).toNat = r.toNat + 1 by omega]
      show vs_ g q r.toNat + vw_ g (q ((r.toNat : Nat) : Int)).2.2.2.2.2 32 = _
      rw [show ((r.toNat : Nat) : Int) = r by omega]
    rw [nf_runAt hb ⟨by omega, by omega⟩, mm_w_id (x := b + 288 + 68 * r + 4) (by omega)]
    intro y ey
    rw [ey]
    have LL : ∀ k : Int, k ≤ 32 → 0 ≤ k → nk_M_versions_28 b g (vs_ g q r.toNat + vw_ g (q r).2.2.2.2.2 k.toNat) r (b + 288 + 68 * r + 4 + k) M R := by
      refine lp_up (fun k hk ihk k0 => ?_)
      have b2 := vw_b g (q r).2.2.2.2.2 k.toNat
      refine ng_M_versions_28 _ _ _ _ _ _ _ ?_
      rw [nf_runAt hb ⟨by omega, by omega⟩, mm_w_id (x := b + 288 + 68 * r + 4) (by omega), mm_w_id (x := b + 288 + 68 * r + 4 + 32) (by omega)]
      refine ⟨fun d => ?_, fun d => ?_⟩
      · rw [mm_w_id (x := r + 1) (by omega), show k.toNat = 32 by omega, ← e]
        exact ih
      have dk : k < 32 := by omega
      have ihk := ihk dk (by omega)
      have e2 := vw_s g (q r).2.2.2.2.2 k.toNat
      rw [show (k + 1).toNat = k.toNat + 1 by omega, e2] at ihk
      rw [mm_w_id (x := b + 288 + 68 * r + 4 + k + 32) (by omega), mm_w_id (x := b + 288 + 68 * r + 4 + k + 1) (by omega), mm_w_id (x := vs_ g q r.toNat + vw_ g (q r).2.2.2.2.2 k.toNat + 0) (by omega), mm_w_id (x := vs_ g q r.toNat + vw_ g (q r).2.2.2.2.2 k.toNat + 1) (by omega)]
      rw [show b + 288 + 68 * r + 4 + (k + 1) = b + 288 + 68 * r + 4 + k + 1 by omega] at ihk
      refine ⟨by omega, fun _ => by omega, fun z => ?_, fun z => ?_⟩
      · have hf : wq_ g ((q r).2.2.2.2.2 k.toNat) = false := by
          by_cases y : nn_ri M 408 (b + 288 + 68 * r + 4 + k) ≤ 0
          · have y2 := mv_npos ⟨k0, dk⟩ y
            rw [r5] at y2
            rw [y2]; rfl
          · have y2 := mv_pos ⟨k0, dk⟩ (by omega : 0 < nn_ri M 408 (b + 288 + 68 * r + 4 + k))
            rw [r5] at y2
            rw [y2]
            have z := z.resolve_left y
            show (decide (g = 0) || decide (nn_ri M 408 (b + 288 + 68 * r + 4 + 32 + k) = -1)) = false
            rw [decide_eq_false z.1, show b + 288 + 68 * r + 4 + 32 + k = b + 288 + 68 * r + 4 + k + 32 by omega, decide_eq_false z.2]; rfl
        rw [hf, if_neg (by decide), ← Int.add_assoc] at ihk
        exact ihk
      · have hf : wq_ g ((q r).2.2.2.2.2 k.toNat) = true := by
          have y2 := mv_pos ⟨k0, dk⟩ z.1
          rw [r5] at y2
          rw [y2]
          show (decide (g = 0) || decide (nn_ri M 408 (b + 288 + 68 * r + 4 + 32 + k) = -1)) = true
          rcases z.2 with w | w
          · rw [decide_eq_true w]; rfl
          · rw [show b + 288 + 68 * r + 4 + 32 + k = b + 288 + 68 * r + 4 + k + 32 by omega, decide_eq_true w, Bool.or_true]
        rw [hf, if_pos rfl, ← Int.add_assoc] at ihk
        exact ihk
    have L0 := LL 0 (by omega) (Int.le_refl _)
    have e0 : vw_ g (q r).2.2.2.2.2 (0 : Int).toNat = 0 := rfl
    rw [e0, show vs_ g q r.toNat + 0 = vs_ g q r.toNat by omega, show b + 288 + 68 * r + 4 + 0 = b + 288 + 68 * r + 4 by omega] at L0
    exact L0
  exact L 0 (by omega) (Int.le_refl _)
theorem ct_M_inMemory {b n : Int} {mem : ab_V} {q : Int → ab_R} {M : mm_M} {R : Int → mm_M → Prop} (hb : bk_ b) (t : tM_ M b mem n q) (h : R (vn_ mem 32) M) : nr_M_inMemory b M R := by
  have hb' := hb
  unfold bk_ at hb'
  refine ng_M_inMemory _ _ _ ?_
  have L : ∀ k : Int, k ≤ 32 → 0 ≤ k → nk_M_inMemory_4 b (vn_ mem k.toNat) k M R := by
    refine lp_up (fun k hk ih k0 => ?_)
    have bb := vn_b mem k.toNat
    refine ng_M_inMemory_4 _ _ _ _ _ ⟨fun c => ?_, fun c => ?_⟩
    · rw [show k.toNat = 32 by omega]; exact h
    have ih := ih c (by omega)
    have e := vn_s mem k.toNat
    rw [show (k + 1).toNat = k.toNat + 1 by omega, e] at ih
    have hs := mv_some (M := M) (x := b + 24) ⟨k0, c⟩
    rw [t.1] at hs
    rw [mm_w_id (x := b + 24) (by omega), mm_w_id (x := b + 24 + k) (by omega), mm_w_id (x := k + 1) (by omega), mm_w_id (x := vn_ mem k.toNat + 0) (by omega), mm_w_id (x := vn_ mem k.toNat + 1) (by omega)]
    refine ⟨by omega, fun z => ?_, fun z => ?_⟩
    · rw [decide_eq_false (by omega)] at hs
      rw [hs, if_neg (by decide)] at ih
      exact ih
    · rw [decide_eq_true z] at hs
      rw [hs, if_pos rfl] at ih
      exact ih
  exact L 0 (by omega) (Int.le_refl _)
/-- those that are there -/
def thn_ (V : ab_V) (k : Nat) : Int := (cn_ (fun j => th_ (V j)) k : Nat)
theorem thn_s (V : ab_V) (k : Nat) : thn_ V (k + 1) = thn_ V k + (if th_ (V k) = true then 1 else 0) := by
  have e : thn_ V (k + 1) = ((cn_ (fun j => th_ (V j)) k + (if th_ (V k) = true then 1 else 0) : Nat) : Int) := rfl
  rw [e]
  unfold thn_
  split <;> omega
theorem thn_b (V : ab_V) (k : Nat) : 0 ≤ thn_ V k ∧ thn_ V k ≤ k := by
  have := cn_le (fun j => th_ (V j)) k
  unfold thn_
  omega
theorem thn_eq {V : ab_V} (h : ∀ k p, V k = some p → p.2 = -1 ∨ 0 ≤ p.2) : ∀ k : Nat, vn_ V k - vw_ 1 V k = thn_ V k
  | 0 => rfl
  | k + 1 => by
    have ih := thn_eq h k
    rw [vn_s, vw_s, thn_s]
    cases hp : V k with
    | none =>
      have e1 : wq_ 1 (none : Option (Int × Int)) = false := rfl
      have e2 : th_ (none : Option (Int × Int)) = false := rfl
      have e3 : (none : Option (Int × Int)).isSome = false := rfl
      rw [e1, e2, e3, if_neg (by decide)]
      omega
    | some p =>
      have e3 : (some p).isSome = true := rfl
      rw [e3, if_pos rfl]
      rcases h k p hp with w | w
      · have e1 : wq_ 1 (some p) = true := by
          show (decide ((1 : Int) = 0) || decide (p.2 = -1)) = true
          rw [decide_eq_true w]; rfl
        have e2 : th_ (some p) = false := by
          show decide (0 ≤ p.2) = false
          exact decide_eq_false (by omega)
        rw [e1, e2, if_pos rfl, if_neg (by decide)]
        omega
      · have e1 : wq_ 1 (some p) = false := by
          show (decide ((1 : Int) = 0) || decide (p.2 = -1)) = false
          rw [decide_eq_false (by omega : ¬ p.2 = -1)]; rfl
        have e2 : th_ (some p) = true := by
          show decide (0 ≤ p.2) = true
          exact decide_eq_true w
        rw [e1, e2, if_neg (by decide), if_pos rfl]
        omega
theorem ct_M_there {b n : Int} {mem : ab_V} {q : Int → ab_R} {M : mm_M} {R : Int → mm_M → Prop} (hb : bk_ b) (t : tM_ M b mem n q) (h : R (thn_ (lk_ mem n q) 32) M) : nr_M_there b M R := by
  refine ng_M_there _ _ _ ?_
  have L : ∀ k : Int, k ≤ 32 → 0 ≤ k → nk_M_there_4 b (thn_ (lk_ mem n q) k.toNat) k M R := by
    refine lp_up (fun k hk ih k0 => ?_)
    have bb := thn_b (lk_ mem n q) k.toNat
    refine ng_M_there_4 _ _ _ _ _ ⟨fun c => ?_, fun c => ?_⟩
    · rw [show k.toNat = 32 by omega]; exact h
    have ih := ih c (by omega)
    have e := thn_s (lk_ mem n q) k.toNat
    rw [show (k + 1).toNat = k.toNat + 1 by omega, e] at ih
    refine ct_M_isThere hb ⟨k0, c⟩ t ?_
    rw [mm_w_id (x := k + 1) (by omega), mm_w_id (x := thn_ (lk_ mem n q) k.toNat + 0) (by omega), mm_w_id (x := thn_ (lk_ mem n q) k.toNat + 1) (by omega)]
    by_cases z : th_ (lk_ mem n q k.toNat) = true
    · rw [if_pos z] at ih ⊢
      exact ⟨fun w => absurd w (by decide), fun _ => ih⟩
    · rw [if_neg z] at ih ⊢
      exact ⟨fun _ => ih, fun w => absurd rfl w⟩
  exact L 0 (by omega) (Int.le_refl _)
/-- cursors that are open -/
def on_ (C : Int → ab_D) (k : Nat) : Int := sm_ (fun i => (C i).1.1) k
theorem on_b {C : Int → ab_D} (h : cw_ C) : ∀ k : Nat, k ≤ 3 → 0 ≤ on_ C k ∧ on_ C k ≤ k
  | 0, _ => by show (0 : Int) ≤ 0 ∧ (0 : Int) ≤ ((0 : Nat) : Int); omega
  | k + 1, hk => by
    have h1 := on_b h k (by omega)
    have h2 := (h (k : Int) (by omega) (by omega)).1
    have e : on_ C (k + 1) = on_ C k + (C (k : Int)).1.1 := rfl
    rw [e]
    omega
theorem ct_S_openCursors {s : Nat} {bd : Int} {Z : ab_Z} {M : mm_M} {R : Int → mm_M → Prop} (k : cZ_ M s Z) (j : jZ_ bd Z) (h : R (on_ (zC_ Z) 3) M) : nr_Store_openCursors s M R := by
  refine ng_Store_openCursors _ _ _ ?_
  have L : ∀ i : Int, i ≤ 3 → 0 ≤ i → nk_Store_openCursors_4 s (on_ (zC_ Z) i.toNat) i M R := by
    refine lp_up (fun i hi ih i0 => ?_)
    have bb := on_b j.2.2 i.toNat (by omega)
    refine ng_Store_openCursors_4 _ _ _ _ _ ⟨fun c => ?_, fun c => ⟨⟨i0, c⟩, ?_⟩⟩
    · rw [show i.toNat = 3 by omega]; exact h
    have ih := ih c (by omega)
    have e : on_ (zC_ Z) (i + 1).toNat = on_ (zC_ Z) i.toNat + (zC_ Z i).1.1 := by
      rw [show (i + 1).toNat = i.toNat + 1 by omega]
      show on_ (zC_ Z) i.toNat + (zC_ Z ((i.toNat : Nat) : Int)).1.1 = _
      rw [show ((i.toNat : Nat) : Int) = i by omega]
    rw [e] at ih
    have ku := (k.2.2.2.2.2 i i0 c).1
    have kj := (j.2.2 i i0 c).1
    rw [ku, mm_w_id (x := i + 1) (by omega), mm_w_id (x := on_ (zC_ Z) i.toNat + 0) (by omega), mm_w_id (x := on_ (zC_ Z) i.toNat + 1) (by omega)]
    refine ⟨fun z => ?_, fun z => ?_⟩
    · rw [z] at ih; exact ih
    · rw [kj.resolve_left z] at ih; exact ih
  exact L 0 (by omega) (Int.le_refl _)
theorem nf_cu {b c : Int} (hb : bk_ b) (hc : 0 ≤ c ∧ c < 3) : nf_M_cursorAt b c = b + 5204 + 90 * c := by
  unfold bk_ at hb
  unfold nf_M_cursorAt
  rw [mm_w_id (x := b + 5204) (by omega), mm_w_id (x := 90 * c) (by omega), mm_w_id (by omega)]
theorem ct_M_cursors {b bd bd' : Int} {Z : ab_Z} {M : mm_M} {R : Int → mm_M → Prop} (hb : bk_ b) (k : mY_ bd M b Z) (j : jZ_ bd' Z) (h : R (on_ (zC_ Z) 3) M) : nr_M_cursors b M R := by
  have hb' := hb
  unfold bk_ at hb'
  refine ng_M_cursors _ _ _ ?_
  have L : ∀ i : Int, i ≤ 3 → 0 ≤ i → nk_M_cursors_4 b (on_ (zC_ Z) i.toNat) i M R := by
    refine lp_up (fun i hi ih i0 => ?_)
    have bb := on_b j.2.2 i.toNat (by omega)
    refine ng_M_cursors_4 _ _ _ _ _ ⟨fun c => ?_, fun c => ?_⟩
    · rw [show i.toNat = 3 by omega]; exact h
    have ih := ih c (by omega)
    have e : on_ (zC_ Z) (i + 1).toNat = on_ (zC_ Z) i.toNat + (zC_ Z i).1.1 := by
      rw [show (i + 1).toNat = i.toNat + 1 by omega]
      show on_ (zC_ Z) i.toNat + (zC_ Z ((i.toNat : Nat) : Int)).1.1 = _
      rw [show ((i.toNat : Nat) : Int) = i by omega]
    rw [e] at ih
    have ku := (k.1.2.2.2 i i0 c).1
    have kj := (j.2.2 i i0 c).1
    rw [nf_cu hb ⟨i0, c⟩, ku, mm_w_id (x := i + 1) (by omega), mm_w_id (x := on_ (zC_ Z) i.toNat + (zC_ Z i).1.1) (by omega)]
    refine ⟨by omega, ?_⟩
    intro y ey
    rw [ey]
    exact ih
  exact L 0 (by omega) (Int.le_refl _)
/-- indexes, as bits -/
def ibs_ (Xs : Int → ab_X) : Nat → Int
  | 0 => 0
  | k + 1 => mm_or (ibs_ Xs k) (if xh_ (Xs (k : Int)) = 0 then 0 else mm_shl 1 (k : Int))
theorem ct_S_bits {s : Nat} {Z : ab_Z} {M : mm_M} {R : Int → mm_M → Prop} (k : cZ_ M s Z) (h : R (ibs_ (aTX_ (zT_ Z)) 4) M) : nr_Store_bits s M R := by
  refine ng_Store_bits _ _ _ ?_
  have L : ∀ i : Int, i ≤ 4 → 0 ≤ i → nk_Store_bits_4 s (ibs_ (aTX_ (zT_ Z)) i.toNat) i M R := by
    refine lp_up (fun i hi ih i0 => ?_)
    refine ng_Store_bits_4 _ _ _ _ _ ⟨fun c => ?_, fun c => ⟨⟨i0, c⟩, ?_⟩⟩
    · rw [show i.toNat = 4 by omega]; exact h
    have ih := ih c (by omega)
    have e : ibs_ (aTX_ (zT_ Z)) (i + 1).toNat = mm_or (ibs_ (aTX_ (zT_ Z)) i.toNat) (if xh_ (aTX_ (zT_ Z) i) = 0 then 0 else mm_shl 1 i) := by
      rw [show (i + 1).toNat = i.toNat + 1 by omega]
      show mm_or (ibs_ (aTX_ (zT_ Z)) i.toNat) (if xh_ (aTX_ (zT_ Z) ((i.toNat : Nat) : Int)) = 0 then 0 else mm_shl 1 ((i.toNat : Nat) : Int)) = _
      rw [show ((i.toNat : Nat) : Int) = i by omega]
    rw [e] at ih
    have kx := (k.1.2.2 i i0 c).1
    rw [kx, mm_w_id (x := i + 1) (by omega)]
    refine ⟨fun z => ?_, fun z => ?_⟩
    · rw [if_neg z] at ih; exact ih
    · rw [if_pos z] at ih; exact ih
  exact L 0 (by omega) (Int.le_refl _)
theorem ct_M_indexes {b bd bd' : Int} {Z : ab_Z} {M : mm_M} {R : Int → mm_M → Prop} (hb : bk_ b) (k : mY_ bd M b Z) (j : jZ_ bd' Z) (h : R (ibs_ (aTX_ (zT_ Z)) 4) M) : nr_M_indexes b M R := by
  have hb' := hb
  unfold bk_ at hb'
  refine ng_M_indexes _ _ _ ?_
  have L : ∀ i : Int, i ≤ 4 → 0 ≤ i → nk_M_indexes_4 b (ibs_ (aTX_ (zT_ Z)) i.toNat) i M R := by
    refine lp_up (fun i hi ih i0 => ?_)
    refine ng_M_indexes_4 _ _ _ _ _ ⟨fun c => ?_, fun c => ?_⟩
    · rw [show i.toNat = 4 by omega]; exact h
    have ih := ih c (by omega)
    have e : ibs_ (aTX_ (zT_ Z)) (i + 1).toNat = mm_or (ibs_ (aTX_ (zT_ Z)) i.toNat) (if xh_ (aTX_ (zT_ Z) i) = 0 then 0 else mm_shl 1 i) := by
      rw [show (i + 1).toNat = i.toNat + 1 by omega]
      show mm_or (ibs_ (aTX_ (zT_ Z)) i.toNat) (if xh_ (aTX_ (zT_ Z) ((i.toNat : Nat) : Int)) = 0 then 0 else mm_shl 1 ((i.toNat : Nat) : Int)) = _
      rw [show ((i.toNat : Nat) : Int) = i by omega]
    rw [e] at ih
    have kx := (k.1.1.2.2 i i0 c).1
    have h3 := h012 j i0 c
    have hx : b + 1784 ≤ xi_ b i ∧ xi_ b i + 855 ≤ 32844 := by unfold xi_; omega
    rw [nf_at hb ⟨i0, c⟩, mm_w_id (x := b + 1784 + 855 * i + 0) (by omega), show b + 1784 + 855 * i + 0 = xi_ b i by unfold xi_; omega, kx, mm_w_id (x := i + 1) (by omega)]
    refine ⟨by omega, fun z => ?_, fun z => ?_⟩
    · rw [if_pos (by omega)] at ih; exact ih
    · rw [if_neg (by omega)] at ih; exact ih
  exact L 0 (by omega) (Int.le_refl _)
