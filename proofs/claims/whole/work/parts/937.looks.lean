/-! the Model's looks; entries told, both sides -/
def fo_2 (V : ab_V) : Nat → Int
  | 0 => 0
  | k + 1 => mm_or (fo_2 V k) (if (V k).isSome = true then mm_shl 1 ((k : Int) % 8) else 0)
theorem bt_fo {V : ab_V} {i : Nat} (hi : i < 32) : ∀ k : Nat, bt_ (fo_2 V k) i = true ↔ ∃ j, j < k ∧ j % 8 = i ∧ (V j).isSome = true
  | 0 => by
    show bt_ 0 i = true ↔ _
    rw [bt_zero]
    exact ⟨fun z => absurd z (by decide), fun ⟨j, h, _⟩ => absurd h (by omega)⟩
  | k + 1 => by
    have ih := bt_fo (V := V) hi k
    have e : fo_2 V (k + 1) = mm_or (fo_2 V k) (if (V k).isSome = true then mm_shl 1 ((k : Int) % 8) else 0) := rfl
    rw [e, bt_or, Bool.or_eq_true, ih]
    by_cases z : (V k).isSome = true
    · rw [if_pos z, show (k : Int) % 8 = ((k % 8 : Nat) : Int) by omega, bt_one (k % 8) i (by omega) hi, decide_eq_true_eq]
      constructor
      · rintro (⟨j, h1, h2, h3⟩ | h)
        · exact ⟨j, by omega, h2, h3⟩
        · exact ⟨k, by omega, h.symm, z⟩
      · rintro ⟨j, h1, h2, h3⟩
        by_cases y : j = k
        · exact Or.inr (by rw [← y]; exact h2.symm)
        · exact Or.inl ⟨j, by omega, h2, h3⟩
    · rw [if_neg z, bt_zero]
      constructor
      · rintro (⟨j, h1, h2, h3⟩ | h)
        · exact ⟨j, by omega, h2, h3⟩
        · exact absurd h (by decide)
      · rintro ⟨j, h1, h2, h3⟩
        by_cases y : j = k
        · rw [y] at h3; exact absurd h3 z
        · exact Or.inl ⟨j, by omega, h2, h3⟩
theorem bt_fo8 {V : ab_V} {i : Nat} (hi : i < 8) : bt_ (fo_2 V 32) i = fl_ V i := by
  rw [Bool.eq_iff_iff, bt_fo (by omega)]
  unfold fl_
  rw [Bool.or_eq_true, Bool.or_eq_true, Bool.or_eq_true]
  constructor
  · rintro ⟨j, h1, h2, h3⟩
    have : j = i ∨ j = 8 + i ∨ j = 16 + i ∨ j = 24 + i := by omega
    rcases this with e | e | e | e
    · rw [e] at h3; exact Or.inl (Or.inl (Or.inl h3))
    · rw [e] at h3; exact Or.inl (Or.inl (Or.inr h3))
    · rw [e] at h3; exact Or.inl (Or.inr h3)
    · rw [e] at h3; exact Or.inr h3
  · rintro (((h | h) | h) | h)
    · exact ⟨i, by omega, by omega, h⟩
    · exact ⟨8 + i, by omega, by omega, h⟩
    · exact ⟨16 + i, by omega, by omega, h⟩
    · exact ⟨24 + i, by omega, by omega, h⟩
theorem fo_rng (V : ab_V) : ∀ k : Nat, -2147483648 ≤ fo_2 V k ∧ fo_2 V k < 2147483648
  | 0 => by show (-2147483648 : Int) ≤ 0 ∧ (0 : Int) < 2147483648; omega
  | k + 1 => by
    show -2147483648 ≤ mm_or (fo_2 V k) _ ∧ mm_or (fo_2 V k) _ < 2147483648
    rw [bb_or]; exact bb_rng _
theorem nf_filter {v : Nat} {M : mm_M} : nf_Versions_filter v M = fo_2 (cv_ M v) 32 := by
  refine bt_ext (by unfold nf_Versions_filter; rw [bb_and]; exact bb_rng _) (fo_rng _ _) (fun k hk => ?_)
  by_cases h8 : k < 8
  · rw [bt_fl k h8, bt_fo8 h8]
  · have h1 : bt_ (nf_Versions_filter v M) k = false := by
      unfold nf_Versions_filter
      rw [bt_and, bt_255 k hk, decide_eq_false h8, Bool.and_false]
    rw [h1]
    cases h2 : bt_ (fo_2 (cv_ M v) 32) k with
    | false => rfl
    | true =>
      obtain ⟨j, _, hj, _⟩ := (bt_fo hk 32).mp h2
      omega
theorem shr1 {w s : Int} (hs : 0 ≤ s ∧ s < 8) : mm_and (mm_shr w s) 1 = if bt_ w s.toNat = true then 1 else 0 := by
  rw [← bt_has w s (by omega)]
  refine bt_ext (by rw [bb_and]; exact bb_rng _) (by rw [bb_and]; exact bb_rng _) (fun k hk => ?_)
  rw [bt_and, bt_and]
  have e1 : bt_ 1 k = decide (k = 0) := by
    have := bt_one 0 k (by decide) hk
    rw [show mm_shl 1 ((0 : Nat) : Int) = 1 from by decide] at this
    exact this
  rw [e1]
  by_cases z : k = 0
  · have e : s = ((s.toNat : Nat) : Int) := by omega
    have h1 : bt_ (mm_shr w s) k = bt_ w (s.toNat + k) := by
      unfold bt_
      rw [e, bb_shr w s.toNat (by omega), BitVec.ofInt_toInt, BitVec.getLsbD_sshiftRight, if_pos (by omega), show ((s.toNat : Nat) : Int).toNat = s.toNat by omega]
      rw [decide_eq_false (by omega)]
      rfl
    have h2 : bt_ (mm_ushr w s) k = bt_ w (s.toNat + k) := by
      rw [e]
      have := bt_ushr w s.toNat k (by omega)
      rw [show ((s.toNat : Nat) : Int).toNat = s.toNat by omega]
      exact this
    rw [h1, h2]
  · rw [decide_eq_false z, Bool.and_false, Bool.and_false]
theorem mv_some {M : mm_M} {x k : Int} (hk : 0 ≤ k ∧ k < 32) : (mv_ M x k.toNat).isSome = decide (0 < nn_ri M 408 (x + k)) := by
  by_cases z : 0 < nn_ri M 408 (x + k)
  · rw [mv_pos hk z, decide_eq_true z]; rfl
  · rw [mv_npos hk (by omega), decide_eq_false z]; rfl
theorem ct_M_filter {b r n : Int} {M : mm_M} {R : Int → mm_M → Prop} {mem : ab_V} {q : Int → ab_R} (hb0 : b = 0) (t : tM_ M b mem n q) (hr : 0 ≤ r ∧ r < n) (h : R (fo_2 (q r).2.2.2.2.2 32) M) : nr_M_filter r M R := by
  subst hb0
  have hn := t.2.2.1.2
  obtain ⟨_, _, _, _, r5, r6⟩ := t.2.2.2 r hr.1 hr.2
  refine ng_M_filter _ _ _ ?_
  have L : ∀ k : Int, k ≤ 32 → 0 ≤ k → nk_M_filter_4 r (fo_2 (q r).2.2.2.2.2 k.toNat) k M R := by
    refine lp_up (fun k hk ih k0 => ?_)
    refine ng_M_filter_4 _ _ _ _ _ ⟨fun c => ?_, fun c => ?_⟩
    · rw [show k.toNat = 32 by omega]; exact h
    · have ih := ih c (by omega)
      rw [show (k + 1).toNat = k.toNat + 1 by omega] at ih
      have e : fo_2 (q r).2.2.2.2.2 (k.toNat + 1) = mm_or (fo_2 (q r).2.2.2.2.2 k.toNat) (if ((q r).2.2.2.2.2 k.toNat).isSome = true then mm_shl 1 (((k.toNat : Nat) : Int) % 8) else 0) := rfl
      rw [e, show ((k.toNat : Nat) : Int) = k by omega, ← r5, mv_some ⟨k0, c⟩, r5] at ih
      rw [nf_runAt bk_0 ⟨hr.1, by omega⟩, mm_w_id (x := 0 + 288 + 68 * r + 4) (by omega), mm_w_id (x := 0 + 288 + 68 * r + 4 + k) (by omega), mm_w_id (x := k + 1) (by omega)]
      refine ⟨by omega, fun z => ?_, fun z => ⟨by omega, ?_⟩⟩
      · rw [decide_eq_false (by omega), if_neg (by decide)] at ih
        exact ih
      · rw [decide_eq_true z, if_pos rfl] at ih
        exact ih
  exact L 0 (by omega) (Int.le_refl _)
theorem lo_s (mem : Bool) (q : Int → ab_R) (key rep : Int) (k : Nat) : lo_ mem q key rep (k + 1) = if (lo_ mem q key rep k).2 = false ∧ rep < (q k).2.2.2.2.1 ∧ fl_ (q k).2.2.2.2.2 (key % 8).toNat = true then ((lo_ mem q key rep k).1 + 1, ((q k).2.2.2.2.2 key.toNat).isSome) else lo_ mem q key rep k := rfl
theorem lo_new {mem : Bool} {q : Int → ab_R} {key rep : Int} : ∀ {k : Nat}, (∀ r : Int, 0 ≤ r → r < k → (q r).2.2.2.2.1 ≤ rep) → lo_ mem q key rep k = (1, mem)
  | 0, _ => rfl
  | k + 1, h => by
    rw [lo_s, lo_new (k := k) (fun r r0 r1 => h r r0 (by omega)), if_neg (fun w => by have := h k (by omega) (by omega); have := w.2.1; omega)]
/-- the looks at an entry of an index' row -/
def lkE_ (T : ab_T) (X : ab_X) (y : Int) : Int := (lo_ (aTm_ T (ek_ (y % 4503599627370496)).toNat).isSome (aTq_ T) (ek_ (y % 4503599627370496)) (if y / 4503599627370496 = 0 then aTs_ T else (xg_ X (y / 4503599627370496 - 1)).2.2.2.1) (aTn_ T).toNat).1
theorem ct_M_looks {x a y : Int} {T : ab_T} {X : ab_X} {M : mm_M} {R : Int → mm_M → Prop} (hx : 0 ≤ x ∧ x + 855 ≤ 32844) (ha : 0 ≤ a ∧ a + 4 ≤ 32844) (t : tM_ M 0 (aTm_ T) (aTn_ T) (aTq_ T)) (d : dT_ (aTs_ T) (aTm_ T) (aTn_ T) (aTq_ T)) (e : e4_ M a y) (hM : hM_ M x (xn_ X) (xg_ X)) (hy : y / 4503599627370496 ≤ xn_ X) (h : R (lkE_ T X y) M) : nr_M_looks x a M R := by
  obtain ⟨e0, e1, e2, e3, e4, e5⟩ := e
  have hk := ek_in (y % 4503599627370496)
  obtain ⟨t1, t2, ⟨t3, t4, t5⟩, t6⟩ := t
  have t' : tM_ M 0 (aTm_ T) (aTn_ T) (aTq_ T) := ⟨t1, t2, ⟨t3, t4, t5⟩, t6⟩
  obtain ⟨m1, m2, m3, m4⟩ := hM
  have ms : (aTm_ T (ek_ (y % 4503599627370496)).toNat).isSome = decide (0 < nn_ri M 408 (0 + 24 + ek_ (y % 4503599627370496))) := by
    rw [← t1, mv_some hk]
  have r5 : nn_ri M 408 5 = aTn_ T := by
    rw [← t3, show (0 : Int) + 5 = 5 by omega]
  refine ng_M_looks _ _ _ _ ?_
  rw [mm_w_id (x := a + 2) (by omega), e4, e2, mm_w_id (x := 24 + ek_ (y % 4503599627370496)) (by omega), mm_w_id (x := y / 4503599627370496 - 1) (by omega), nf_head ⟨by omega, by omega⟩ ⟨by omega, by omega⟩, mm_w_id (x := x + 143 + 3 * (y / 4503599627370496 - 1) + 2) (by omega)]
  unfold lkE_ at h
  rw [show (0 : Int) + 24 + ek_ (y % 4503599627370496) = 24 + ek_ (y % 4503599627370496) by omega] at ms
  refine ⟨by omega, by omega, fun _ => by omega, fun _ => by omega, fun _ => by omega, fun z => ?_, fun z => ?_⟩
  · by_cases z0 : y / 4503599627370496 = 0
    · rw [if_pos z0, lo_new (fun r r0 r1 => (d.2.1 r r0 (by omega)).2.1)] at h
      exact h
    · have z1 := z.resolve_left z0
      rw [ms, decide_eq_true z1] at h
      rw [lo_found (k := 0) (Nat.zero_le _) rfl] at h
      exact h
  · rw [if_neg z.1, ms, decide_eq_false (by omega)] at h
    obtain ⟨_, _, g3⟩ := m4 (y / 4503599627370496 - 1) (by omega) (by omega)
    rw [g3]
    intro rep er
    rw [← er] at h
    have L : ∀ r : Int, r ≤ aTn_ T → 0 ≤ r → (lo_ false (aTq_ T) (ek_ (y % 4503599627370496)) rep r.toNat).2 = false → nk_M_looks_59 (ek_ (y % 4503599627370496)) rep (lo_ false (aTq_ T) (ek_ (y % 4503599627370496)) rep r.toNat).1 r M R := by
      refine lp_up (fun r hr ih r0 hf => ?_)
      have hin := lo_in false (aTq_ T) (ek_ (y % 4503599627370496)) rep r.toNat
      refine ng_M_looks_59 _ _ _ _ _ _ ?_
      rw [r5]
      refine ⟨fun c => ?_, fun c => ?_⟩
      · rw [show r.toNat = (aTn_ T).toNat by omega]; exact h
      · have ih := ih c (by omega)
        rw [show (r + 1).toNat = r.toNat + 1 by omega, lo_s, show ((r.toNat : Nat) : Int) = r by omega] at ih
        obtain ⟨_, _, _, q4, q5, q6⟩ := t6 r r0 c
        rw [nf_runAt bk_0 ⟨r0, by omega⟩, mm_w_id (x := 0 + 288 + 68 * r + 3) (by omega), q4, mm_w_id (x := r + 1) (by omega), mm_w_id (x := 0 + 288 + 68 * r + 4) (by omega), mm_w_id (x := 0 + 288 + 68 * r + 4 + ek_ (y % 4503599627370496)) (by omega), mm_w_id (x := (lo_ false (aTq_ T) (ek_ (y % 4503599627370496)) rep r.toNat).1 + 1) (by omega)]
        refine ⟨by omega, fun z2 => ?_, fun z2 => ?_⟩
        · rw [if_neg (fun w => by have := w.2.1; omega)] at ih
          exact ih hf
        · refine ct_M_filter rfl t' ⟨r0, c⟩ ?_
          rw [shr1 (by omega), bt_fo8 (by omega)]
          by_cases hfl : fl_ (aTq_ T r).2.2.2.2.2 (ek_ (y % 4503599627370496) % 8).toNat = true
          · rw [if_pos hfl]
            have q5' : ((aTq_ T r).2.2.2.2.2 (ek_ (y % 4503599627370496)).toNat).isSome = decide (0 < nn_ri M 408 (0 + 288 + 68 * r + 4 + ek_ (y % 4503599627370496))) := by
              rw [← q5, mv_some hk]
            rw [if_pos ⟨hf, z2, hfl⟩, q5'] at ih
            refine ⟨by omega, fun _ => ⟨by omega, fun w => ?_, fun w => ?_⟩, fun w => absurd w (by decide)⟩
            · rw [decide_eq_false (by omega)] at ih
              exact ih rfl
            · have e1 : lo_ false (aTq_ T) (ek_ (y % 4503599627370496)) rep (r.toNat + 1) = ((lo_ false (aTq_ T) (ek_ (y % 4503599627370496)) rep r.toNat).1 + 1, true) := by
                rw [lo_s, show ((r.toNat : Nat) : Int) = r by omega, if_pos ⟨hf, z2, hfl⟩, q5', decide_eq_true w]
              rw [lo_found (k := r.toNat + 1) (by omega) (by rw [e1]), e1] at h
              exact h
          · rw [if_neg hfl]
            rw [if_neg (fun w => hfl w.2.2)] at ih
            exact ⟨by omega, fun w => absurd rfl w, fun _ => ih hf⟩
    exact L 0 t4 (Int.le_refl _) rfl
/-- what is told of an entry -/
def teY_ (T : ab_T) (X : ab_X) (y what : Int) : Int := if what = 0 then ev_ (y % 4503599627370496) else if what = 1 then ek_ (y % 4503599627370496) else if what = 2 then et_ (y % 4503599627370496) else if what = 3 then (if fs_ (aTl_ T) (y % 4503599627370496) = true then 0 else 1) else if what = 4 then lkE_ T X y else -2
theorem ct_LI_toldEntry {what : Int} {Z : ab_Z} {M : mm_M} {R : Int → mm_M → Prop} {r e rep y : Int} {X : ab_X} (k : cZ_ M 2 Z) (he : ve_ e) (hr : 0 ≤ r) (hy : y = r * 4503599627370496 + e) (hrep : rep = if r = 0 then aTs_ (zT_ Z) else (xg_ X (r - 1)).2.2.2.1) (h : R (teY_ (zT_ Z) X y what) M) : nr_LI_toldEntry e 5 rep what M R := by
  have kt : tb_ M 5 (aTm_ (zT_ Z)) (aTl_ (zT_ Z)) (aTn_ (zT_ Z)) (aTq_ (zT_ Z)) := k.1.1
  have hl : cv_ M 9 = aTl_ (zT_ Z) := kt.2.1.1
  have he2 := he
  unfold ve_ at he2
  have m1 : y % 4503599627370496 = e := by omega
  have m2 : y / 4503599627370496 = r := by omega
  unfold teY_ lkE_ at h
  rw [m1, m2, ← hrep] at h
  refine ng_LI_toldEntry _ _ _ _ _ _ ?_
  rw [nf_valueOf he, nf_keyOf he, nf_stampOf he]
  have hs := nf_stale (v := 9) (M := M) he
  rw [hl] at hs
  have hs : nf_LI_isStale e (5 + 4) M = if fs_ (aTl_ (zT_ Z)) e = true then 0 else 1 := hs
  refine ⟨fun z => ?_, fun z => ?_, fun z => ?_, fun z => ⟨nc_stale he, ?_⟩, fun z => ?_, fun z => ?_⟩
  · rw [if_pos z] at h; exact h
  · rw [if_neg (by omega), if_pos z] at h; exact h
  · rw [if_neg (by omega), if_neg (by omega), if_pos z] at h; exact h
  · rw [if_neg (c := what = 0) (by omega), if_neg (c := what = 1) (by omega), if_neg (c := what = 2) (by omega), if_pos (c := what = 3) z] at h
    rw [hs]
    by_cases f : fs_ (aTl_ (zT_ Z)) e = true
    · rw [if_pos f] at h ⊢
      exact ⟨fun _ => h, fun w => absurd rfl w⟩
    · rw [if_neg f] at h ⊢
      exact ⟨fun w => absurd w (by decide), fun _ => h⟩
  · rw [if_neg (c := what = 0) (by omega), if_neg (c := what = 1) (by omega), if_neg (c := what = 2) (by omega), if_neg (c := what = 3) (by omega), if_pos (c := what = 4) z] at h
    exact ct_T_looks (ek_in e) kt h
  · rw [if_neg (c := what = 0) (by omega), if_neg (c := what = 1) (by omega), if_neg (c := what = 2) (by omega), if_neg (c := what = 3) (by omega), if_neg (c := what = 4) (by omega)] at h
    exact h
