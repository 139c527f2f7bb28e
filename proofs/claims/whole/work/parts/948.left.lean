/-! what is left over, both sides: ids are only told apart -/
def st1_ (T : ab_T) (id : Int) : Prop := (∃ r, 0 ≤ r ∧ r < aTn_ T ∧ (aTq_ T r).1 = id) ∨ ∃ i, 0 ≤ i ∧ i < 4 ∧ xh_ (aTX_ T i) ≠ 0 ∧ ∃ r, 0 ≤ r ∧ r < xn_ (aTX_ T i) ∧ (xg_ (aTX_ T i) r).1 = id
def st2_ (T : ab_T) (id : Int) : Prop := (∃ r, 0 ≤ r ∧ r < aTn_ T ∧ (aTq_ T r).2.1 = id) ∨ ∃ i, 0 ≤ i ∧ i < 4 ∧ xh_ (aTX_ T i) ≠ 0 ∧ ∃ r, 0 ≤ r ∧ r < xn_ (aTX_ T i) ∧ (xg_ (aTX_ T i) r).2.1 = id
def hd1_ (C : Int → ab_D) (id c : Int) : Prop := ∃ i, 0 ≤ i ∧ i < c ∧ (C i).1.1 ≠ 0 ∧ ∃ h, 0 ≤ h ∧ h < (C i).1.2.2.2.2.1 ∧ (C i).1.2.2.2.2.2 h = id
def hd2_ (C : Int → ab_D) (id c : Int) : Prop := ∃ i, 0 ≤ i ∧ i < c ∧ (C i).1.1 ≠ 0 ∧ ∃ h, 0 ≤ h ∧ h < (C i).1.2.2.2.2.1 ∧ (C i).2 h = id
theorem ct_among {o : Nat} {n id : Int} {f : Int → Int} {M : mm_M} {R : Int → mm_M → Prop} (hn : 0 ≤ n ∧ n ≤ ((mm_kd o).2 : Int)) (hs : n ≤ 1000) (hf : ∀ i, 0 ≤ i → i < n → nn_ri M o i = f i) (h1 : (∃ i, 0 ≤ i ∧ i < n ∧ f i = id) → R 1 M) (h0 : (¬ ∃ i, 0 ≤ i ∧ i < n ∧ f i = id) → R 0 M) : nr_LI_isAmong o n id M R := by
  refine ng_LI_isAmong _ _ _ _ _ ?_
  have L : ∀ i : Int, i ≤ n → 0 ≤ i → (∀ q, 0 ≤ q → q < i → f q ≠ id) → nk_LI_isAmong_2 o n id i M R := by
    refine lp_up (fun i hi ih i0 hq => ?_)
    refine ng_LI_isAmong_2 _ _ _ _ _ _ ⟨fun c => h0 ?_, fun c => ⟨by omega, fun z => ?_, fun z => h1 ⟨i, i0, c, by rw [← hf i i0 c]; exact z⟩⟩⟩
    · rintro ⟨q, q0, q1, q2⟩
      exact hq q q0 (by omega) q2
    · rw [mm_w_id (x := i + 1) (by omega)]
      refine ih c (by omega) (fun q q0 q1 => ?_)
      by_cases w : q = i
      · rw [w, ← hf i i0 c]; exact z
      · exact hq q q0 (by omega)
  exact L 0 hn.1 (Int.le_refl _) (fun q q0 q1 => by omega)
theorem kd_t {s : Nat} (h : sk_ s) : (mm_kd (s + 12)).2 = 24 := by
  unfold sk_ at h
  rcases h with rfl | rfl | rfl | rfl | rfl <;> decide +kernel
theorem kd_x {s : Nat} (h : sk_ s) {i : Int} (h0 : 0 ≤ i) (h1 : i < 4) : (mm_kd (s + 90 + 15 * i.toNat + 13)).2 = 24 := by
  have key : ∀ j : Nat, j < 4 → (mm_kd (s + 90 + 15 * j + 13)).2 = 24 := by
    unfold sk_ at h
    rcases h with rfl | rfl | rfl | rfl | rfl <;> decide +kernel
  exact key i.toNat (by omega)
theorem kd_c {s : Nat} (h : sk_ s) {i : Int} (h0 : 0 ≤ i) (h1 : i < 3) : (mm_kd (s + 150 + 3 * i.toNat + 2)).2 = 48 := by
  have key : ∀ j : Nat, j < 3 → (mm_kd (s + 150 + 3 * j + 2)).2 = 48 := by
    unfold sk_ at h
    rcases h with rfl | rfl | rfl | rfl | rfl <;> decide +kernel
  exact key i.toNat (by omega)
theorem ct_S_stands {s : Nat} {id : Int} {T : ab_T} {M : mm_M} {R : Int → mm_M → Prop} (hs : sk_ s) (k : cT_ M s T) (h1 : st1_ T id → R 1 M) (h0 : ¬ st1_ T id → R 0 M) : nr_Store_stands s id M R := by
  obtain ⟨kt, _, kX⟩ := k
  have hn := kt.2.2.1
  refine ng_Store_stands _ _ _ _ ?_
  rw [hn.1]
  have one : st1_ T id → ∀ i : Int, i ≤ 4 → 0 ≤ i → nk_Store_stands_21 s id 1 i M R := by
    intro hh i hi i0
    refine ng_Store_stands_21 _ _ _ _ _ _ ⟨fun _ => ⟨Or.inr rfl, h1 hh⟩, fun _ => ⟨fun _ => ⟨Or.inr rfl, h1 hh⟩, fun w => absurd w (by decide)⟩⟩
  have L : (¬ ∃ r, 0 ≤ r ∧ r < aTn_ T ∧ (aTq_ T r).1 = id) → ∀ i : Int, i ≤ 4 → 0 ≤ i → (∀ q, 0 ≤ q → q < i → xh_ (aTX_ T q) ≠ 0 → ¬ ∃ r, 0 ≤ r ∧ r < xn_ (aTX_ T q) ∧ (xg_ (aTX_ T q) r).1 = id) → nk_Store_stands_21 s id 0 i M R := by
    intro ht
    refine lp_up (fun i hi ih i0 hq => ?_)
    refine ng_Store_stands_21 _ _ _ _ _ _ ⟨fun c => ⟨Or.inl rfl, h0 ?_⟩, fun c => ⟨fun w => absurd rfl w, fun _ => ⟨⟨i0, c⟩, ?_⟩⟩⟩
    · rintro (w | ⟨q, q0, q1, q2, q3⟩)
      · exact ht w
      · exact hq q q0 (by omega) q2 q3
    have kx := kX i i0 c
    rw [kx.1, mm_w_id (x := i + 1) (by omega)]
    refine ⟨fun z => ih c (by omega) (fun q q0 q1 q2 => ?_), fun z => ?_⟩
    · by_cases w : q = i
      · rw [w] at q2; exact absurd z q2
      · exact hq q q0 (by omega) q2
    · obtain ⟨_, _, _, _, p, _⟩ := kx.2.2 z
      rw [p.1.1]
      refine ct_among (f := fun r => (xg_ (aTX_ T i) r).1) (by rw [kd_x hs i0 c]; have := p.1.2; omega) (by have := p.1.2; omega) (fun r r0 r1 => ?_) (fun y => ⟨fun w => absurd w (by decide), fun _ => ?_⟩) (fun y => ⟨fun _ => ih c (by omega) (fun q q0 q1 q2 => ?_), fun w => absurd rfl w⟩)
      · have := (p.2.2.1 r r0 r1).1
        rw [show s + 90 + 15 * i.toNat + 8 + 5 = s + 90 + 15 * i.toNat + 13 by omega] at this
        exact this
      · obtain ⟨r, r0, r1, r2⟩ := y
        exact one (Or.inr ⟨i, i0, c, z, r, r0, r1, r2⟩) _ (by omega) (by omega)
      · by_cases w : q = i
        · rw [w]; exact y
        · exact hq q q0 (by omega) q2
  refine ct_among (f := fun r => (aTq_ T r).1) (by rw [kd_t hs]; omega) (by omega) (fun r r0 r1 => ?_) (fun y => ?_) (fun y => ?_)
  · have := (kt.2.2.2.2 r r0 r1).1
    rw [show s + 3 + 9 = s + 12 by omega] at this
    exact this
  · exact one (Or.inl y) _ (by omega) (Int.le_refl _)
  · exact L y 0 (by omega) (Int.le_refl _) (fun q q0 q1 => by omega)
theorem ct_S_heldAhead {s : Nat} {id c : Int} {C : Int → ab_D} {M : mm_M} {R : Int → mm_M → Prop} (hs : sk_ s) (hc : 0 ≤ c ∧ c ≤ 3) (k : ∀ i, 0 ≤ i → i < 3 → cu2_ M (s + 150 + 3 * i.toNat) (C i).1) (h1 : hd1_ C id c → R 1 M) (h0 : ¬ hd1_ C id c → R 0 M) : nr_Store_isHeldAhead s id c M R := by
  refine ng_Store_isHeldAhead _ _ _ _ _ ?_
  have L : ∀ i : Int, i ≤ c → 0 ≤ i → (¬ hd1_ C id i) → nk_Store_isHeldAhead_2 s id c i M R := by
    refine lp_up (fun i hi ih i0 hq => ?_)
    refine ng_Store_isHeldAhead_2 _ _ _ _ _ _ ⟨fun d => h0 ?_, fun d => ⟨⟨i0, by omega⟩, ?_⟩⟩
    · rw [show c = i by omega]; exact hq
    have ku := k i i0 (by omega)
    have nx : ((C i).1.1 = 0 ∨ ¬ ∃ h, 0 ≤ h ∧ h < (C i).1.2.2.2.2.1 ∧ (C i).1.2.2.2.2.2 h = id) → ¬ hd1_ C id (i + 1) := by
      rintro w ⟨q, q0, q1, q2, q3⟩
      by_cases v : q = i
      · rw [v] at q2 q3
        rcases w with w | w
        · exact q2 w
        · exact w q3
      · exact hq ⟨q, q0, by omega, q2, q3⟩
    rw [ku.1, mm_w_id (x := i + 1) (by omega)]
    obtain ⟨_, _, _, _, _, ⟨u8, u9⟩, u10⟩ := ku
    refine ⟨fun z => ih d (by omega) (nx (Or.inl z)), fun z => ⟨⟨i0, by omega⟩, ⟨i0, by omega⟩, ?_⟩⟩
    rw [u8]
    refine ct_among (f := (C i).1.2.2.2.2.2) (by rw [kd_c hs i0 (by omega)]; omega) (by omega) u10 (fun y => ⟨fun w => absurd w (by decide), fun _ => h1 ?_⟩) (fun y => ⟨fun _ => ih d (by omega) (nx (Or.inr y)), fun w => absurd rfl w⟩)
    exact ⟨i, i0, d, z, y⟩
  exact L 0 hc.1 (Int.le_refl _) (fun ⟨q, q0, q1, _⟩ => by omega)
noncomputable def lq1_ (T : ab_T) (C : Int → ab_D) (c h : Int) : Bool := @decide ((C c).1.1 ≠ 0 ∧ ¬ st1_ T ((C c).1.2.2.2.2.2 h) ∧ ¬ hd1_ C ((C c).1.2.2.2.2.2 h) c) (Classical.propDecidable _)
noncomputable def lq2_ (T : ab_T) (C : Int → ab_D) (c h : Int) : Bool := @decide ((C c).1.1 ≠ 0 ∧ ¬ st2_ T ((C c).2 h) ∧ ¬ hd2_ C ((C c).2 h) c) (Classical.propDecidable _)
theorem lq1_t {T : ab_T} {C : Int → ab_D} {c h : Int} : lq1_ T C c h = true ↔ ((C c).1.1 ≠ 0 ∧ ¬ st1_ T ((C c).1.2.2.2.2.2 h) ∧ ¬ hd1_ C ((C c).1.2.2.2.2.2 h) c) := @decide_eq_true_iff _ (Classical.propDecidable _)
theorem lq2_t {T : ab_T} {C : Int → ab_D} {c h : Int} : lq2_ T C c h = true ↔ ((C c).1.1 ≠ 0 ∧ ¬ st2_ T ((C c).2 h) ∧ ¬ hd2_ C ((C c).2 h) c) := @decide_eq_true_iff _ (Classical.propDecidable _)
noncomputable def lo1_ (T : ab_T) (C : Int → ab_D) (n : Nat) : Int := sm_ (fun c => ct_ (lq1_ T C c) 0 (C c).1.2.2.2.2.1.toNat) n
noncomputable def lo2_ (T : ab_T) (C : Int → ab_D) (n : Nat) : Int := sm_ (fun c => ct_ (lq2_ T C c) 0 (C c).1.2.2.2.2.1.toNat) n
theorem sm_ub {st : Int → Int} {b : Int} : ∀ {n : Nat}, (∀ i : Int, 0 ≤ i → i < n → 0 ≤ st i ∧ st i ≤ b) → 0 ≤ sm_ st n ∧ sm_ st n ≤ b * (n : Int)
  | 0, _ => ⟨Int.le_refl _, by show (0 : Int) ≤ b * ((0 : Nat) : Int); rw [show ((0 : Nat) : Int) = 0 from rfl, Int.mul_zero]; exact Int.le_refl _⟩
  | n + 1, h => by
    have h1 := sm_ub (st := st) (b := b) (n := n) (fun i i0 i1 => h i i0 (by omega))
    have h2 := h (n : Int) (by omega) (by omega)
    have e : sm_ st (n + 1) = sm_ st n + st (n : Int) := rfl
    rw [e, show ((n + 1 : Nat) : Int) = (n : Int) + 1 by omega, Int.mul_add, Int.mul_one]
    omega
theorem ct_no {p : Int → Bool} {s : Int} : ∀ {m : Nat}, (∀ i, s ≤ i → i < s + m → p i = false) → ct_ p s m = 0
  | 0, _ => rfl
  | m + 1, h => by
    unfold ct_
    rw [ct_no (m := m) (fun i i0 i1 => h i i0 (by omega)), h (s + m) (by omega) (by omega)]
    rfl
theorem ct_S_leftOver {s : Nat} {bd : Int} {Z : ab_Z} {M : mm_M} {R : Int → mm_M → Prop} (hs : sk_ s) (k : cZ_ M s Z) (j : jZ_ bd Z) (h : R (lo1_ (zT_ Z) (zC_ Z) 3) M) : nr_Store_leftOver s M R := by
  have ku := k.2.2.2.2.2
  refine ng_Store_leftOver _ _ _ ?_
  have hb : ∀ n : Nat, n ≤ 3 → 0 ≤ lo1_ (zT_ Z) (zC_ Z) n ∧ lo1_ (zT_ Z) (zC_ Z) n ≤ 48 * (n : Int) := fun n hn => sm_ub (fun i i0 i1 => by
    have h1 := ct_in (lq1_ (zT_ Z) (zC_ Z) i) 0 (zC_ Z i).1.2.2.2.2.1.toNat
    have h2 := (j.2.2 i i0 (by omega)).2.2.2
    omega)
  have L : ∀ c : Int, c ≤ 3 → 0 ≤ c → nk_Store_leftOver_4 s (lo1_ (zT_ Z) (zC_ Z) c.toNat) c M R := by
    refine lp_up (fun c hc ih c0 => ?_)
    refine ng_Store_leftOver_4 _ _ _ _ _ ⟨fun d => ?_, fun d => ?_⟩
    · rw [show c.toNat = 3 by omega]; exact h
    have ih := ih d (by omega)
    have e : lo1_ (zT_ Z) (zC_ Z) (c + 1).toNat = lo1_ (zT_ Z) (zC_ Z) c.toNat + ct_ (lq1_ (zT_ Z) (zC_ Z) c) 0 (zC_ Z c).1.2.2.2.2.1.toNat := by
      rw [show (c + 1).toNat = c.toNat + 1 by omega]
      show lo1_ (zT_ Z) (zC_ Z) c.toNat + ct_ (lq1_ (zT_ Z) (zC_ Z) ((c.toNat : Nat) : Int)) 0 (zC_ Z ((c.toNat : Nat) : Int)).1.2.2.2.2.1.toNat = _
      rw [show ((c.toNat : Nat) : Int) = c by omega]
    have b1 := hb c.toNat (by omega)
    obtain ⟨u1, _, _, _, _, ⟨u8, u9⟩, u10⟩ := ku c c0 d
    have LL : ∀ q : Int, q ≤ (zC_ Z c).1.2.2.2.2.1 → 0 ≤ q → nk_Store_leftOver_11 s (lo1_ (zT_ Z) (zC_ Z) c.toNat + ct_ (lq1_ (zT_ Z) (zC_ Z) c) 0 q.toNat) c q M R := by
      refine lp_up (fun q hq ihq q0 => ?_)
      have b2 := ct_in (lq1_ (zT_ Z) (zC_ Z) c) 0 q.toNat
      refine ng_Store_leftOver_11 _ _ _ _ _ _ ⟨⟨c0, d⟩, ?_⟩
      rw [u8, mm_w_id (x := c + 1) (by omega), mm_w_id (x := q + 1) (by omega), mm_w_id (x := lo1_ (zT_ Z) (zC_ Z) c.toNat + ct_ (lq1_ (zT_ Z) (zC_ Z) c) 0 q.toNat + 1) (by omega)]
      refine ⟨fun w => ?_, fun w => ⟨⟨c0, d⟩, by omega, ?_⟩⟩
      · rw [show q.toNat = (zC_ Z c).1.2.2.2.2.1.toNat by omega, ← e]; exact ih
      intro x ex
      rw [u10 q q0 w] at ex
      have ihq := ihq w (by omega)
      have e2 : ct_ (lq1_ (zT_ Z) (zC_ Z) c) 0 (q + 1).toNat = ct_ (lq1_ (zT_ Z) (zC_ Z) c) 0 q.toNat + (if lq1_ (zT_ Z) (zC_ Z) c q = true then 1 else 0) := by
        rw [show (q + 1).toNat = q.toNat + 1 by omega]
        show ct_ (lq1_ (zT_ Z) (zC_ Z) c) 0 q.toNat + (if lq1_ (zT_ Z) (zC_ Z) c (0 + ((q.toNat : Nat) : Int)) = true then 1 else 0) = _
        rw [show (0 : Int) + ((q.toNat : Nat) : Int) = q by omega]
      rw [e2, ← Int.add_assoc] at ihq
      have no : ¬ ((zC_ Z c).1.1 ≠ 0 ∧ ¬ st1_ (zT_ Z) x ∧ ¬ hd1_ (zC_ Z) x c) → nk_Store_leftOver_11 s (lo1_ (zT_ Z) (zC_ Z) c.toNat + ct_ (lq1_ (zT_ Z) (zC_ Z) c) 0 q.toNat) c (q + 1) M R := by
        intro y
        rw [ex] at y
        rw [if_neg (fun v => y (lq1_t.mp v)), Int.add_zero] at ihq
        exact ihq
      refine ⟨⟨c0, d⟩, fun z => no (fun v => v.1 (by rw [← u1]; exact z)), fun z => ?_⟩
      rw [u1] at z
      refine ct_S_stands hs k.1 (fun y => ⟨fun _ => no (fun v => v.2.1 y), fun v => absurd v (by decide)⟩) (fun y => ⟨fun v => absurd rfl v, fun _ => ?_⟩)
      refine ct_S_heldAhead hs ⟨c0, hc⟩ ku (fun y2 => ⟨fun _ => no (fun v => v.2.2 y2), fun v => absurd v (by decide)⟩) (fun y2 => ⟨fun v => absurd rfl v, fun _ => ?_⟩)
      rw [ex] at y y2
      rw [if_pos (lq1_t.mpr ⟨z, y, y2⟩)] at ihq
      exact ihq
    have L0 := LL 0 u9.1 (Int.le_refl _)
    have e0 : ct_ (lq1_ (zT_ Z) (zC_ Z) c) 0 (0 : Int).toNat = 0 := rfl
    rw [e0, Int.add_zero] at L0
    exact L0
  exact L 0 (by omega) (Int.le_refl _)
theorem ct_M_isRun {b bd bd' id : Int} {Z : ab_Z} {M : mm_M} {R : Int → mm_M → Prop} (hb : bk_ b) (k : mY_ bd M b Z) (j : jZ_ bd' Z) (h1 : st2_ (zT_ Z) id → R 1 M) (h0 : ¬ st2_ (zT_ Z) id → R 0 M) : nr_M_isRun b id M R := by
  have hb' := hb
  unfold bk_ at hb'
  have t : tM_ M b (aTm_ (zT_ Z)) (aTn_ (zT_ Z)) (aTq_ (zT_ Z)) := k.1.1.1
  have hn := t.2.2.1
  refine ng_M_isRun _ _ _ _ ?_
  -- the indexes
  have L2 : (¬ ∃ r, 0 ≤ r ∧ r < aTn_ (zT_ Z) ∧ (aTq_ (zT_ Z) r).2.1 = id) → ∀ i : Int, i ≤ 4 → 0 ≤ i → (∀ q, 0 ≤ q → q < i → xh_ (aTX_ (zT_ Z) q) ≠ 0 → ¬ ∃ r, 0 ≤ r ∧ r < xn_ (aTX_ (zT_ Z) q) ∧ (xg_ (aTX_ (zT_ Z) q) r).2.1 = id) → nk_M_isRun_38 b id i M R := by
    intro ht
    refine lp_up (fun i hi ih i0 hq => ?_)
    refine ng_M_isRun_38 _ _ _ _ _ ⟨fun c => h0 ?_, fun c => ?_⟩
    · rintro (w | ⟨q, q0, q1, q2, q3⟩)
      · exact ht w
      · exact hq q q0 (by omega) q2 q3
    have kx := k.1.1.2.2 i i0 c
    have h3 := h012 j i0 c
    have hx : b + 1784 ≤ xi_ b i ∧ xi_ b i + 855 ≤ b + 5204 := by unfold xi_; omega
    have nx : (xh_ (aTX_ (zT_ Z) i) = 0 ∨ ¬ ∃ r, 0 ≤ r ∧ r < xn_ (aTX_ (zT_ Z) i) ∧ (xg_ (aTX_ (zT_ Z) i) r).2.1 = id) → nk_M_isRun_38 b id (i + 1) M R := by
      intro w
      refine ih c (by omega) (fun q q0 q1 q2 => ?_)
      by_cases v : q = i
      · rw [v] at q2 ⊢
        exact w.resolve_left q2
      · exact hq q q0 (by omega) q2
    rw [show nf_M_at b i = xi_ b i from nf_at hb ⟨i0, c⟩]
    by_cases hz : xh_ (aTX_ (zT_ Z) i) = 0
    · refine ng_M_isRun_53 _ _ _ _ _ _ _ ?_
      rw [mm_w_id (x := xi_ b i + 5) (by omega), mm_w_id (x := xi_ b i + 0) (by omega), show xi_ b i + 0 = xi_ b i by omega, kx.1, mm_w_id (x := i + 1) (by omega)]
      exact ⟨by omega, fun _ => nx (Or.inl hz), fun _ => ⟨by omega, fun _ => nx (Or.inl hz), fun w => by omega⟩⟩
    · obtain ⟨_, _, _, d, _⟩ := kx.2 hz
      have hpos : 0 < xh_ (aTX_ (zT_ Z) i) := by
        rcases h3 with w | w | w
        · exact absurd w hz
        · rw [w]; decide
        · rw [w]; decide
      have LL : ∀ r : Int, r ≤ xn_ (aTX_ (zT_ Z) i) → 0 ≤ r → (∀ q, 0 ≤ q → q < r → (xg_ (aTX_ (zT_ Z) i) q).2.1 ≠ id) → nk_M_isRun_53 b id i (xi_ b i) r M R := by
        refine lp_up (fun r hr ihr r0 hq2 => ?_)
        have hn2 := d.2
        refine ng_M_isRun_53 _ _ _ _ _ _ _ ?_
        rw [mm_w_id (x := xi_ b i + 5) (by omega), mm_w_id (x := xi_ b i + 0) (by omega), show xi_ b i + 0 = xi_ b i by omega, kx.1, mm_w_id (x := i + 1) (by omega), d.1]
        refine ⟨by omega, fun w => nx (Or.inr ?_), fun w => ⟨by omega, fun y => absurd hpos (Int.not_lt.mpr y), fun y => ?_⟩⟩
        · rintro ⟨q, q0, q1, q2⟩
          exact hq2 q q0 (by omega) q2
        · rw [nf_head ⟨by omega, by omega⟩ ⟨by omega, by omega⟩, (d.2.2.2 r r0 w).1, mm_w_id (x := r + 1) (by omega)]
          refine ⟨by omega, fun v => ihr w (by omega) (fun q q0 q1 => ?_), fun v => h1 (Or.inr ⟨i, i0, c, hz, r, r0, w, v⟩)⟩
          by_cases u : q = r
          · rw [u]; exact v
          · exact hq2 q q0 (by omega)
      exact LL 0 d.2.1 (Int.le_refl _) (fun q q0 q1 => by omega)
  have L : ∀ r : Int, r ≤ aTn_ (zT_ Z) → 0 ≤ r → (∀ q, 0 ≤ q → q < r → (aTq_ (zT_ Z) q).2.1 ≠ id) → nk_M_isRun_2 b id r M R := by
    refine lp_up (fun r hr ih r0 hq => ?_)
    refine ng_M_isRun_2 _ _ _ _ _ ?_
    rw [mm_w_id (x := b + 5) (by omega), hn.1, mm_w_id (x := r + 1) (by omega)]
    refine ⟨by omega, fun c => L2 ?_ 0 (by omega) (Int.le_refl _) (fun q q0 q1 => by omega), fun c => ?_⟩
    · rintro ⟨q, q0, q1, q2⟩
      exact hq q q0 (by omega) q2
    · rw [nf_runAt hb ⟨by omega, by omega⟩, (t.2.2.2 r r0 c).1]
      refine ⟨by omega, fun v => ih c (by omega) (fun q q0 q1 => ?_), fun v => h1 (Or.inl ⟨r, r0, c, v⟩)⟩
      by_cases u : q = r
      · rw [u]; exact v
      · exact hq q q0 (by omega)
  exact L 0 hn.2.1 (Int.le_refl _) (fun q q0 q1 => by omega)
theorem ct_M_isHeld {b bd bd' id c : Int} {Z : ab_Z} {M : mm_M} {R : Int → mm_M → Prop} (hb : bk_ b) (hc : 0 ≤ c ∧ c ≤ 3) (k : mY_ bd M b Z) (j : jZ_ bd' Z) (h1 : hd2_ (zC_ Z) id c → R 1 M) (h0 : ¬ hd2_ (zC_ Z) id c → R 0 M) : nr_M_isHeld b c id M R := by
  have hb' := hb
  unfold bk_ at hb'
  refine ng_M_isHeld _ _ _ _ _ ?_
  have L : ∀ i : Int, i ≤ c → 0 ≤ i → (¬ hd2_ (zC_ Z) id i) → nk_M_isHeld_3 b c id i M R := by
    refine lp_up (fun i hi ih i0 hq => ?_)
    refine ng_M_isHeld_3 _ _ _ _ _ _ ⟨fun d => h0 ?_, fun d => ?_⟩
    · rw [show c = i by omega]; exact hq
    obtain ⟨p1, p2, p3, p4, p5, p6⟩ := k.1.2.2.2 i i0 (by omega)
    obtain ⟨v1, v2, v3, v4⟩ := j.2.2 i i0 (by omega)
    have nx : ((zC_ Z i).1.1 = 0 ∨ ¬ ∃ h, 0 ≤ h ∧ h < (zC_ Z i).1.2.2.2.2.1 ∧ (zC_ Z i).2 h = id) → nk_M_isHeld_3 b c id (i + 1) M R := by
      intro w
      refine ih d (by omega) ?_
      rintro ⟨q, q0, q1, q2, q3⟩
      by_cases v : q = i
      · rw [v] at q2 q3
        rcases w with w | w
        · exact q2 w
        · exact w q3
      · exact hq ⟨q, q0, by omega, q2, q3⟩
    rw [nf_cu hb ⟨i0, by omega⟩]
    have LL : ∀ r : Int, r ≤ (zC_ Z i).1.2.2.2.2.1 → 0 ≤ r → (∀ q, 0 ≤ q → q < r → (zC_ Z i).2 q ≠ id) → nk_M_isHeld_20 b c id i (b + 5204 + 90 * i) r M R := by
      refine lp_up (fun r hr ihr r0 hq2 => ?_)
      refine ng_M_isHeld_20 _ _ _ _ _ _ _ _ ?_
      rw [mm_w_id (x := b + 5204 + 90 * i + 35) (by omega), p5, p1, mm_w_id (x := i + 1) (by omega), mm_w_id (x := r + 1) (by omega)]
      refine ⟨by omega, fun w => nx (Or.inr ?_), fun w => ⟨by omega, fun y => nx (Or.inl (v1.resolve_right y)), fun y => ?_⟩⟩
      · rintro ⟨q, q0, q1, q2⟩
        exact hq2 q q0 (by omega) q2
      · rw [mm_w_id (x := b + 5204 + 90 * i + 35 + 1) (by omega), mm_w_id (x := b + 5204 + 90 * i + 35 + 1 + r) (by omega), show b + 5204 + 90 * i + 35 + 1 + r = b + 5204 + 90 * i + 36 + r by omega, p6 r r0 w]
        refine ⟨by omega, fun v => ihr w (by omega) (fun q q0 q1 => ?_), fun v => h1 ⟨i, i0, d, by rw [y]; decide, r, r0, w, v⟩⟩
        by_cases u : q = r
        · rw [u]; exact v
        · exact hq2 q q0 (by omega)
    exact LL 0 v4.1 (Int.le_refl _) (fun q q0 q1 => by omega)
  exact L 0 hc.1 (Int.le_refl _) (fun ⟨q, q0, q1, _⟩ => by omega)
theorem ct_M_leftOver {b bd bd' : Int} {Z : ab_Z} {M : mm_M} {R : Int → mm_M → Prop} (hb : bk_ b) (k : mY_ bd M b Z) (j : jZ_ bd' Z) (h : R (lo2_ (zT_ Z) (zC_ Z) 3) M) : nr_M_leftOver b M R := by
  have hb' := hb
  unfold bk_ at hb'
  refine ng_M_leftOver _ _ _ ?_
  have hbd : ∀ n : Nat, n ≤ 3 → 0 ≤ lo2_ (zT_ Z) (zC_ Z) n ∧ lo2_ (zT_ Z) (zC_ Z) n ≤ 48 * (n : Int) := fun n hn => sm_ub (fun i i0 i1 => by
    have h1 := ct_in (lq2_ (zT_ Z) (zC_ Z) i) 0 (zC_ Z i).1.2.2.2.2.1.toNat
    have h2 := (j.2.2 i i0 (by omega)).2.2.2
    omega)
  have L : ∀ c : Int, c ≤ 3 → 0 ≤ c → nk_M_leftOver_4 b (lo2_ (zT_ Z) (zC_ Z) c.toNat) c M R := by
    refine lp_up (fun c hc ih c0 => ?_)
    refine ng_M_leftOver_4 _ _ _ _ _ ⟨fun d => ?_, fun d => ?_⟩
    · rw [show c.toNat = 3 by omega]; exact h
    have ih := ih d (by omega)
    have e : lo2_ (zT_ Z) (zC_ Z) (c + 1).toNat = lo2_ (zT_ Z) (zC_ Z) c.toNat + ct_ (lq2_ (zT_ Z) (zC_ Z) c) 0 (zC_ Z c).1.2.2.2.2.1.toNat := by
      rw [show (c + 1).toNat = c.toNat + 1 by omega]
      show lo2_ (zT_ Z) (zC_ Z) c.toNat + ct_ (lq2_ (zT_ Z) (zC_ Z) ((c.toNat : Nat) : Int)) 0 (zC_ Z ((c.toNat : Nat) : Int)).1.2.2.2.2.1.toNat = _
      rw [show ((c.toNat : Nat) : Int) = c by omega]
    have b1 := hbd c.toNat (by omega)
    obtain ⟨p1, p2, p3, p4, p5, p6⟩ := k.1.2.2.2 c c0 d
    obtain ⟨v1, v2, v3, v4⟩ := j.2.2 c c0 d
    rw [nf_cu hb ⟨c0, d⟩]
    have LL : ∀ q : Int, q ≤ (zC_ Z c).1.2.2.2.2.1 → 0 ≤ q → nk_M_leftOver_19 b (lo2_ (zT_ Z) (zC_ Z) c.toNat + ct_ (lq2_ (zT_ Z) (zC_ Z) c) 0 q.toNat) c (b + 5204 + 90 * c) q M R := by
      refine lp_up (fun q hq ihq q0 => ?_)
      have b2 := ct_in (lq2_ (zT_ Z) (zC_ Z) c) 0 q.toNat
      refine ng_M_leftOver_19 _ _ _ _ _ _ _ ?_
      rw [mm_w_id (x := b + 5204 + 90 * c + 35) (by omega), p5, p1, mm_w_id (x := c + 1) (by omega), mm_w_id (x := q + 1) (by omega), mm_w_id (x := lo2_ (zT_ Z) (zC_ Z) c.toNat + ct_ (lq2_ (zT_ Z) (zC_ Z) c) 0 q.toNat + 1) (by omega), mm_w_id (x := lo2_ (zT_ Z) (zC_ Z) c.toNat + ct_ (lq2_ (zT_ Z) (zC_ Z) c) 0 q.toNat + 0) (by omega), Int.add_zero, mm_w_id (x := b + 5204 + 90 * c + 35 + 1) (by omega), mm_w_id (x := b + 5204 + 90 * c + 35 + 1 + q) (by omega), show b + 5204 + 90 * c + 35 + 1 + q = b + 5204 + 90 * c + 36 + q by omega]
      refine ⟨by omega, fun _ => by omega, fun _ => by omega, fun w => ?_, fun w => ?_⟩
      · by_cases z : (zC_ Z c).1.1 = 1
        · have hq3 : (zC_ Z c).1.2.2.2.2.1 ≤ q := w.resolve_right (fun y => y z)
          rw [show q.toNat = (zC_ Z c).1.2.2.2.2.1.toNat by omega, ← e]; exact ih
        · have z0 : (zC_ Z c).1.1 = 0 := v1.resolve_right z
          have no : ∀ m : Nat, ct_ (lq2_ (zT_ Z) (zC_ Z) c) 0 m = 0 := fun m => ct_no (fun i _ _ => by
            cases hh : lq2_ (zT_ Z) (zC_ Z) c i with
            | false => rfl
            | true => exact absurd z0 (lq2_t.mp hh).1)
          rw [no] at e
          rw [no, Int.add_zero]
          rw [Int.add_zero] at e
          rw [← e]; exact ih
      intro x ex
      rw [p6 q q0 w.1] at ex
      have ihq := ihq w.1 (by omega)
      have e2 : ct_ (lq2_ (zT_ Z) (zC_ Z) c) 0 (q + 1).toNat = ct_ (lq2_ (zT_ Z) (zC_ Z) c) 0 q.toNat + (if lq2_ (zT_ Z) (zC_ Z) c q = true then 1 else 0) := by
        rw [show (q + 1).toNat = q.toNat + 1 by omega]
        show ct_ (lq2_ (zT_ Z) (zC_ Z) c) 0 q.toNat + (if lq2_ (zT_ Z) (zC_ Z) c (0 + ((q.toNat : Nat) : Int)) = true then 1 else 0) = _
        rw [show (0 : Int) + ((q.toNat : Nat) : Int) = q by omega]
      rw [e2, ← Int.add_assoc] at ihq
      have no : ¬ (¬ st2_ (zT_ Z) x ∧ ¬ hd2_ (zC_ Z) x c) → nk_M_leftOver_19 b (lo2_ (zT_ Z) (zC_ Z) c.toNat + ct_ (lq2_ (zT_ Z) (zC_ Z) c) 0 q.toNat) c (b + 5204 + 90 * c) (q + 1) M R := by
        intro y
        rw [ex] at y
        rw [if_neg (fun v => y (lq2_t.mp v).2), Int.add_zero] at ihq
        exact ihq
      refine ct_M_isRun hb k j (fun y => ⟨fun _ => no (fun v => v.1 y), fun v => absurd v (by decide)⟩) (fun y => ⟨fun v => absurd rfl v, fun _ => ?_⟩)
      refine ct_M_isHeld hb ⟨c0, hc⟩ k j (fun y2 => ⟨fun v => absurd v (by decide), fun _ => no (fun v => v.2 y2)⟩) (fun y2 => ⟨fun _ => ?_, fun v => absurd rfl v⟩)
      rw [ex] at y y2
      rw [if_pos (lq2_t.mpr ⟨by rw [w.2]; decide, y, y2⟩)] at ihq
      exact ihq
    have L0 := LL 0 v4.1 (Int.le_refl _)
    have e0 : ct_ (lq2_ (zT_ Z) (zC_ Z) c) 0 (0 : Int).toNat = 0 := rfl
    rw [e0, Int.add_zero] at L0
    exact L0
  exact L 0 (by omega) (Int.le_refl _)
/-! ids: pairs of the class's and the Model's -/
def alX_ (X : ab_X) (p : Int × Int) : Prop := xh_ X ≠ 0 ∧ ∃ r, 0 ≤ r ∧ r < xn_ X ∧ p = ((xg_ X r).1, (xg_ X r).2.1)
def alQ_ (n : Int) (q : Int → ab_R) (p : Int × Int) : Prop := ∃ r, 0 ≤ r ∧ r < n ∧ p = ((q r).1, (q r).2.1)
def alC_ (C : Int → ab_D) (p : Int × Int) : Prop := ∃ c h, (0 ≤ c ∧ c < 3) ∧ (C c).1.1 ≠ 0 ∧ (0 ≤ h ∧ h < (C c).1.2.2.2.2.1) ∧ p = ((C c).1.2.2.2.2.2 h, (C c).2 h)
def alZ_ (Z : ab_Z) (p : Int × Int) : Prop := alC_ (zC_ Z) p ∨ alQ_ (aTn_ (zT_ Z)) (aTq_ (zT_ Z)) p ∨ ∃ i, 0 ≤ i ∧ i < 4 ∧ alX_ (aTX_ (zT_ Z) i) p
def gd_ (c : Int × Int) (S : Int × Int → Prop) : Prop := (∀ p, S p → p.1 ≤ c.1 ∧ p.2 ≤ c.2) ∧ ∀ p p', S p → S p' → (p.1 = p'.1 ↔ p.2 = p'.2)
def jI_ (Z : ab_Z) : Prop := gd_ (aTc_ (zT_ Z)) (alZ_ Z)
theorem st_iff {Z : ab_Z} (g : jI_ Z) {p : Int × Int} (hp : alZ_ Z p) : st1_ (zT_ Z) p.1 ↔ st2_ (zT_ Z) p.2 := by
  constructor
  · rintro (⟨r, r0, r1, r2⟩ | ⟨i, i0, i1, i2, r, r0, r1, r2⟩)
    · exact Or.inl ⟨r, r0, r1, (g.2 _ p (Or.inr (Or.inl ⟨r, r0, r1, rfl⟩)) hp).mp r2⟩
    · exact Or.inr ⟨i, i0, i1, i2, r, r0, r1, (g.2 _ p (Or.inr (Or.inr ⟨i, i0, i1, i2, r, r0, r1, rfl⟩)) hp).mp r2⟩
  · rintro (⟨r, r0, r1, r2⟩ | ⟨i, i0, i1, i2, r, r0, r1, r2⟩)
    · exact Or.inl ⟨r, r0, r1, (g.2 _ p (Or.inr (Or.inl ⟨r, r0, r1, rfl⟩)) hp).mpr r2⟩
    · exact Or.inr ⟨i, i0, i1, i2, r, r0, r1, (g.2 _ p (Or.inr (Or.inr ⟨i, i0, i1, i2, r, r0, r1, rfl⟩)) hp).mpr r2⟩
theorem hd_iff {Z : ab_Z} (g : jI_ Z) {p : Int × Int} (hp : alZ_ Z p) {c : Int} (hc : c ≤ 3) : hd1_ (zC_ Z) p.1 c ↔ hd2_ (zC_ Z) p.2 c := by
  constructor
  · rintro ⟨i, i0, i1, i2, r, r0, r1, r2⟩
    exact ⟨i, i0, i1, i2, r, r0, r1, (g.2 _ p (Or.inl ⟨i, r, ⟨i0, by omega⟩, i2, ⟨r0, r1⟩, rfl⟩) hp).mp r2⟩
  · rintro ⟨i, i0, i1, i2, r, r0, r1, r2⟩
    exact ⟨i, i0, i1, i2, r, r0, r1, (g.2 _ p (Or.inl ⟨i, r, ⟨i0, by omega⟩, i2, ⟨r0, r1⟩, rfl⟩) hp).mpr r2⟩
/-- left over: the same on both sides -/
theorem lo_eq {Z : ab_Z} (g : jI_ Z) : lo1_ (zT_ Z) (zC_ Z) 3 = lo2_ (zT_ Z) (zC_ Z) 3 := by
  refine sm_cg (fun c c0 c1 => ct_cg (fun h h0 h1 => ?_))
  have key : lq1_ (zT_ Z) (zC_ Z) c h = true ↔ lq2_ (zT_ Z) (zC_ Z) c h = true := by
    rw [lq1_t, lq2_t]
    by_cases z : (zC_ Z c).1.1 = 0
    · exact ⟨fun w => absurd z w.1, fun w => absurd z w.1⟩
    · have hp : alZ_ Z ((zC_ Z c).1.2.2.2.2.2 h, (zC_ Z c).2 h) := Or.inl ⟨c, h, ⟨c0, by omega⟩, z, ⟨h0, by omega⟩, rfl⟩
      have e1 := st_iff g hp
      have e2 := hd_iff g hp (c := c) (by omega)
      exact ⟨fun w => ⟨w.1, fun y => w.2.1 (e1.mpr y), fun y => w.2.2 (e2.mpr y)⟩, fun w => ⟨w.1, fun y => w.2.1 (e1.mp y), fun y => w.2.2 (e2.mp y)⟩⟩
  cases h1 : lq1_ (zT_ Z) (zC_ Z) c h <;> cases h2 : lq2_ (zT_ Z) (zC_ Z) c h
  · rfl
  · rw [h1, h2] at key; exact absurd (key.mpr rfl) (by decide)
  · rw [h1, h2] at key; exact absurd (key.mp rfl) (by decide)
  · rfl
