/-! the Model reads the whole text -/
theorem ct_M_63W {x : Int} {M : mm_M} {R : mm_M → Prop} (hx : 1700 ≤ x ∧ x + 855 ≤ 32844) (hw : nn_rf M 407 7 ≠ 0) (h : ∀ M', fr_ (mxc_ x) M M' → nn_rf M' 407 7 = nn_rf M 407 7 → nn_rf M' 407 8 = nn_rf M 407 8 → R M') : nk_M_readsIndex_63 x M R := by
  refine ng_M_readsIndex_63 _ _ _ ?_
  refine ct_M_optW hw ⟨fun _ => ?_, fun y => absurd rfl y⟩
  rw [mm_w_id (x := x + 1) (by omega), mm_w_id (x := x + 2) (by omega)]
  refine ⟨by omega, ?_⟩
  intro M1 e1
  have w1 : nn_rf M1 407 7 = nn_rf M 407 7 := by rw [e1, rd_fi, if_neg (by omega)]
  refine ct_M_optW (by rw [w1]; exact hw) ⟨fun _ => ⟨by omega, ?_⟩, fun y => absurd rfl y⟩
  intro M2 e2
  have w2 : nn_rf M2 407 7 = nn_rf M 407 7 := by rw [e2, rd_fi, if_neg (by omega)]; exact w1
  rw [w2]
  refine ⟨fun _ => ?_, fun y => absurd y.1 hw⟩
  refine h M2 (by rw [e2, e1]; exact fr_ui (fr_ui (fr_refl M) (Or.inr ⟨rfl, by omega⟩)) (Or.inr ⟨rfl, by omega⟩)) w2 ?_
  rw [e2, rd_fi, if_neg (by omega), e1, rd_fi, if_neg (by omega)]
theorem rpm_fr {P : Nat → Nat → Prop} {M M' : mm_M} {x a : Int} {u : ab_U} (h : fr_ P M M') (hx : 0 ≤ x) (ha : a ≤ 3) (hv : ∀ b : Nat, x + 8 ≤ (b : Int) → (b : Int) < x + 47 → ¬ P 408 b) (k : rpm_ M x u a) : rpm_ M' x u a := by
  obtain ⟨k1, k2, k3⟩ := k
  refine ⟨(fr_ri h (hv _ (by omega) (by omega))).trans k1, fun f f0 f1 => ?_, fun i i0 i1 => ?_⟩
  · have fi := fo_in f0 f1
    exact mrow_fr h (by omega) (fun b y y2 => hv b (by omega) (by omega)) (k2 f f0 f1)
  · rw [fr_ri h (hv _ (by omega) (by omega))]; exact k3 i i0 i1
theorem ct_M_index2 {f : Int → Int} {n T x : Int} {M : mm_M} {R : mm_M → Prop} (hx : 1700 ≤ x ∧ x + 855 ≤ 32844) (xt : tx_T f n T) (kn : kn_ (tK_ f n) (tN_ f n) T) (k : ms_ M f n 0) (hat : nn_ri M 408 (x + 8) = 0)
    (h1 : (rix_ (tK_ f n) (tN_ f n)).1 = 0 → ∀ M' a, fr_ (mxc_ x) M M' → nn_rf M' 407 7 = 0 → 0 ≤ a → a ≤ 3 → ub_ (rix_ (tK_ f n) (tN_ f n)).2.2.1 a → rpm_ M' x (rix_ (tK_ f n) (tN_ f n)).2.2.1 a → nn_ri M' 408 (x + 1) = (rix_ (tK_ f n) (tN_ f n)).2.2.2.1 → nn_ri M' 408 (x + 2) = (rix_ (tK_ f n) (tN_ f n)).2.2.2.2 → R M')
    (h0 : (rix_ (tK_ f n) (tN_ f n)).1 ≠ 0 → ∀ M', fr_ (mxc_ x) M M' → mwr_ M' f n (rix_ (tK_ f n) (tN_ f n)).1 (rix_ (tK_ f n) (tN_ f n)).2.1 → R M') : nr_M_readsIndex x M R := by
  have hT := xt.2.1
  -- after a fault nothing more is read
  have bad63 : ∀ (st t : Int) (M1 : mm_M), st ≠ 0 → (rix_ (tK_ f n) (tN_ f n)).1 = st → (rix_ (tK_ f n) (tN_ f n)).2.1 = t → fr_ (mxc_ x) M M1 → mwr_ M1 f n st t → nk_M_readsIndex_63 x M1 R := by
    intro st t M1 q0 q1 q2 F1 w1
    refine ct_M_63W hx (by rw [w1.1]; exact q0) (fun M2 f2 g1 g2 => ?_)
    exact h0 (by rw [q1]; exact q0) M2 (fr_trans F1 f2) ⟨by rw [g1, w1.1, q1], by rw [g2, w1.2, q2]⟩
  have bad30 : ∀ (st t : Int) (M1 : mm_M), st ≠ 0 → (rix_ (tK_ f n) (tN_ f n)).1 = st → (rix_ (tK_ f n) (tN_ f n)).2.1 = t → fr_ (mxc_ x) M M1 → mwr_ M1 f n st t → nk_M_readsIndex_30 x M1 R := by
    intro st t M1 q0 q1 q2 F1 w1
    refine ng_M_readsIndex_30 _ _ _ ?_
    exact ct_M_optW (by rw [w1.1]; exact q0) ⟨fun _ => bad63 st t M1 q0 q1 q2 F1 w1, fun y => absurd rfl y⟩
  have bad45 : ∀ (st t : Int) (M1 : mm_M), st ≠ 0 → (rix_ (tK_ f n) (tN_ f n)).1 = st → (rix_ (tK_ f n) (tN_ f n)).2.1 = t → fr_ (mxc_ x) M M1 → mwr_ M1 f n st t → nk_M_readsIndex_45 x M1 R := by
    intro st t M1 q0 q1 q2 F1 w1
    refine ng_M_readsIndex_45 _ _ _ ?_
    exact ct_M_optW (by rw [w1.1]; exact q0) ⟨fun _ => bad63 st t M1 q0 q1 q2 F1 w1, fun y => absurd rfl y⟩
  -- behind sum and atoms
  have tail : ∀ (M7 : mm_M) (a : Int), tK_ f n 0 = 3 → (rsm_ (tK_ f n) (tN_ f n) 4 1 zv_).1 = 0 → (rwh_ (tK_ f n) (tN_ f n)).1 = 0 → (0 ≤ (rwh_ (tK_ f n) (tN_ f n)).2.1 ∧ (rwh_ (tK_ f n) (tN_ f n)).2.1 ≤ T) → fr_ (mxc_ x) M M7 → ms_ M7 f n (rwh_ (tK_ f n) (tN_ f n)).2.1 → (0 ≤ a ∧ a ≤ 3) → ub_ (rwh_ (tK_ f n) (tN_ f n)).2.2 a → rpm_ M7 x (rwh_ (tK_ f n) (tN_ f n)).2.2 a → nk_M_readsIndex_63 x M7 R := by
    intro M7 a k3 w0 w1 wt F7 k7 ha u7 p7
    have er : rix_ (tK_ f n) (tN_ f n) = (if tK_ f n (op_ (tK_ f n) 7 (op_ (tK_ f n) 6 (rwh_ (tK_ f n) (tN_ f n)).2.1)) = 0 then 0 else 1, op_ (tK_ f n) 7 (op_ (tK_ f n) 6 (rwh_ (tK_ f n) (tN_ f n)).2.1), (rwh_ (tK_ f n) (tN_ f n)).2.2, ob_ (tK_ f n) 6 (rwh_ (tK_ f n) (tN_ f n)).2.1, ob_ (tK_ f n) 7 (op_ (tK_ f n) 6 (rwh_ (tK_ f n) (tN_ f n)).2.1)) := by
      unfold rix_
      rw [if_neg (fun y => y k3), if_neg (fun y => y w0), if_neg (fun y => y w1)]
    refine ng_M_readsIndex_63 _ _ _ ?_
    rw [mm_w_id (x := x + 1) (by omega), mm_w_id (x := x + 2) (by omega)]
    refine ct_M_opt xt kn wt k7 (Or.inr (Or.inr (Or.inr (Or.inl ⟨rfl, rfl⟩)))) (fun z6 M8 hz6 o6 f8 k8 => ?_)
    -- mends, and the end
    have two : ∀ (b6 : Int) (M9 : mm_M), b6 = ob_ (tK_ f n) 6 (rwh_ (tK_ f n) (tN_ f n)).2.1 → M9 = nn_ui M8 408 (x + 1) b6 → nr_M_hasWord 7017481 M9 (fun r97 M97 => ((r97 = 0 → (((0 : Int) ≤ x + 2 ∧ x + 2 < (32844 : Int)) ∧ (∀ M108 : mm_M, M108 = nn_ui M97 408 (x + 2) 0 → ((((nn_rf M108 407 7) ≠ 0 ∨ ((nn_rf M108 407 5) = 0)) → R M108) ∧ (((nn_rf M108 407 7) = 0 ∧ ((nn_rf M108 407 5) ≠ 0)) → (nr_M_fails 1 M108 (fun M125 => R M125))))))) ∧ (r97 ≠ 0 → (((0 : Int) ≤ x + 2 ∧ x + 2 < (32844 : Int)) ∧ (∀ M108 : mm_M, M108 = nn_ui M97 408 (x + 2) 1 → ((((nn_rf M108 407 7) ≠ 0 ∨ ((nn_rf M108 407 5) = 0)) → R M108) ∧ (((nn_rf M108 407 7) = 0 ∧ ((nn_rf M108 407 5) ≠ 0)) → (nr_M_fails 1 M108 (fun M125 => R M125))))))))) := by
      intro b6 M9 eb e9
      have f9 : fr_ (fun o b => o = 408 ∧ (b : Int) = x + 1) M8 M9 := by rw [e9]; exact fr_ui (fr_refl M8) ⟨rfl, by omega⟩
      have k9 := ms_fr f9 (fun o b y => by omega) k8
      have v9 : nn_ri M9 408 (x + 1) = ob_ (tK_ f n) 6 (rwh_ (tK_ f n) (tN_ f n)).2.1 := by rw [e9, rd_ii, if_pos ⟨rfl, rfl⟩]; exact eb
      have p8 := rpm_fr f8 (by omega) ha.2 (fun b y y2 w => by unfold tkc2_ at w; omega) p7
      have p9 := rpm_fr f9 (by omega) ha.2 (fun b y y2 w => by omega) p8
      have F9 : fr_ (mxc_ x) M M9 := fr_trans F7 (fr_trans (fr_mono f8 (fun o b y => by unfold tkc2_ at y; unfold mxc_; omega)) (fr_mono f9 (fun o b y => Or.inr ⟨y.1, by omega⟩)))
      refine ct_M_opt xt kn o6 k9 (Or.inr (Or.inr (Or.inr (Or.inr ⟨rfl, rfl⟩)))) (fun z7 M10 hz7 o7 f10 k10 => ?_)
      have p10 := rpm_fr f10 (by omega) ha.2 (fun b y y2 w => by unfold tkc2_ at w; omega) p9
      have v10 : nn_ri M10 408 (x + 1) = ob_ (tK_ f n) 6 (rwh_ (tK_ f n) (tN_ f n)).2.1 := (fr_ri f10 (by unfold tkc2_; omega)).trans v9
      have F10 : fr_ (mxc_ x) M M10 := fr_trans F9 (fr_mono f10 (fun o b y => by unfold tkc2_ at y; unfold mxc_; omega))
      have fin : ∀ (b7 : Int) (M11 : mm_M), b7 = ob_ (tK_ f n) 7 (op_ (tK_ f n) 6 (rwh_ (tK_ f n) (tN_ f n)).2.1) → M11 = nn_ui M10 408 (x + 2) b7 → ((((nn_rf M11 407 7) ≠ 0 ∨ ((nn_rf M11 407 5) = 0)) → R M11) ∧ (((nn_rf M11 407 7) = 0 ∧ ((nn_rf M11 407 5) ≠ 0)) → (nr_M_fails 1 M11 (fun M125 => R M125)))) := by
        intro b7 M11 eb7 e11
        have f11 : fr_ (fun o b => o = 408 ∧ (b : Int) = x + 2) M10 M11 := by rw [e11]; exact fr_ui (fr_refl M10) ⟨rfl, by omega⟩
        have k11 := ms_fr f11 (fun o b y => by omega) k10
        have p11 := rpm_fr f11 (by omega) ha.2 (fun b y y2 w => by omega) p10
        have F11 : fr_ (mxc_ x) M M11 := fr_trans F10 (fr_mono f11 (fun o b y => Or.inr ⟨y.1, by omega⟩))
        have t1 := k11.2.2.2.2.1
        refine ⟨fun y => ?_, fun y => ?_⟩
        · have y0 := t1.mp (y.resolve_left (fun w => w k11.2.1))
          rw [er, if_pos y0] at h1
          exact h1 rfl M11 a F11 k11.2.1 ha.1 ha.2 u7 p11 ((fr_ri f11 (by omega)).trans v10) (by rw [e11, rd_ii, if_pos ⟨rfl, rfl⟩]; exact eb7)
        · have y0 : ¬ tK_ f n (op_ (tK_ f n) 7 (op_ (tK_ f n) 6 (rwh_ (tK_ f n) (tN_ f n)).2.1)) = 0 := fun w => y.2 (t1.mpr w)
          rw [if_neg y0] at er
          refine ct_M_fail k11 (fun M12 f12 w12 => ?_)
          refine h0 (by rw [er]; exact (show (1 : Int) ≠ 0 by decide)) M12 (fr_trans F11 (fr_mono f12 (fun o b y => Or.inl ⟨y.1, by omega, by omega⟩))) (by rw [er]; exact w12)
      refine ⟨fun z => ⟨by omega, fun M11 e11 => fin 0 M11 ?_ e11⟩, fun z => ⟨by omega, fun M11 e11 => fin 1 M11 ?_ e11⟩⟩
      · unfold ob_
        rw [if_neg (fun w => absurd z (hz7.mpr w))]
      · unfold ob_
        rw [if_pos (hz7.mp z)]
    refine ⟨fun z => ⟨by omega, fun M9 e9 => two 0 M9 ?_ e9⟩, fun z => ⟨by omega, fun M9 e9 => two 1 M9 ?_ e9⟩⟩
    · unfold ob_
      rw [if_neg (fun w => absurd z (hz6.mpr w))]
    · unfold ob_
      rw [if_pos (hz6.mp z)]
  -- the atoms
  have atoms : ∀ (m : Nat) (a t : Int) (u : ab_U) (M1 : mm_M), tK_ f n 0 = 3 → (rsm_ (tK_ f n) (tN_ f n) 4 1 zv_).1 = 0 → (m : Int) = 3 - a → 0 ≤ a → fr_ (mxc_ x) M M1 → (0 ≤ t ∧ t ≤ T) → ms_ M1 f n t → ub_ u a → rpm_ M1 x u a → rats_ (tK_ f n) (tN_ f n) m a t u = rwh_ (tK_ f n) (tN_ f n) → nr_M_readsAtom x M1 (fun M42 => nk_M_readsIndex_45 x M42 R) := by
    intro m
    induction m with
    | zero =>
      intro a t u M1 k3 w0 hm a0 F1 ht k1 hu hp he
      have e0 : rats_ (tK_ f n) (tN_ f n) 0 a t u = (if tK_ f n t = 1 ∨ tK_ f n t = 2 then 2 else 1, t, u) := rfl
      have er1 : ra1_ (tK_ f n) (tN_ f n) a t = (if tK_ f n t = 1 ∨ tK_ f n t = 2 then 2 else 1, t) := if_pos (by omega)
      rw [e0] at he
      refine ct_M_atom hx xt kn ht k1 ⟨a0, by omega⟩ hp (fun w l => by omega) (fun w M2 f2 w2 => ?_)
      rw [er1] at w w2
      have q1 : (rwh_ (tK_ f n) (tN_ f n)).1 = (if tK_ f n t = 1 ∨ tK_ f n t = 2 then 2 else 1) := by rw [← he]
      have q2 : (rwh_ (tK_ f n) (tN_ f n)).2.1 = t := by rw [← he]
      have w : (if tK_ f n t = 1 ∨ tK_ f n t = 2 then (2 : Int) else 1) ≠ 0 := w
      rw [← q1] at w
      have er2 : rix_ (tK_ f n) (tN_ f n) = ((rwh_ (tK_ f n) (tN_ f n)).1, (rwh_ (tK_ f n) (tN_ f n)).2.1, u0_ zv_, 0, 0) := by
        unfold rix_
        rw [if_neg (fun y => y k3), if_neg (fun y => y w0), if_pos w]
      refine bad45 _ _ M2 w (by rw [er2]) (by rw [er2]) (fr_trans F1 f2) ?_
      rw [q1, q2]; exact w2
    | succ m ih =>
      intro a t u M1 k3 w0 hm a0 F1 ht k1 hu hp he
      have e0 : rats_ (tK_ f n) (tN_ f n) (m + 1) a t u = if (at1_ (tK_ f n) (tN_ f n) t).1 ≠ 0 then ((at1_ (tK_ f n) (tN_ f n) t).1, (at1_ (tK_ f n) (tN_ f n) t).2.1, u) else if tK_ f n (at1_ (tK_ f n) (tN_ f n) t).2.1 ≠ 10 ∧ tK_ f n (at1_ (tK_ f n) (tN_ f n) t).2.1 ≠ 11 ∧ tK_ f n (at1_ (tK_ f n) (tN_ f n) t).2.1 ≠ 12 then (1, (at1_ (tK_ f n) (tN_ f n) t).2.1, u) else if (at2_ (tK_ f n) (tN_ f n) t).1 ≠ 0 then ((at2_ (tK_ f n) (tN_ f n) t).1, (at2_ (tK_ f n) (tN_ f n) t).2.1, u) else if tK_ f n (at2_ (tK_ f n) (tN_ f n) t).2.1 = 5 then rats_ (tK_ f n) (tN_ f n) m (a + 1) ((at2_ (tK_ f n) (tN_ f n) t).2.1 + 1) (ua_ (tK_ f n) (tN_ f n) a t u) else (0, (at2_ (tK_ f n) (tN_ f n) t).2.1, ua_ (tK_ f n) (tN_ f n) a t u) := rfl
      rw [e0] at he
      refine ct_M_atom hx xt kn ht k1 ⟨a0, by omega⟩ hp (fun w l q1 q2 q3 M2 f2 k2 p2 => ?_) (fun w M2 f2 w2 => ?_)
      · have hng : ¬ (tK_ f n (at1_ (tK_ f n) (tN_ f n) t).2.1 ≠ 10 ∧ tK_ f n (at1_ (tK_ f n) (tN_ f n) t).2.1 ≠ 11 ∧ tK_ f n (at1_ (tK_ f n) (tN_ f n) t).2.1 ≠ 12) := by unfold sg3_ at q2; omega
        rw [if_neg (fun y => y q1), if_neg hng, if_neg (fun y => y q3)] at he
        obtain ⟨b1, b2, b3, b4⟩ := ub_ua kn ht a0 hu q1 q2 q3
        refine ng_M_readsIndex_45 _ _ _ ?_
        refine ct_M_opt xt kn ⟨by omega, b4⟩ k2 (Or.inr (Or.inr (Or.inl ⟨rfl, rfl⟩))) (fun z M3 hz o3 f3 k3' => ⟨fun y => ?_, fun y => ?_⟩)
        · have n5 : ¬ tK_ f n (at2_ (tK_ f n) (tN_ f n) t).2.1 = 5 := fun w => absurd y (hz.mpr w)
          rw [if_neg n5] at he
          have eo : op_ (tK_ f n) 5 (at2_ (tK_ f n) (tN_ f n) t).2.1 = (at2_ (tK_ f n) (tN_ f n) t).2.1 := if_neg n5
          rw [eo] at k3'
          refine tail M3 (a + 1) k3 w0 (by rw [← he]) (by rw [← he]; exact ⟨by show 0 ≤ (at2_ (tK_ f n) (tN_ f n) t).2.1; omega, b4⟩) (fr_trans (fr_trans F1 f2) (fr_mono f3 (fun o b y => by unfold tkc2_ at y; unfold mxc_; omega))) (by rw [← he]; exact k3') ⟨by omega, by omega⟩ (by rw [← he]; exact b1) (by rw [← he]; exact rpm_fr f3 (by omega) (by omega) (fun b y y2 w => by unfold tkc2_ at w; omega) p2)
        · have y5 := hz.mp y
          rw [if_pos y5] at he
          have eo : op_ (tK_ f n) 5 (at2_ (tK_ f n) (tN_ f n) t).2.1 = (at2_ (tK_ f n) (tN_ f n) t).2.1 + 1 := if_pos y5
          rw [eo] at k3' o3
          exact ih (a + 1) _ _ M3 k3 w0 (by omega) (by omega) (fr_trans (fr_trans F1 f2) (fr_mono f3 (fun o b y => by unfold tkc2_ at y; unfold mxc_; omega))) o3 k3' b1 (rpm_fr f3 (by omega) (by omega) (fun b y y2 w => by unfold tkc2_ at w; omega) p2) he
      · have er1 : ra1_ (tK_ f n) (tN_ f n) a t = if (at1_ (tK_ f n) (tN_ f n) t).1 ≠ 0 then ((at1_ (tK_ f n) (tN_ f n) t).1, (at1_ (tK_ f n) (tN_ f n) t).2.1) else if tK_ f n (at1_ (tK_ f n) (tN_ f n) t).2.1 ≠ 10 ∧ tK_ f n (at1_ (tK_ f n) (tN_ f n) t).2.1 ≠ 11 ∧ tK_ f n (at1_ (tK_ f n) (tN_ f n) t).2.1 ≠ 12 then (1, (at1_ (tK_ f n) (tN_ f n) t).2.1) else if (at2_ (tK_ f n) (tN_ f n) t).1 ≠ 0 then ((at2_ (tK_ f n) (tN_ f n) t).1, (at2_ (tK_ f n) (tN_ f n) t).2.1) else (0, (at2_ (tK_ f n) (tN_ f n) t).2.1) := if_neg (by omega)
        have key : (rwh_ (tK_ f n) (tN_ f n)).1 = (ra1_ (tK_ f n) (tN_ f n) a t).1 ∧ (rwh_ (tK_ f n) (tN_ f n)).2.1 = (ra1_ (tK_ f n) (tN_ f n) a t).2 := by
          rw [er1] at w ⊢
          by_cases q1 : (at1_ (tK_ f n) (tN_ f n) t).1 ≠ 0
          · rw [if_pos q1] at he ⊢
            rw [← he]; exact ⟨rfl, rfl⟩
          rw [if_neg q1] at he w ⊢
          by_cases q2 : tK_ f n (at1_ (tK_ f n) (tN_ f n) t).2.1 ≠ 10 ∧ tK_ f n (at1_ (tK_ f n) (tN_ f n) t).2.1 ≠ 11 ∧ tK_ f n (at1_ (tK_ f n) (tN_ f n) t).2.1 ≠ 12
          · rw [if_pos q2] at he ⊢
            rw [← he]; exact ⟨rfl, rfl⟩
          rw [if_neg q2] at he w ⊢
          by_cases q3 : (at2_ (tK_ f n) (tN_ f n) t).1 ≠ 0
          · rw [if_pos q3] at he ⊢
            rw [← he]; exact ⟨rfl, rfl⟩
          rw [if_neg q3] at w
          exact absurd rfl w
        obtain ⟨q1, q2⟩ := key
        rw [← q1] at w
        have er2 : rix_ (tK_ f n) (tN_ f n) = ((rwh_ (tK_ f n) (tN_ f n)).1, (rwh_ (tK_ f n) (tN_ f n)).2.1, u0_ zv_, 0, 0) := by
          unfold rix_
          rw [if_neg (fun y => y k3), if_neg (fun y => y w0), if_pos w]
        refine bad45 _ _ M2 w (by rw [er2]) (by rw [er2]) (fr_trans F1 f2) ?_
        rw [q1, q2]; exact w2
  refine ng_M_readsIndex _ _ _ ?_
  refine ct_M_opt xt kn ⟨Int.le_refl _, hT.1⟩ k (Or.inl ⟨rfl, rfl⟩) (fun z M1 hz o1 f1 k1 => ⟨fun y => ?_, fun y => ?_⟩)
  · have k3 := hz.mp y
    have eo : op_ (tK_ f n) 3 0 = 0 + 1 := if_pos k3
    rw [eo] at k1 o1
    have F1 : fr_ (mxc_ x) M M1 := fr_mono f1 (fun o b y => by unfold tkc2_ at y; unfold mxc_; omega)
    refine ng_M_readsIndex_15 _ _ _ ⟨fun w => absurd k1.2.1 w, fun _ => ?_⟩
    rw [mm_w_id (x := x + 9) (by omega)]
    obtain ⟨s1, s2, s3⟩ := rsm_in kn 4 1 zv_ 0 ⟨by omega, by omega⟩ vb_0
    refine ct_M_reads xt kn ⟨by omega, by omega⟩ k1 (by omega) (fun w M2 f2 k2 g2 => ?_) (fun w M2 f2 w2 => ?_)
    · have w : (rsm_ (tK_ f n) (tN_ f n) 4 1 zv_).1 = 0 := w
      have k2 : ms_ M2 f n (rsm_ (tK_ f n) (tN_ f n) 4 1 zv_).2.1 := k2
      have g2 : mrow_ M2 (x + 9) (rsm_ (tK_ f n) (tN_ f n) 4 1 zv_).2.2 := g2
      have F2 : fr_ (mxc_ x) M M2 := fr_trans F1 (fr_mono f2 (fun o b y => by unfold mrc_ tkc2_ at y; unfold mxc_; omega))
      have hv : vb_ (rsm_ (tK_ f n) (tN_ f n) 4 1 zv_).2.2 400 := by
        have := s3 w
        exact ⟨this.1, by have := this.2; omega⟩
      have p2 : rpm_ M2 x (u0_ (rsm_ (tK_ f n) (tN_ f n) 4 1 zv_).2.2) 0 := by
        refine ⟨?_, fun g g0 g1 => ?_, fun i i0 i1 => by omega⟩
        · rw [fr_ri f2 (by unfold mrc_ tkc2_; omega), fr_ri f1 (by unfold tkc2_; omega)]; exact hat
        · have eg : g = 0 := by omega
          have e2 : (u0_ (rsm_ (tK_ f n) (tN_ f n) 4 1 zv_).2.2).1 g = (rsm_ (tK_ f n) (tN_ f n) 4 1 zv_).2.2 := by
            funext c
            show (if g = 0 then (rsm_ (tK_ f n) (tN_ f n) 4 1 zv_).2.2 c else 0) = _
            rw [if_pos eg]
          rw [e2, eg]
          exact g2
      have erw : rwh_ (tK_ f n) (tN_ f n) = if tK_ f n (rsm_ (tK_ f n) (tN_ f n) 4 1 zv_).2.1 = 4 then rats_ (tK_ f n) (tN_ f n) 3 0 ((rsm_ (tK_ f n) (tN_ f n) 4 1 zv_).2.1 + 1) (u0_ (rsm_ (tK_ f n) (tN_ f n) 4 1 zv_).2.2) else (0, (rsm_ (tK_ f n) (tN_ f n) 4 1 zv_).2.1, u0_ (rsm_ (tK_ f n) (tN_ f n) 4 1 zv_).2.2) := rfl
      refine ng_M_readsIndex_30 _ _ _ ?_
      refine ct_M_opt xt kn ⟨by omega, s1.2⟩ k2 (Or.inr (Or.inl ⟨rfl, rfl⟩)) (fun z4 M3 hz4 o4 f3 k4 => ⟨fun y4 => ?_, fun y4 => ?_⟩)
      · have n4 : ¬ tK_ f n (rsm_ (tK_ f n) (tN_ f n) 4 1 zv_).2.1 = 4 := fun w => absurd y4 (hz4.mpr w)
        rw [if_neg n4] at erw
        have eo4 : op_ (tK_ f n) 4 (rsm_ (tK_ f n) (tN_ f n) 4 1 zv_).2.1 = (rsm_ (tK_ f n) (tN_ f n) 4 1 zv_).2.1 := if_neg n4
        rw [eo4] at k4
        refine tail M3 0 k3 w (by rw [erw]) (by rw [erw]; exact ⟨by show 0 ≤ (rsm_ (tK_ f n) (tN_ f n) 4 1 zv_).2.1; omega, s1.2⟩) (fr_trans F2 (fr_mono f3 (fun o b y => by unfold tkc2_ at y; unfold mxc_; omega))) (by rw [erw]; exact k4) ⟨Int.le_refl _, by omega⟩ (by rw [erw]; exact ub_0 hv) (by rw [erw]; exact rpm_fr f3 (by omega) (by omega) (fun b y y2 w => by unfold tkc2_ at w; omega) p2)
      · have y4 := hz4.mp y4
        rw [if_pos y4] at erw
        have eo4 : op_ (tK_ f n) 4 (rsm_ (tK_ f n) (tN_ f n) 4 1 zv_).2.1 = (rsm_ (tK_ f n) (tN_ f n) 4 1 zv_).2.1 + 1 := if_pos y4
        rw [eo4] at k4 o4
        exact atoms 3 0 _ _ M3 k3 w (by omega) (Int.le_refl _) (fr_trans F2 (fr_mono f3 (fun o b y => by unfold tkc2_ at y; unfold mxc_; omega))) o4 k4 (ub_0 hv) (rpm_fr f3 (by omega) (by omega) (fun b y y2 w => by unfold tkc2_ at w; omega) p2) erw.symm
    · have w : (rsm_ (tK_ f n) (tN_ f n) 4 1 zv_).1 ≠ 0 := w
      have w2 : mwr_ M2 f n (rsm_ (tK_ f n) (tN_ f n) 4 1 zv_).1 (rsm_ (tK_ f n) (tN_ f n) 4 1 zv_).2.1 := w2
      have er : rix_ (tK_ f n) (tN_ f n) = ((rsm_ (tK_ f n) (tN_ f n) 4 1 zv_).1, (rsm_ (tK_ f n) (tN_ f n) 4 1 zv_).2.1, u0_ zv_, 0, 0) := by
        unfold rix_
        rw [if_neg (fun y => y k3), if_pos w]
      exact bad30 _ _ M2 w (by rw [er]) (by rw [er]) (fr_trans F1 (fr_mono f2 (fun o b y => by unfold mrc2_ mrc_ tkc2_ at y; unfold mxc_; omega))) w2
  · have n3 : tK_ f n 0 ≠ 3 := fun w => absurd y (hz.mpr w)
    have eo : op_ (tK_ f n) 3 0 = 0 := if_neg n3
    rw [eo] at k1
    have er : rix_ (tK_ f n) (tN_ f n) = (1, 0, u0_ zv_, 0, 0) := by
      unfold rix_
      rw [if_pos n3]
    refine ct_M_fail k1 (fun M2 f2 w2 => ?_)
    have F2 : fr_ (mxc_ x) M M2 := fr_trans (fr_mono f1 (fun o b y => by unfold tkc2_ at y; unfold mxc_; omega)) (fr_mono f2 (fun o b y => Or.inl ⟨y.1, by omega, by omega⟩))
    refine ng_M_readsIndex_15 _ _ _ ⟨fun _ => ?_, fun w => by have := w2.1; omega⟩
    exact bad30 1 0 M2 (by decide) (by rw [er]) (by rw [er]) F2 w2
