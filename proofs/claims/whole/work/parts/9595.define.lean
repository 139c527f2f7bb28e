/-! a new index out of the tape's text, both sides -/
theorem rix_ub {K N : Int → Int} {T : Int} (k : kn_ K N T) (h : (rix_ K N).1 = 0) : (∃ a, 0 ≤ a ∧ a ≤ 3 ∧ ub_ (rix_ K N).2.2.1 a) ∧ ((rix_ K N).2.2.2.1 = 0 ∨ (rix_ K N).2.2.2.1 = 1) ∧ ((rix_ K N).2.2.2.2 = 0 ∨ (rix_ K N).2.2.2.2 = 1) := by
  unfold rix_ at h ⊢
  by_cases z0 : K 0 ≠ 3
  · rw [if_pos z0] at h
    exact absurd h (show (1 : Int) ≠ 0 by decide)
  · rw [if_neg z0] at h ⊢
    by_cases z1 : (rsm_ K N 4 1 zv_).1 ≠ 0
    · rw [if_pos z1] at h
      exact absurd h z1
    · rw [if_neg z1] at h ⊢
      by_cases z2 : (rwh_ K N).1 ≠ 0
      · rw [if_pos z2] at h
        exact absurd h z2
      · rw [if_neg z2] at h ⊢
        have hT := k.1
        have l0 := kn_lt k hT.1 (by omega)
        obtain ⟨s1, s2, s3⟩ := rsm_in k 4 1 zv_ 0 ⟨by omega, by omega⟩ ⟨fun c _ _ => Int.le_refl _, Int.le_refl _⟩
        have hv : vb_ (rsm_ K N 4 1 zv_).2.2 400 := ⟨(s3 (by omega)).1, by have := (s3 (by omega)).2; omega⟩
        refine ⟨?_, ?_, ?_⟩
        · show ∃ a, 0 ≤ a ∧ a ≤ 3 ∧ ub_ (rwh_ K N).2.2 a
          unfold rwh_ at z2 ⊢
          by_cases z3 : K (rsm_ K N 4 1 zv_).2.1 = 4
          · rw [if_pos z3] at z2 ⊢
            have l1 := kn_lt k s1.2 (by rw [z3]; decide)
            obtain ⟨v1, v2, v3⟩ := rats_in k 3 0 ((rsm_ K N 4 1 zv_).2.1 + 1) (u0_ (rsm_ K N 4 1 zv_).2.2) (by omega) (Int.le_refl _) ⟨by omega, by omega⟩ (ub_0 hv)
            exact v3 (by omega)
          · rw [if_neg z3]
            exact ⟨0, Int.le_refl _, by omega, ub_0 hv⟩
        · show ob_ K 6 (rwh_ K N).2.1 = 0 ∨ ob_ K 6 (rwh_ K N).2.1 = 1
          unfold ob_
          split
          · exact Or.inr rfl
          · exact Or.inl rfl
        · show ob_ K 7 (op_ K 6 (rwh_ K N).2.1) = 0 ∨ ob_ K 7 (op_ K 6 (rwh_ K N).2.1) = 1
          unfold ob_
          split
          · exact Or.inr rfl
          · exact Or.inl rfl
theorem rb_ub {u : ab_U} {a : Int} (ha : 0 ≤ a ∧ a ≤ 3) (k : ub_ u a) : rb_ u := by
  obtain ⟨k1, k2, _, _⟩ := k
  refine ⟨by omega, fun f c f0 f1 c0 c1 => (k2 f f0 (by omega)).1 c c0 c1, fun f f0 f1 => (k2 f f0 (by omega)).2⟩
/-- a text has its tokens -/
theorem tx_ex {f : Int → Int} {n : Int} (hn : 0 ≤ n ∧ n ≤ 200) : ∃ T, tx_T f n T := by
  have rise : ∀ m : Nat, (∀ u, u < m → tS_ f n u < n) → (m : Int) ≤ tS_ f n m := by
    intro m
    induction m with
    | zero => intro _; exact tS_nn 0
    | succ m ih =>
      intro h
      have h1 := ih (fun u hu => h u (by omega))
      have h2 := (te_in (f := f) (h m (by omega))).1
      have h3 := (rn_spec f n 0 (te_ f n (tS_ f n m))).1
      have e : tS_ f n (m + 1) = rn_ f n 0 (te_ f n (tS_ f n m)) := rfl
      rw [e]
      omega
  have pick : ∀ m : Nat, (∀ u, u < m → tS_ f n u < n) ∨ ∃ T : Nat, T < m ∧ (∀ u, u < T → tS_ f n u < n) ∧ ¬ tS_ f n T < n := by
    intro m
    induction m with
    | zero => exact Or.inl (fun u hu => absurd hu (Nat.not_lt_zero u))
    | succ m ih =>
      rcases ih with h | ⟨T, h1, h2, h3⟩
      · by_cases z : tS_ f n m < n
        · refine Or.inl (fun u hu => ?_)
          by_cases y : u = m
          · rw [y]; exact z
          · exact h u (by omega)
        · exact Or.inr ⟨m, by omega, h, z⟩
      · exact Or.inr ⟨T, by omega, h2, h3⟩
  rcases pick (n.toNat + 1) with h | ⟨T, h1, h2, h3⟩
  · have h4 := rise n.toNat (fun u hu => h u (by omega))
    have h5 := h n.toNat (by omega)
    omega
  · have h4 := rise T h2
    have h5 := (tS_at (f := f) hn.1 T h2).2.1
    refine ⟨(T : Int), hn, ⟨by omega, by omega⟩, fun u hu => h2 u (by omega), ?_⟩
    rw [show ((T : Int)).toNat = T by omega]
    omega
/-- the first free place -/
def fi_ (Xs : Int → ab_X) : Int := if xh_ (Xs 0) = 0 then 0 else if xh_ (Xs 1) = 0 then 1 else if xh_ (Xs 2) = 0 then 2 else if xh_ (Xs 3) = 0 then 3 else 4
theorem fi_eq {Xs : Int → ab_X} {i : Int} (hi : 0 ≤ i ∧ i ≤ 4) (h : i < 4 → xh_ (Xs i) = 0) (hq : ∀ q, 0 ≤ q → q < i → xh_ (Xs q) ≠ 0) : fi_ Xs = i := by
  unfold fi_
  by_cases z0 : i = 0
  · subst z0; rw [if_pos (h (by omega))]
  · rw [if_neg (hq 0 (by omega) (by omega))]
    by_cases z1 : i = 1
    · subst z1; rw [if_pos (h (by omega))]
    · rw [if_neg (hq 1 (by omega) (by omega))]
      by_cases z2 : i = 2
      · subst z2; rw [if_pos (h (by omega))]
      · rw [if_neg (hq 2 (by omega) (by omega))]
        by_cases z3 : i = 3
        · subst z3; rw [if_pos (h (by omega))]
        · rw [if_neg (hq 3 (by omega) (by omega))]; omega
def nX_ (st : Int) (u : ab_U) (q m : Int) : ab_X := ((if st = 0 then 2 else 1, q, m, st, if st = 0 then 32 else 0), u, (fun _ => False), (fun _ => False), 0, 0, fun _ => (0, 0, 0, 0, fun _ => False))
def scD_ (a b : Int) (sc : Int → Int) : Int → Int := fun k => if k = 20 then 0 else if k = 21 then a else if k = 22 then b else sc k
def rZ_ (Z : ab_Z) : Int × Int × ab_U × Int × Int := rix_ (tK_ (zf_ Z) (zs_ Z 20)) (tN_ (zf_ Z) (zs_ Z 20))
def dfn_ (Z : ab_Z) : ab_Z := if fi_ (aTX_ (zT_ Z)) = 4 then (scD_ 0 (-1) (zs_ Z), zT_ Z, zC_ Z, zf_ Z) else if (rZ_ Z).1 ≠ 0 then (scD_ (rZ_ Z).1 (tP_ (zf_ Z) (zs_ Z 20) (rZ_ Z).2.1) (zs_ Z), zT_ Z, zC_ Z, zf_ Z) else (scD_ 0 (-1) (zs_ Z), setX_ (fi_ (aTX_ (zT_ Z))) (nX_ (aTs_ (zT_ Z)) (rZ_ Z).2.2.1 (rZ_ Z).2.2.2.1 (rZ_ Z).2.2.2.2) (zT_ Z), zC_ Z, zf_ Z)
def dfna_ (Z : ab_Z) : Int := if fi_ (aTX_ (zT_ Z)) = 4 then -2 else if (rZ_ Z).1 ≠ 0 then -1 else fi_ (aTX_ (zT_ Z))
/-- what lies on the tape are bytes -/
def jB_ (Z : ab_Z) : Prop := ∀ i, 0 ≤ i → i < zs_ Z 20 → 0 ≤ zf_ Z i ∧ zf_ Z i ≤ 255
/-! the class -/
def dfr_ (x o b : Nat) : Prop := (o = 2 ∧ (b = 9 ∨ b = 10)) ∨ (o = 3 ∧ b = 1) ∨ (x ≤ o ∧ o < x + 15) ∨ (402 ≤ o ∧ o < 406)
def dfc_ (o _b : Nat) : Prop := (2 ≤ o ∧ o < 161) ∨ (402 ≤ o ∧ o < 406)
theorem cT_dfn {M M' : mm_M} {i : Int} {Y : ab_X} {T : ab_T} (hi : 0 ≤ i ∧ i < 4) (f : fr_ (dfr_ (2 + 90 + 15 * i.toNat)) M M') (k : cT_ M 2 T) (kx : cX_ M' (2 + 90 + 15 * i.toNat) (aTl_ T) Y) : cT_ M' 2 (setX_ i Y T) := by
  obtain ⟨kt, ⟨k6, k7, k8⟩, kX⟩ := k
  refine ⟨tb_fr f (fun o b z _ y => by unfold tr_ at z; unfold dfr_ at y; omega) kt, ⟨(fr_rf f (fun y => by unfold dfr_ at y; omega)).trans k6, (fr_rf f (fun y => by unfold dfr_ at y; omega)).trans k7, (fr_rf f (fun y => by unfold dfr_ at y; omega)).trans k8⟩, fun j j0 j1 => ?_⟩
  show cX_ M' _ (aTl_ T) (if j = i then Y else aTX_ T j)
  by_cases z : j = i
  · rw [if_pos z, z]; exact kx
  · rw [if_neg z]
    exact cX_fr f (fun o b y1 y2 y3 => by unfold dfr_ at y3; omega) (kX j j0 j1)
theorem cT_slf {M : mm_M} {i : Int} {T : ab_T} (k : cT_ M 2 (setX_ i (aTX_ T i) T)) : cT_ M 2 T := by
  obtain ⟨a, b, c⟩ := k
  refine ⟨a, b, fun j j0 j1 => ?_⟩
  have := c j j0 j1
  have e : aTX_ (setX_ i (aTX_ T i) T) j = aTX_ T j := by
    show (if j = i then aTX_ T i else aTX_ T j) = aTX_ T j
    by_cases z : j = i
    · rw [if_pos z, z]
    · rw [if_neg z]
  rw [e] at this
  exact this
theorem cR_dfn {x : Nat} {a b : Int} {sc : Int → Int} {C : Int → ab_D} {f : Int → Int} {M M' : mm_M} (hx : 92 ≤ x ∧ x + 15 ≤ 152) (u : fr_ (dfr_ x) M M') (a9 : nn_rf M' 2 9 = a) (a10 : nn_rf M' 2 10 = b) (a3 : nn_rf M' 3 1 = 0) (k : cR_ M 2 sc C f) : cR_ M' 2 (scD_ a b sc) C f := by
  obtain ⟨⟨h1, h2, h3, h4, h5, h6⟩, hb, ⟨c1, c2, c3, c4, c5⟩, d, e⟩ := k
  have rf : ∀ o b, (o = 2 ∧ b ≠ 9 ∧ b ≠ 10) ∨ o = 89 → nn_rf M' o b = nn_rf M o b := fun o b z => fr_rf u (fun y => by unfold dfr_ at y; omega)
  refine ⟨⟨(rf _ _ (by omega)).trans h1, (rf _ _ (by omega)).trans h2, (rf _ _ (by omega)).trans h3, (rf _ _ (by omega)).trans h4, a9, a10⟩, fun i i0 i1 => ?_, ⟨(rf _ _ (by omega)).trans c1, (rf _ _ (by omega)).trans c2, (rf _ _ (by omega)).trans c3, (rf _ _ (by omega)).trans c4, (rf _ _ (by omega)).trans c5⟩, ?_, fun i i0 i1 => cu2_fr u (fun o b z z2 y => by unfold dfr_ at y; omega) (e i i0 i1)⟩
  · rw [fr_ri u (fun y => by unfold dfr_ at y; omega), hb i i0 i1]
    refine (wy_cg (sc := sc) (sc' := scD_ a b sc) (i := i) rfl ?_).symm
    unfold scD_
    rw [if_neg (by omega), if_neg (by omega), if_neg (by omega)]
  · show tp_ M' (2 + 1) 0 f
    exact ⟨a3, Int.le_refl _, by omega, fun i i0 i1 => by omega⟩
theorem ct_LI_define {bd : Int} {Z : ab_Z} {M : mm_M} {R : Int → mm_M → Prop} (hbd : bd < 2147483648) (k : cZ_ M 2 Z) (j : jZ_ bd Z) (hb : jB_ Z) (h : ∀ M', fr_ dfc_ M M' → cZ_ M' 2 (dfn_ Z) → R (dfna_ Z) M') : nr_LI_define M R := by
  obtain ⟨kt, kr⟩ := k
  have kX := kt.2.2
  have jn := j.2.1.2.2.2.2.1
  refine ng_LI_define _ _ ?_
  refine ng_Store_defined _ _ _ ?_
  have L : ∀ i : Int, i ≤ 4 → 0 ≤ i → (∀ q, 0 ≤ q → q < i → xh_ (aTX_ (zT_ Z) q) ≠ 0) → nk_Store_defined_2 2 i M (fun r8 M8 => R r8 M8) := by
    refine lp_up (fun i hi ih i0 hq => ?_)
    refine ng_Store_defined_2 _ _ _ _ ⟨fun c => ⟨i0, c⟩, fun c => ?_, fun c => ?_⟩
    · have hfi : fi_ (aTX_ (zT_ Z)) = i := fi_eq ⟨i0, hi⟩ (fun y => (kX i i0 y).1.symm.trans (c.resolve_left (by omega))) hq
      intro M1 e1 M2 e2
      have u2 : fr_ (dfr_ (2 + 90 + 15 * i.toNat)) M M2 := by
        rw [e2, e1]; exact fr_uf (fr_uf (fr_refl M) (Or.inl ⟨rfl, Or.inl rfl⟩)) (Or.inl ⟨rfl, Or.inr rfl⟩)
      have g9 : nn_rf M2 2 9 = 0 := by rw [e2, rd_ff, if_neg (by omega), e1, rd_ff, if_pos ⟨rfl, rfl⟩]
      have g10 : nn_rf M2 2 10 = -1 := by rw [e2, rd_ff, if_pos ⟨rfl, rfl⟩]
      refine ⟨fun c4 => ⟨fun _ => ?_, fun y => by omega⟩, fun c4 => ⟨⟨i0, c4⟩, ?_⟩⟩
      · intro M3 e3
        have h4 : fi_ (aTX_ (zT_ Z)) = 4 := by omega
        unfold dfn_ dfna_ at h
        rw [if_pos h4, if_pos h4] at h
        have u3 : fr_ (fun o b => (o = 2 ∧ (b = 9 ∨ b = 10)) ∨ (o = 3 ∧ b = 1)) M M3 := by
          rw [e3, e2, e1]; exact fr_uf (fr_uf (fr_uf (fr_refl M) (Or.inl ⟨rfl, Or.inl rfl⟩)) (Or.inl ⟨rfl, Or.inr rfl⟩)) (Or.inr ⟨rfl, rfl⟩)
        refine h M3 (fr_mono u3 (fun o b y => by unfold dfc_; omega)) ⟨cT_fr u3 (fun o b y y2 => by unfold sw_ at y; omega) kt, cR_dfn (x := 92) ⟨by omega, by omega⟩ (fr_mono u3 (fun o b y => by unfold dfr_; omega)) ?_ ?_ ?_ kr⟩
        · rw [e3, rd_ff, if_neg (by omega)]; exact g9
        · rw [e3, rd_ff, if_neg (by omega)]; exact g10
        · rw [e3, rd_ff, if_pos ⟨rfl, rfl⟩]
      · have hi4 : 0 ≤ i ∧ i < 4 := ⟨i0, c4⟩
        have n4 : ¬ fi_ (aTX_ (zT_ Z)) = 4 := by omega
        have hz : xh_ (aTX_ (zT_ Z) i) = 0 := (kX i i0 c4).1.symm.trans (c.resolve_left (by omega))
        have tp2 : tp_ M2 3 (zs_ Z 20) (zf_ Z) := tp_fr (M := M) (P := fun o b => o = 2 ∧ (b = 9 ∨ b = 10)) (by rw [e2, e1]; exact fr_uf (fr_uf (fr_refl M) ⟨rfl, Or.inl rfl⟩) ⟨rfl, Or.inr rfl⟩) (fun o b z z2 y => by omega) kr.2.2.2.1
        obtain ⟨ks0, ks1, _⟩ := kX i i0 c4
        unfold dfn_ dfna_ at h
        rw [if_neg n4, if_neg n4, hfi] at h
        refine ct_Rd_index (v := 3) (n := zs_ Z 20) (f := zf_ Z) (by decide) (by omega) (Or.inl (by omega)) rfl tp2 hb (fun w M3 f3 p3 q6 q7 => ⟨fun y => absurd y (show (1 : Int) ≠ 0 by decide), fun _ => ⟨⟨i0, c4⟩, ?_⟩⟩) (fun w M3 f3 p3 p4 p5 => ⟨fun _ => ⟨fun y => by omega, fun _ => ?_⟩, fun y => absurd rfl y⟩)
        · -- it is one
          have w' : ¬ (rZ_ Z).1 ≠ 0 := fun y => y w
          rw [if_neg w', if_neg w'] at h
          obtain ⟨T, xt⟩ := tx_ex (f := zf_ Z) jn
          have kn := kn_of jn xt.2.1 xt.2.2.1 xt.2.2.2
          obtain ⟨⟨a, a0, a1, ub⟩, hq1, hm1⟩ := rix_ub kn w
          have p3 : rlp_ M3 (2 + 90 + 15 * i.toNat + 1) (rZ_ Z).2.2.1 := p3
          have ub : ub_ (rZ_ Z).2.2.1 a := ub
          have q6 : nn_rf M3 (2 + 90 + 15 * i.toNat) 6 = (rZ_ Z).2.2.2.1 := q6
          have q7 : nn_rf M3 (2 + 90 + 15 * i.toNat) 7 = (rZ_ Z).2.2.2.2 := q7
          generalize (rZ_ Z).2.2.1 = u at *
          generalize (rZ_ Z).2.2.2.1 = uq at *
          generalize (rZ_ Z).2.2.2.2 = um at *
          have rl : rl_ M3 (2 + 90 + 15 * i.toNat + 1) u := ⟨rb_ub ⟨a0, a1⟩ ub, p3.1, fun f c f0 f1 c0 c1 => p3.2.1 f c f0 (by have := ub.1; omega) c0 c1, p3.2.2⟩
          have F3 : fr_ (dfr_ (2 + 90 + 15 * i.toNat)) M M3 := fr_trans u2 (fr_mono f3 (fun o b y => by unfold rxc_ at y; unfold dfr_; omega))
          have tb3 : tb_ M3 (2 + 3) (aTm_ (zT_ Z)) (aTl_ (zT_ Z)) (aTn_ (zT_ Z)) (aTq_ (zT_ Z)) := tb_fr F3 (fun o b z _ y => by unfold tr_ at z; unfold dfr_ at y; omega) kt.1
          have s3 : nn_rf M3 (2 + 3) 6 = aTs_ (zT_ Z) := (fr_rf F3 (fun y => by unfold dfr_ at y; omega)).trans kt.2.1.1
          have vr : vr2_ (aTl_ (zT_ Z)) := fun q p hp => by
            have := lk_rows j.1.1 q p hp
            have := j.1.2.2.1.1
            omega
          refine ct_I_begin (by omega) rl (fun a' z0 z1 => ub.2.2.2 a' z0 (by have := ub.1; omega)) tb3.2.1.1 vr (fun M4 f4 b5 b8 b9 b41 b61 b85 bv => ?_)
          intro M5 e5
          rw [s3] at b5 b8 b9
          have F4 : fr_ (dfr_ (2 + 90 + 15 * i.toNat)) M M4 := fr_trans F3 (fr_mono f4 (fun o b y => by unfold ib_ at y; unfold dfr_; omega))
          have f5 : fr_ (fun o b => o = 3 ∧ b = 1) M4 M5 := by rw [e5]; exact fr_uf (fr_refl M4) ⟨rfl, rfl⟩
          have F5 : fr_ (dfr_ (2 + 90 + 15 * i.toNat)) M M5 := fr_trans F4 (fr_mono f5 (fun o b y => Or.inr (Or.inl y)))
          have rf5 : ∀ o b, 92 ≤ o → nn_rf M5 o b = nn_rf M4 o b := fun o b z => fr_rf f5 (fun y => by omega)
          have ri5 : ∀ o (b : Int), 92 ≤ o → nn_ri M5 o b = nn_ri M4 o b := fun o b z => fr_ri f5 (fun y => by omega)
          have e0 : ∀ v, 92 ≤ v → nn_rf M4 v 1 = 0 → es_ M5 v (fun _ => False) := by
            intro v hv e
            have e := (rf5 v 1 hv).trans e
            refine ⟨by rw [e]; exact Int.le_refl _, by rw [e]; omega, ?_⟩
            rw [e]
            exact ⟨fun i i0 i1 => by omega, fun x hx => hx.elim, fun a b a0 a1 a2 => by omega⟩
          have s0 : nn_ri M5 (2 + 90 + 15 * i.toNat + 10) 0 = 0 := by
            rw [ri5 _ _ (by omega), fr_ri f4 (fun y => by unfold ib_ at y; omega), fr_ri f3 (fun y => by unfold rxc_ at y; omega), e2, rd_if, if_neg (by omega), e1, rd_if, if_neg (by omega)]
            exact ks1
          refine h M5 (fr_mono F5 (fun o b y => by unfold dfr_ at y; unfold dfc_; omega)) ⟨cT_dfn hi4 F5 kt ⟨?_, s0, fun _ => ⟨⟨?_, ?_, ?_, ?_⟩, ?_, e0 _ (by omega) b41, ⟨e0 _ (by omega) b61, ?_⟩, ?_, fun q q0 q1 => ?_⟩⟩, cR_dfn ⟨by omega, by omega⟩ F5 ?_ ?_ ?_ kr⟩
          · exact (rf5 _ _ (by omega)).trans b5
          · rw [rf5 _ _ (by omega), fr_rf f4 (fun y => by unfold ib_ at y; omega)]; exact q6
          · rw [rf5 _ _ (by omega), fr_rf f4 (fun y => by unfold ib_ at y; omega)]; exact q7
          · exact (rf5 _ _ (by omega)).trans b8
          · exact (rf5 _ _ (by omega)).trans b9
          · exact rl_fr f5 (fun o b z z2 y => by omega) (rl_fr f4 (fun o b z z2 y => by unfold ib_ at y; omega) rl)
          · exact (rf5 _ _ (by omega)).trans b61
          · refine ⟨⟨(rf5 _ _ (by omega)).trans b85, Int.le_refl _, by show (0 : Int) ≤ 24; decide⟩, ⟨s0, ?_⟩, fun r r0 r1 => ?_, fun r r0 r1 => ?_⟩
            · show nn_ri M5 (2 + 90 + 15 * i.toNat + 8 + 2) 0 ≤ 144
              have s0' : nn_ri M5 (2 + 90 + 15 * i.toNat + 8 + 2) 0 = 0 := s0
              omega
            · have r1 : r < 0 := r1
              omega
            · have r1 : r < 0 := r1
              omega
          · exact (ri5 _ _ (by omega)).trans (bv q q0 q1)
          · rw [fr_rf f5 (fun y => by omega), fr_rf f4 (fun y => by unfold ib_ at y; omega), fr_rf f3 (fun y => by unfold rxc_ at y; omega)]; exact g9
          · rw [fr_rf f5 (fun y => by omega), fr_rf f4 (fun y => by unfold ib_ at y; omega), fr_rf f3 (fun y => by unfold rxc_ at y; omega)]; exact g10
          · rw [e5, rd_ff, if_pos ⟨rfl, rfl⟩]
        · -- it is none
          have w' : (rZ_ Z).1 ≠ 0 := w
          rw [if_pos w', if_pos w'] at h
          intro M4 e4
          have n402 : ∀ b, nn_rf M4 402 b = nn_rf M3 402 b := fun b => by rw [e4, rd_ff, if_neg (by omega)]
          refine ⟨?_, ?_⟩
          · unfold nc_Reader_place
            rw [n402]
            omega
          intro M5 e5 M6 e6
          have p5' : nn_ri M4 404 (nn_rf M4 402 3) = tP_ (zf_ Z) (zs_ Z 20) (rZ_ Z).2.1 := by
            rw [n402, e4, rd_if, if_neg (by omega)]; exact p5
          have e5 : M5 = nn_uf M4 2 10 (tP_ (zf_ Z) (zs_ Z 20) (rZ_ Z).2.1) := by
            rw [← p5']; exact e5
          rw [p3] at e4
          have u6 : fr_ (fun o b => (o = 2 ∧ (b = 9 ∨ b = 10)) ∨ (o = 3 ∧ b = 1)) M3 M6 := by
            rw [e6, e5, e4]
            exact fr_uf (fr_uf (fr_uf (fr_refl M3) (Or.inl ⟨rfl, Or.inl rfl⟩)) (Or.inl ⟨rfl, Or.inr rfl⟩)) (Or.inr ⟨rfl, rfl⟩)
          have F6 : fr_ (dfr_ (2 + 90 + 15 * i.toNat)) M M6 := fr_trans (fr_trans u2 (fr_mono f3 (fun o b y => by unfold rxc_ at y; unfold dfr_; omega))) (fr_mono u6 (fun o b y => by unfold dfr_; omega))
          have kx6 : cX_ M6 (2 + 90 + 15 * i.toNat) (aTl_ (zT_ Z)) (aTX_ (zT_ Z) i) := by
            refine ⟨?_, ?_, fun y => absurd hz y⟩
            · rw [fr_rf u6 (fun y => by omega), fr_rf f3 (fun y => by unfold rxc_ at y; omega), e2, rd_ff, if_neg (by omega), e1, rd_ff, if_neg (by omega)]; exact ks0
            · rw [fr_ri u6 (fun y => by omega), fr_ri f3 (fun y => by unfold rxc_ at y; omega), e2, rd_if, if_neg (by omega), e1, rd_if, if_neg (by omega)]; exact ks1
          refine h M6 (fr_mono F6 (fun o b y => by unfold dfr_ at y; unfold dfc_; omega)) ⟨cT_slf (cT_dfn hi4 F6 kt kx6), cR_dfn ⟨by omega, by omega⟩ F6 ?_ ?_ ?_ kr⟩
          · rw [e6, rd_ff, if_neg (by omega), e5, rd_ff, if_neg (by omega), e4, rd_ff, if_pos ⟨rfl, rfl⟩]; rfl
          · rw [e6, rd_ff, if_neg (by omega), e5, rd_ff, if_pos ⟨rfl, rfl⟩]
          · rw [e6, rd_ff, if_pos ⟨rfl, rfl⟩]
    · rw [mm_w_id (x := i + 1) (by omega)]
      exact ih c.1 (by omega) (fun q q0 q1 => by
        by_cases z : q = i
        · rw [z, ← (kX i i0 c.1).1]; exact c.2
        · exact hq q q0 (by omega))
  exact L 0 (by omega) (Int.le_refl _) (fun q q0 q1 => by omega)
theorem fi_free {Xs : Int → ab_X} {i : Int} (hi : 0 ≤ i ∧ i < 4) (h : fi_ Xs = i) : xh_ (Xs i) = 0 := by
  unfold fi_ at h
  by_cases z0 : xh_ (Xs 0) = 0
  · rw [if_pos z0] at h; rw [← h]; exact z0
  · rw [if_neg z0] at h
    by_cases z1 : xh_ (Xs 1) = 0
    · rw [if_pos z1] at h; rw [← h]; exact z1
    · rw [if_neg z1] at h
      by_cases z2 : xh_ (Xs 2) = 0
      · rw [if_pos z2] at h; rw [← h]; exact z2
      · rw [if_neg z2] at h
        by_cases z3 : xh_ (Xs 3) = 0
        · rw [if_pos z3] at h; rw [← h]; exact z3
        · rw [if_neg z3] at h; omega
