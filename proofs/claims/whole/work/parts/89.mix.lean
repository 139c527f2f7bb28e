/-! the Model: a merge of an index' runs, its first half: the least head, entries go over to the new run's number, the sort -/
/-- the least number of the repaired ones, taken as the Model takes it -/
theorem ct_M_mixLeast {b i f m level n : Int} {M : mm_M} {R : mm_M → Prop} {g : Int → ab_P} (hb : bk_ b) (hi : 0 ≤ i ∧ i < 4) (k : hM_ M (xi_ b i) n g) (hf : 0 ≤ f) (hm : 1 ≤ m) (hn : f + m ≤ n) (hr : ∀ r, 0 ≤ r → r < n → 0 ≤ (g r).2.2.2.1) (h : nk_M_mergesIndex_83 b f m level (xi_ b i) (lr_ (fun r => (g r).2.2.2.1) f m.toNat) 0 M R) : nr_M_mergesIndex b i f m level M R := by
  have hb' := hb
  unfold bk_ at hb'
  obtain ⟨k1, n0, n23, k4⟩ := k
  have hx : xi_ b i = b + 1784 + 855 * i := rfl
  have pos : ∀ j : Nat, 1 ≤ j → f + (j : Int) ≤ n → 0 ≤ lr_ (fun r => (g r).2.2.2.1) f j := by
    intro j
    induction j with
    | zero => intro c; omega
    | succ j ih =>
      intro _ hj
      have h1 := hr (f + j) (by omega) (by omega)
      show 0 ≤ ls_ (lr_ (fun r => (g r).2.2.2.1) f j) ((g (f + j)).2.2.2.1)
      unfold ls_
      by_cases z : j = 0
      · subst z
        rw [show lr_ (fun r => (g r).2.2.2.1) f 0 = -1 from rfl, if_pos rfl]
        exact h1
      · have := ih (by omega) (by omega)
        rw [if_neg (by omega), if_neg (by omega)]
        omega
  have L : ∀ r : Int, r ≤ f + m → f ≤ r → nk_M_mergesIndex_25 b f m level (xi_ b i) (lr_ (fun r => (g r).2.2.2.1) f (max (r - f) 1).toNat) r M R := by
    refine lp_up (fun r hrm ih r0 => ?_)
    refine ng_M_mergesIndex_25 _ _ _ _ _ _ _ _ _ ?_
    rw [mm_w_id (x := f + m) (by omega), mm_w_id (x := r + 1) (by omega)]
    refine ⟨fun c => ?_, fun c => ?_⟩
    · rw [show (max (r - f) 1).toNat = m.toNat by omega]
      exact h
    have nx := ih c (by omega)
    obtain ⟨_, _, y3⟩ := k4 r (by omega) (by omega)
    rw [nf_head ⟨by omega, by omega⟩ ⟨by omega, by omega⟩, mm_w_id (x := xi_ b i + 143 + 3 * r + 2) (by omega), y3]
    by_cases z : r = f
    · subst z
      have e0 : lr_ (fun r => (g r).2.2.2.1) r (max (r - r) 1).toNat = (g r).2.2.2.1 := by
        rw [show (max (r - r) 1).toNat = 0 + 1 by omega]
        show ls_ (-1) ((g (r + ((0 : Nat) : Int))).2.2.2.1) = _
        rw [show r + ((0 : Nat) : Int) = r by omega]
        exact if_pos rfl
      rw [show (max (r + 1 - r) 1).toNat = (max (r - r) 1).toNat by omega] at nx
      rw [e0] at nx ⊢
      exact ⟨by omega, fun _ => nx, fun w => by omega⟩
    · have hp := pos (r - f).toNat (by omega) (by omega)
      have hr1 := hr r (by omega) (by omega)
      rw [show (max (r - f) 1).toNat = (r - f).toNat by omega]
      rw [show (max (r + 1 - f) 1).toNat = (r - f).toNat + 1 by omega] at nx
      have e : lr_ (fun r => (g r).2.2.2.1) f ((r - f).toNat + 1) = min (lr_ (fun r => (g r).2.2.2.1) f (r - f).toNat) (g r).2.2.2.1 := by
        show ls_ (lr_ (fun r => (g r).2.2.2.1) f (r - f).toNat) ((g (f + ((r - f).toNat : Int))).2.2.2.1) = _
        rw [show f + ((r - f).toNat : Int) = r by omega]
        unfold ls_
        rw [if_neg (by omega), if_neg (by omega)]
      rw [e] at nx
      refine ⟨by omega, fun w => ?_, fun w => ⟨by omega, ?_⟩⟩
      · rw [show min (lr_ (fun r => (g r).2.2.2.1) f (r - f).toNat) (g r).2.2.2.1 = lr_ (fun r => (g r).2.2.2.1) f (r - f).toNat by omega] at nx
        exact nx
      · intro y ey
        rw [ey]
        rw [show min (lr_ (fun r => (g r).2.2.2.1) f (r - f).toNat) (g r).2.2.2.1 = (g r).2.2.2.1 by omega] at nx
        exact nx
  refine ng_M_mergesIndex _ _ _ _ _ _ _ ?_
  obtain ⟨_, _, y3⟩ := k4 f hf (by omega)
  rw [nf_at hb hi, ← hx, nf_head ⟨by omega, by omega⟩ ⟨by omega, by omega⟩, mm_w_id (x := xi_ b i + 143 + 3 * f + 2) (by omega), y3]
  refine ⟨by omega, ?_⟩
  intro y ey
  rw [ey]
  have := L f (by omega) (Int.le_refl _)
  rw [show (max (f - f) 1).toNat = 0 + 1 by omega] at this
  have e0 : lr_ (fun r => (g r).2.2.2.1) f (0 + 1) = (g f).2.2.2.1 := by
    show ls_ (-1) ((g (f + ((0 : Nat) : Int))).2.2.2.1) = _
    rw [show f + ((0 : Nat) : Int) = f by omega]
    exact if_pos rfl
  rw [e0] at this
  exact this
/-- an entry of the runs f .. f + m - 1 goes over to run f -/
def rlb_ (f m y : Int) : Int := if f ≤ y / 4503599627370496 - 1 ∧ y / 4503599627370496 - 1 < f + m then (f + 1) * 4503599627370496 + y % 4503599627370496 else y
theorem e4_rlb {M M' : mm_M} {f m a y : Int} (hf : 0 ≤ f) (h : e4_ M a y) (hw : f ≤ y / 4503599627370496 - 1 ∧ y / 4503599627370496 - 1 < f + m) (g0 : nn_ri M' 408 a = f + 1) (g1 : nn_ri M' 408 (a + 1) = nn_ri M 408 (a + 1)) (g2 : nn_ri M' 408 (a + 2) = nn_ri M 408 (a + 2)) (g3 : nn_ri M' 408 (a + 3) = nn_ri M 408 (a + 3)) : e4_ M' a (rlb_ f m y) := by
  obtain ⟨h0, hv, h1, h2, h3, h4⟩ := h
  unfold rlb_
  rw [if_pos hw]
  have e1 : ((f + 1) * 4503599627370496 + y % 4503599627370496) % 4503599627370496 = y % 4503599627370496 := by omega
  have e2 : ((f + 1) * 4503599627370496 + y % 4503599627370496) / 4503599627370496 = f + 1 := by omega
  unfold e4_
  rw [e1, e2]
  exact ⟨by omega, hv, g0, g1.trans h2, g2.trans h3, g3.trans h4⟩
theorem ct_M_mixLabel {b f m level x rep n : Int} {M : mm_M} {R : mm_M → Prop} {E : Int → Int} (hx : 0 ≤ x ∧ x + 855 ≤ 32844) (k : eM_ M x n E) (hf : 0 ≤ f) (hm : 1 ≤ m) (hfm : f + m ≤ 100) (hE : ∀ e, 0 ≤ e → e < n → E e / 4503599627370496 < 1000)
    (h : ∀ M' E', fr_ (a8_ (x + 215) (x + 215 + 4 * n)) M M' → eM_ M' x n E' → so_ E' 0 n → (∀ y, sg_ E' 0 n y ↔ sg_ (fun e => rlb_ f m (E e)) 0 n y) → (∀ Q, uq_ (fun e => rlb_ f m (E e)) n Q → uq_ E' n Q) → nk_M_mergesIndex_205 b f m level x rep (if nn_ri M 408 (x + 2) = 1 then 1 else 0) (n - 1) M' R) : nk_M_mergesIndex_83 b f m level x rep 0 M R := by
  obtain ⟨k1, n0, n160, k4⟩ := k
  have L : ∀ e : Int, e ≤ n → 0 ≤ e → ∀ M1, fr_ (a8_ (x + 215) (x + 215 + 4 * n)) M M1 → eM_ M1 x n (fun j => if j < e then rlb_ f m (E j) else E j) → nk_M_mergesIndex_83 b f m level x rep e M1 R := by
    refine lp_up (fun e he ih e0 M1 f1 q1 => ?_)
    refine ng_M_mergesIndex_83 _ _ _ _ _ _ _ _ _ ?_
    rw [mm_w_id (x := x + 6) (by omega), q1.1, mm_w_id (x := e + 1) (by omega)]
    refine ⟨by omega, fun c => ?_, fun c => ?_⟩
    · have e1 : e = n := by omega
      subst e1
      refine ct_M_sorts hx q1 (fun M2 E2 f2 q2 s2 m2 u2 => ?_)
      have f12 := fr_trans f1 f2
      rw [mm_w_id (x := x + 2) (by omega), q2.1, mm_w_id (x := e - 1) (by omega), a8_ri f12 (by omega) (Or.inl (by omega))]
      have nx := h M2 E2 f12 q2 s2 (fun y => (m2 y).trans (sg_cg (fun j j0 j1 => by show rlb_ f m (E j) = _; rw [if_pos j1]) y).symm) (fun Q hQ => u2 Q (fun a c' a0 a1 c0 c1 ea => by
        have ea2 : (if a < e then rlb_ f m (E a) else E a) = (if c' < e then rlb_ f m (E c') else E c') := ea
        show a = c' ∨ Q (if a < e then rlb_ f m (E a) else E a)
        rw [if_pos a1, if_pos c1] at ea2
        rw [if_pos a1]
        exact hQ a c' a0 a1 c0 c1 ea2))
      refine ⟨by omega, fun z => ⟨by omega, ?_⟩, fun z => ⟨by omega, ?_⟩⟩
      · intro y ey
        rw [ey]
        rw [if_neg z] at nx
        exact nx
      · intro y ey
        rw [ey]
        rw [if_pos z] at nx
        exact nx
    · have q1e := q1.2.2.2 e e0 c
      have q1e' : e4_ M1 (x + 215 + 4 * e) (E e) := by
        have t : (if e < e then rlb_ f m (E e) else E e) = E e := if_neg (by omega)
        have q1e2 : e4_ M1 (x + 215 + 4 * e) (if e < e then rlb_ f m (E e) else E e) := q1e
        rw [t] at q1e2
        exact q1e2
      have hEe := hE e e0 c
      obtain ⟨p1, p2, p3, p4, p5⟩ := e4_parts q1e'
      have p6 := q1e'.2.2.1
      rw [nf_entryAt ⟨by omega, by omega⟩ ⟨by omega, by omega⟩, p6, mm_w_id (x := E e / 4503599627370496 - 1) (by omega), mm_w_id (x := f + m) (by omega), mm_w_id (x := f + m - 1) (by omega), mm_w_id (x := f + 1) (by omega)]
      refine ⟨by omega, ?_⟩
      intro y ey
      rw [ey]
      have put : ∀ M2, fr_ (fun o c => o = 408 ∧ (c : Int) = x + 215 + 4 * e) M1 M2 → e4_ M2 (x + 215 + 4 * e) (rlb_ f m (E e)) → nk_M_mergesIndex_83 b f m level x rep (e + 1) M2 R := by
        intro M2 f2 q2
        have rd : ∀ i, 0 ≤ i → i ≠ x + 215 + 4 * e → nn_ri M2 408 i = nn_ri M1 408 i := fun i i0 hi => fr_ri f2 (fun z => by have := z.2; omega)
        refine ih c (by omega) M2 (fr_trans f1 (fr_mono f2 (fun o c z => ⟨z.1, by omega⟩))) ⟨(rd _ (by omega) (by omega)).trans q1.1, n0, n160, fun j j0 j1 => ?_⟩
        show e4_ M2 (x + 215 + 4 * j) (if j < e + 1 then rlb_ f m (E j) else E j)
        by_cases z : j = e
        · rw [z, if_pos (by omega)]; exact q2
        · have t := q1.2.2.2 j j0 j1
          have t2 : e4_ M1 (x + 215 + 4 * j) (if j < e then rlb_ f m (E j) else E j) := t
          have e3 : (if j < e + 1 then rlb_ f m (E j) else E j) = if j < e then rlb_ f m (E j) else E j := by
            by_cases w : j < e
            · rw [if_pos w, if_pos (by omega)]
            · rw [if_neg w, if_neg (by omega)]
          rw [e3]
          exact e4_cg t2 (rd _ (by omega) (by omega)) (rd _ (by omega) (by omega)) (rd _ (by omega) (by omega)) (rd _ (by omega) (by omega))
      refine ⟨fun z => ⟨by omega, by omega, ?_⟩, fun z => ⟨by omega, ?_⟩⟩
      · intro M2 eM
        rw [eM]
        have hno : ¬ (f ≤ E e / 4503599627370496 - 1 ∧ E e / 4503599627370496 - 1 < f + m) := by
          intro w
          unfold nf_M_isIn at z
          rw [if_neg (by omega), if_neg (by omega)] at z
          exact absurd z (by decide)
        refine put _ (fr_ui (fr_refl M1) ⟨rfl, by omega⟩) ?_
        have e5 : rlb_ f m (E e) = E e := if_neg hno
        rw [e5]
        refine e4_cg q1e' ?_ ?_ ?_ ?_
        · rw [rd_ii, if_pos ⟨rfl, rfl⟩]; exact p6.symm
        · rw [rd_ii, if_neg (by omega)]
        · rw [rd_ii, if_neg (by omega)]
        · rw [rd_ii, if_neg (by omega)]
      · intro M2 eM
        rw [eM]
        have hyes : f ≤ E e / 4503599627370496 - 1 ∧ E e / 4503599627370496 - 1 < f + m := by
          unfold nf_M_isIn at z
          by_cases w : E e / 4503599627370496 - 1 < f
          · rw [if_pos w] at z; exact absurd rfl z
          · rw [if_neg w] at z
            by_cases v : f + m - 1 < E e / 4503599627370496 - 1
            · rw [if_pos v] at z; exact absurd rfl z
            · omega
        refine put _ (fr_ui (fr_refl M1) ⟨rfl, by omega⟩) ?_
        refine e4_rlb hf q1e' hyes ?_ ?_ ?_ ?_
        · rw [rd_ii, if_pos ⟨rfl, rfl⟩]
        · rw [rd_ii, if_neg (by omega)]
        · rw [rd_ii, if_neg (by omega)]
        · rw [rd_ii, if_neg (by omega)]
  refine L 0 n0 (Int.le_refl _) M (fr_refl M) ⟨k1, n0, n160, fun j j0 j1 => ?_⟩
  show e4_ M (x + 215 + 4 * j) (if j < 0 then rlb_ f m (E j) else E j)
  rw [if_neg (by omega)]
  exact k4 j j0 j1
