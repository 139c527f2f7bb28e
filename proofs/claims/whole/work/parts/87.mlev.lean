/-! the Model: SURE; which runs are alike; the top level -/
def ol_ (rep : Int → Int) (s0 : Int) : Nat → Int
  | 0 => s0
  | k + 1 => if ol_ rep s0 k = -1 ∨ rep k < ol_ rep s0 k then rep k else ol_ rep s0 k
theorem ls_swap (a r s : Int) : ls_ (ls_ a r) s = ls_ (ls_ a s) r := by
  unfold ls_
  by_cases ha : a = -1
  · rw [if_pos ha, if_pos ha]
    by_cases hr : r = -1
    · rw [if_pos hr]
      by_cases hs : s = -1
      · rw [if_pos hs, hr, hs]
      · rw [if_neg hs, if_pos hr]
    · rw [if_neg hr]
      by_cases hs : s = -1
      · rw [if_pos hs, if_pos hs]
      · rw [if_neg hs, if_neg hs, if_neg hr]
        omega
  · rw [if_neg ha, if_neg ha]
    by_cases hr : r = -1
    · rw [if_pos hr, if_neg ha]
      by_cases hs : s = -1
      · rw [if_pos hs, if_neg ha, if_pos hr]
      · rw [if_neg hs]
        by_cases hm : min a s = -1
        · rw [if_pos hm, hm, hr]
        · rw [if_neg hm, if_pos hr]
    · rw [if_neg hr]
      by_cases hs : s = -1
      · rw [if_pos hs, if_pos hs, if_neg ha]
        by_cases hm : min a r = -1
        · rw [if_pos hm, hm, hs, if_neg hr]
        · rw [if_neg hm, if_neg hr]
      · rw [if_neg hs, if_neg hs]
        by_cases hm : min a r = -1
        · rw [if_pos hm]
          by_cases hn : min a s = -1
          · rw [if_pos hn]; omega
          · rw [if_neg hn]; omega
        · rw [if_neg hm]
          by_cases hn : min a s = -1
          · rw [if_pos hn]; omega
          · rw [if_neg hn]; omega
theorem ol_ls {rep : Int → Int} {s0 : Int} (hs : s0 = -1 ∨ 0 ≤ s0) : ∀ {n : Nat}, (∀ r : Int, 0 ≤ r → r < n → 0 ≤ rep r) → ol_ rep s0 n = ls_ (lr_ rep 0 n) s0 ∧ (ol_ rep s0 n = -1 ∨ 0 ≤ ol_ rep s0 n)
  | 0, _ => by
    refine ⟨?_, hs⟩
    show s0 = ls_ (-1) s0
    unfold ls_
    rw [if_pos rfl]
  | n + 1, h => by
    obtain ⟨i1, i2⟩ := ol_ls (rep := rep) hs (n := n) (fun r r0 r1 => h r r0 (by omega))
    have hr := h n (by omega) (by omega)
    have e : ol_ rep s0 (n + 1) = ls_ (ol_ rep s0 n) (rep n) := by
      show (if ol_ rep s0 n = -1 ∨ rep n < ol_ rep s0 n then rep n else ol_ rep s0 n) = _
      unfold ls_
      rcases i2 with i2 | i2
      · rw [if_pos (Or.inl i2), if_pos i2]
      · rw [if_neg (show ¬ ol_ rep s0 n = -1 by omega), if_neg (show ¬ rep n = -1 by omega)]
        by_cases z : rep n < ol_ rep s0 n
        · rw [if_pos (Or.inr z)]; omega
        · rw [if_neg (by omega)]; omega
    constructor
    · rw [e, i1, ls_swap]
      show _ = ls_ (ls_ (lr_ rep 0 n) (rep (0 + (n : Int)))) s0
      rw [show (0 : Int) + (n : Int) = n by omega, ls_swap]
    · show (if ol_ rep s0 n = -1 ∨ rep n < ol_ rep s0 n then rep n else ol_ rep s0 n) = -1 ∨ 0 ≤ (if ol_ rep s0 n = -1 ∨ rep n < ol_ rep s0 n then rep n else ol_ rep s0 n)
      split <;> omega
def xi_ (b i : Int) : Int := b + 1784 + 855 * i
/-- what SURE asks of an index -/
def iS_ (M : mm_M) (x how begun n : Int) (g : Int → ab_P) : Prop := nn_ri M 408 x = how ∧ (how ≠ 0 → nn_ri M 408 (x + 3) = begun ∧ 0 ≤ begun ∧ hM_ M x n g ∧ ∀ r, 0 ≤ r → r < n → 0 ≤ (g r).2.2.2.1)
def os_ (how begun n : Int) (g : Int → ab_P) : Int := ls_ (lr_ (fun r => (g r).2.2.2.1) 0 n.toNat) (if how = 1 then begun else -1)
theorem ct_M_oldest {b i how begun n : Int} {M : mm_M} {R : Int → mm_M → Prop} {g : Int → ab_P} (hb : bk_ b) (hi : 0 ≤ i ∧ i < 4) (k : iS_ M (xi_ b i) how begun n g) (hh : how ≠ 0) (h : R (os_ how begun n g) M) : nr_M_oldest b i M R := by
  obtain ⟨k1, k2⟩ := k
  obtain ⟨k3, k4, ⟨k5, n0, n23, k6⟩, k7⟩ := k2 hh
  have hb' := hb
  unfold bk_ at hb'
  unfold xi_ at k1 k3 k5 k6
  refine ng_M_oldest _ _ _ _ ?_
  rw [nf_at hb hi]
  generalize hx : b + 1784 + 855 * i = x at k1 k3 k5 k6 ⊢
  have hx0 : 0 ≤ x ∧ x + 855 ≤ 32844 := by omega
  rw [mm_w_id (x := x + 0) (by omega), show x + 0 = x by omega, k1, mm_w_id (x := x + 3) (by omega), k3]
  have L : ∀ s0 : Int, (s0 = -1 ∨ 0 ≤ s0) → s0 = (if how = 1 then begun else -1) → nk_M_oldest_35 x s0 0 M R := by
    intro s0 hs0 hs1
    have LL : ∀ r : Int, r ≤ n → 0 ≤ r → nk_M_oldest_35 x (ol_ (fun r => (g r).2.2.2.1) s0 r.toNat) r M R := by
      refine lp_up (fun r hr ih r0 => ?_)
      refine ng_M_oldest_35 _ _ _ _ _ ?_
      rw [mm_w_id (x := x + 5) (by omega), k5]
      refine ⟨by omega, fun c => ?_, fun c => ?_⟩
      · have : r = n := by omega
        subst this
        have e := (ol_ls (rep := fun r => (g r).2.2.2.1) hs0 (n := r.toNat) (fun r r0 r1 => k7 r r0 (by omega))).1
        rw [e, hs1]
        exact h
      obtain ⟨y1, y2, y3⟩ := k6 r r0 c
      have nx := ih c (by omega)
      rw [show (r + 1).toNat = r.toNat + 1 by omega] at nx
      have e : ol_ (fun r => (g r).2.2.2.1) s0 (r.toNat + 1) = if ol_ (fun r => (g r).2.2.2.1) s0 r.toNat = -1 ∨ (g r).2.2.2.1 < ol_ (fun r => (g r).2.2.2.1) s0 r.toNat then (g r).2.2.2.1 else ol_ (fun r => (g r).2.2.2.1) s0 r.toNat := by
        show (if ol_ (fun r => (g r).2.2.2.1) s0 r.toNat = -1 ∨ (g (r.toNat : Int)).2.2.2.1 < ol_ (fun r => (g r).2.2.2.1) s0 r.toNat then (g (r.toNat : Int)).2.2.2.1 else ol_ (fun r => (g r).2.2.2.1) s0 r.toNat) = _
        rw [show ((r.toNat : Nat) : Int) = r by omega]
      rw [e] at nx
      rw [nf_head ⟨by omega, by omega⟩ ⟨by omega, by omega⟩, mm_w_id (x := x + 143 + 3 * r + 2) (by omega), mm_w_id (x := r + 1) (by omega), y3]
      refine ⟨fun _ => by omega, fun _ => by omega, fun _ => by omega, fun z => ?_, fun z => ?_⟩
      · intro y ey
        rw [ey]
        rw [if_pos z] at nx
        exact nx
      · rw [if_neg (by omega)] at nx
        exact nx
    exact LL 0 n0 (Int.le_refl _)
  refine ⟨by omega, fun c => L (-1) (Or.inl rfl) (by rw [if_neg c]), fun c => ⟨by omega, ?_⟩⟩
  intro y ey
  rw [ey]
  exact L begun (Or.inr k4) (by rw [if_pos c])
def sr_ (o : Int → Int) : Nat → Int
  | 0 => -1
  | k + 1 => ls_ (sr_ o k) (o k)
theorem ct_M_sure {b : Int} {M : mm_M} {R : Int → mm_M → Prop} {how begun n : Int → Int} {g : Int → Int → ab_P} (hb : bk_ b) (k : ∀ i, 0 ≤ i → i < 4 → iS_ M (xi_ b i) (how i) (begun i) (n i) (g i)) (h : R (sr_ (fun i => if how i = 0 then -1 else os_ (how i) (begun i) (n i) (g i)) 4) M) : nr_M_sure b M R := by
  have hb' := hb
  unfold bk_ at hb'
  refine ng_M_sure _ _ _ ?_
  have L : ∀ i : Int, i ≤ 4 → 0 ≤ i → nk_M_sure_4 b (sr_ (fun i => if how i = 0 then -1 else os_ (how i) (begun i) (n i) (g i)) i.toNat) i M R := by
    refine lp_up (fun i hi ih i0 => ?_)
    refine ng_M_sure_4 _ _ _ _ _ ⟨fun c => ?_, fun c => ?_⟩
    · have : i = 4 := by omega
      subst this
      exact h
    have ki := k i i0 c
    have nx := ih c (by omega)
    rw [show (i + 1).toNat = i.toNat + 1 by omega] at nx
    have e : sr_ (fun i => if how i = 0 then -1 else os_ (how i) (begun i) (n i) (g i)) (i.toNat + 1) = ls_ (sr_ (fun i => if how i = 0 then -1 else os_ (how i) (begun i) (n i) (g i)) i.toNat) (if how i = 0 then -1 else os_ (how i) (begun i) (n i) (g i)) := by
      show ls_ _ (if how (i.toNat : Int) = 0 then -1 else os_ (how (i.toNat : Int)) (begun (i.toNat : Int)) (n (i.toNat : Int)) (g (i.toNat : Int))) = _
      rw [show ((i.toNat : Nat) : Int) = i by omega]
    rw [e] at nx
    rw [nf_at hb ⟨i0, c⟩, mm_w_id (x := b + 1784 + 855 * i + 0) (by omega), show b + 1784 + 855 * i + 0 = xi_ b i by unfold xi_; omega, ki.1, mm_w_id (x := i + 1) (by omega)]
    have hx : 0 ≤ xi_ b i ∧ xi_ b i + 855 ≤ 32844 := by unfold xi_; omega
    refine ⟨by omega, fun z => ?_, fun z => ?_⟩
    · rw [if_neg z] at nx
      refine ct_M_oldest hb ⟨i0, c⟩ ki z ?_
      generalize os_ (how i) (begun i) (n i) (g i) = o at nx ⊢
      generalize sr_ (fun i => if how i = 0 then -1 else os_ (how i) (begun i) (n i) (g i)) i.toNat = s at nx ⊢
      unfold ls_ at nx
      refine ⟨fun w => ?_, fun w => ?_⟩
      · by_cases hs : s = -1
        · rw [if_pos hs] at nx
          rcases w with w | ⟨w1, _⟩
          · rw [w] at nx; rw [hs]; exact nx
          · exact absurd hs w1
        · rw [if_neg hs] at nx
          rcases w with w | ⟨_, w2⟩
          · rw [if_pos w] at nx; exact nx
          · by_cases ho : o = -1
            · rw [if_pos ho] at nx; exact nx
            · rw [if_neg ho, show min s o = s by omega] at nx; exact nx
      · obtain ⟨w1, w2⟩ := w
        by_cases hs : s = -1
        · rw [if_pos hs] at nx; exact nx
        · rw [if_neg hs, if_neg w1] at nx
          rcases w2 with w2 | w2
          · exact absurd w2 hs
          · rw [show min s o = o by omega] at nx; exact nx
    · rw [if_pos z] at nx
      generalize sr_ (fun i => if how i = 0 then -1 else os_ (how i) (begun i) (n i) (g i)) i.toNat = s at nx ⊢
      unfold ls_ at nx
      by_cases hs : s = -1
      · rw [if_pos hs] at nx; rw [hs]; exact nx
      · rw [if_neg hs, if_pos rfl] at nx; exact nx
  exact L 0 (by omega) (Int.le_refl _)
/-- the levels of a row of runs, as the Model asks for them: of the table (x below 0), of an index -/
def lvM_ (M : mm_M) (b x n : Int) (lv : Int → Int) : Prop := ∀ r, 0 ≤ r → r < n → nc_M_levelOf b x r M ∧ nf_M_levelOf b x r M = lv r
theorem lvM_t {M : mm_M} {b n : Int} {mem : ab_V} {q : Int → ab_R} (hb : bk_ b) (t : tM_ M b mem n q) : lvM_ M b (-1) n (lvl_ q) := by
  intro r r0 r1
  have n22 := t.2.2.1.2.2
  have hb' := hb
  unfold bk_ at hb'
  unfold nc_M_levelOf nf_M_levelOf
  rw [if_neg (by decide), nf_runAt hb ⟨r0, by omega⟩, mm_w_id (x := b + 288 + 68 * r + 1) (by omega)]
  exact ⟨⟨fun z => absurd z (by decide), fun _ => by omega⟩, (t.2.2.2 r r0 r1).2.1⟩
theorem lvM_x {M : mm_M} {b x n : Int} {g : Int → ab_P} (hx : 0 ≤ x ∧ x + 855 ≤ 32844) (t : hM_ M x n g) : lvM_ M b x n (plv_ g) := by
  intro r r0 r1
  obtain ⟨t1, n0, n23, t2⟩ := t
  unfold nc_M_levelOf nf_M_levelOf
  rw [if_pos hx.1, nf_head ⟨by omega, by omega⟩ ⟨by omega, by omega⟩, mm_w_id (x := x + 143 + 3 * r + 1) (by omega)]
  exact ⟨⟨fun _ => by omega, fun z => by omega⟩, (t2 r r0 r1).2.1⟩
theorem ct_M_alike {b x n fan : Int} {M : mm_M} {R : Int → mm_M → Prop} {lv : Int → Int} (hb : bk_ b) (hx : x = -1 ∨ (0 ≤ x ∧ x + 855 ≤ 32844)) (hn : (if 0 ≤ x then nn_ri M 408 (x + 5) else nn_ri M 408 (b + 5)) = n) (hn2 : 0 ≤ n ∧ n ≤ 100) (hf : nn_ri M 408 (b + 4) = fan) (hf2 : 2 ≤ fan ∧ fan ≤ 4) (hl : lvM_ M b x n lv) (h : ∀ r, ak_ lv n fan r → R r M) : nr_M_alike b x M R := by
  have hb' := hb
  unfold bk_ at hb'
  have L : ∀ i : Int, i ≤ n + 1 → 0 ≤ i → (∀ a, 0 ≤ a → a < i → a + fan ≤ n → ¬ alk_ lv fan a) → nk_M_alike_27 b x n i M R := by
    refine lp_up (fun i hi ih i0 hno => ?_)
    refine ng_M_alike_27 _ _ _ _ _ _ ?_
    rw [mm_w_id (x := b + 4) (by omega), hf, mm_w_id (x := i + fan) (by omega)]
    refine ⟨by omega, fun c => h _ (Or.inl ⟨rfl, fun a a0 a1 => hno a a0 (by omega) a1⟩), fun c => ?_⟩
    have L2 : ∀ j : Int, j ≤ fan → 0 ≤ j → (∀ k, 0 ≤ k → k < j → lv (i + k) = lv i) → nk_M_alike_45 b x n i j M R := by
      refine lp_up (fun j hj jh j0 hs => ?_)
      refine ng_M_alike_45 _ _ _ _ _ _ _ ?_
      rw [mm_w_id (x := b + 4) (by omega), hf, mm_w_id (x := i + 1) (by omega)]
      refine ⟨by omega, fun z => ⟨by omega, fun y => by omega, fun y => ?_⟩, fun z => ?_⟩
      · refine h _ (Or.inr ⟨i0, c, fun k k0 k1 => hs k k0 (by omega), fun a a0 a1 => hno a a0 a1 (by omega)⟩)
      rw [mm_w_id (x := i + j) (by omega), mm_w_id (x := j + 1) (by omega)]
      obtain ⟨n1, e1⟩ := hl (i + j) (by omega) (by omega)
      obtain ⟨n2, e2⟩ := hl i i0 (by omega)
      rw [e1, e2]
      refine ⟨n1, n2, fun y => ⟨by omega, fun _ => ?_, fun w => by omega⟩, fun y => ?_⟩
      · refine ih (by omega) (by omega) (fun a a0 a1 a2 al => ?_)
        by_cases w : a = i
        · subst w; exact y (al j j0 z)
        · exact hno a a0 (by omega) a2 al
      · refine jh z (by omega) (fun k k0 k1 => ?_)
        by_cases w : k = j
        · rw [w]; exact y
        · exact hs k k0 (by omega)
    exact L2 0 (by omega) (Int.le_refl _) (fun k k0 k1 => by omega)
  refine ng_M_alike _ _ _ _ ⟨fun c => ?_, fun c => ?_⟩
  · rw [if_pos c] at hn
    rw [mm_w_id (x := x + 5) (by omega), hn]
    exact ⟨by omega, L 0 (by omega) (Int.le_refl _) (fun a a0 a1 => by omega)⟩
  · rw [if_neg (by omega)] at hn
    rw [mm_w_id (x := b + 5) (by omega), hn]
    exact ⟨by omega, L 0 (by omega) (Int.le_refl _) (fun a a0 a1 => by omega)⟩
theorem ct_M_topLevel {b x f m n : Int} {M : mm_M} {R : Int → mm_M → Prop} {lv : Int → Int} (hl : lvM_ M b x n lv) (hf : 0 ≤ f) (hm : 0 ≤ m) (hn : f + m ≤ n) (hn2 : n ≤ 1000) (h : R (hi_ lv f m.toNat) M) : nr_M_topLevel b x f m M R := by
  refine ng_M_topLevel _ _ _ _ _ _ ?_
  have L : ∀ i : Int, i ≤ f + m → f ≤ i → nk_M_topLevel_6 b x f m (hi_ lv f (i - f).toNat) i M R := by
    refine lp_up (fun i hi ih i0 => ?_)
    refine ng_M_topLevel_6 _ _ _ _ _ _ _ _ ?_
    rw [mm_w_id (x := f + m) (by omega), mm_w_id (x := i + 1) (by omega)]
    refine ⟨fun c => ?_, fun c => ?_⟩
    · rw [show (i - f).toNat = m.toNat by omega]; exact h
    obtain ⟨n1, e1⟩ := hl i (by omega) (by omega)
    have nx := ih c (by omega)
    rw [show (i + 1 - f).toNat = (i - f).toNat + 1 by omega] at nx
    have e : hi_ lv f ((i - f).toNat + 1) = max (hi_ lv f (i - f).toNat) (lv i) := by
      show max (hi_ lv f (i - f).toNat) (lv (f + ((i - f).toNat : Int))) = _
      rw [show f + ((i - f).toNat : Int) = i by omega]
    rw [e] at nx
    rw [e1]
    refine ⟨n1, fun z => ?_, fun z => ⟨n1, ?_⟩⟩
    · rw [show max (hi_ lv f (i - f).toNat) (lv i) = hi_ lv f (i - f).toNat by omega] at nx
      exact nx
    · rw [show max (hi_ lv f (i - f).toNat) (lv i) = lv i by omega] at nx
      exact nx
  have := L f (by omega) (Int.le_refl _)
  rw [show (f - f).toNat = 0 by omega] at this
  exact this
