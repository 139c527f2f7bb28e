/-! the Model: versions, runs of the table, LATEST, sums and atoms, over its one array (cell 408) -/
def bk_ (b : Int) : Prop := 0 ≤ b ∧ b + 5474 ≤ 32844
theorem nf_runAt {b r : Int} (hb : bk_ b) (hr : 0 ≤ r ∧ r < 100) : nf_M_runAt b r = b + 288 + 68 * r := by
  unfold bk_ at hb
  unfold nf_M_runAt
  rw [mm_w_id (x := b + 288) (by omega), mm_w_id (x := 68 * r) (by omega), mm_w_id (by omega)]
theorem nf_at {b i : Int} (hb : bk_ b) (hi : 0 ≤ i ∧ i < 4) : nf_M_at b i = b + 1784 + 855 * i := by
  unfold bk_ at hb
  unfold nf_M_at
  rw [mm_w_id (x := b + 1784) (by omega), mm_w_id (x := 855 * i) (by omega), mm_w_id (by omega)]
theorem nf_entryAt {x e : Int} (hx : 0 ≤ x ∧ x < 40000) (he : -10 ≤ e ∧ e < 1000) : nf_M_entryAt x e = x + 215 + 4 * e := by
  unfold nf_M_entryAt
  rw [mm_w_id (x := x + 215) (by omega), mm_w_id (x := 4 * e) (by omega), mm_w_id (by omega)]
theorem nf_head {x r : Int} (hx : 0 ≤ x ∧ x < 40000) (hr : -10 ≤ r ∧ r < 1000) : nf_M_head x r = x + 143 + 3 * r := by
  unfold nf_M_head
  rw [mm_w_id (x := x + 143) (by omega), mm_w_id (x := 3 * r) (by omega), mm_w_id (by omega)]
def mv_ (M : mm_M) (x : Int) (k : Nat) : Option (Int × Int) := if k < 32 ∧ 0 < nn_ri M 408 (x + k) then some (nn_ri M 408 (x + k), nn_ri M 408 (x + 32 + k)) else none
def rM_ (M : mm_M) (b r : Int) (q : ab_R) : Prop := nn_ri M 408 (b + 288 + 68 * r) = q.2.1 ∧ nn_ri M 408 (b + 288 + 68 * r + 1) = q.2.2.1 ∧ nn_ri M 408 (b + 288 + 68 * r + 2) = q.2.2.2.1 ∧ nn_ri M 408 (b + 288 + 68 * r + 3) = q.2.2.2.2.1 ∧ mv_ M (b + 288 + 68 * r + 4) = q.2.2.2.2.2 ∧ ∀ k : Int, 0 ≤ k → k < 32 → 0 ≤ nn_ri M 408 (b + 288 + 68 * r + 4 + k)
def tM_ (M : mm_M) (b : Int) (mem : ab_V) (n : Int) (q : Int → ab_R) : Prop := mv_ M (b + 24) = mem ∧ (∀ k : Int, 0 ≤ k → k < 32 → 0 ≤ nn_ri M 408 (b + 24 + k)) ∧ (nn_ri M 408 (b + 5) = n ∧ 0 ≤ n ∧ n ≤ 22) ∧ ∀ r, 0 ≤ r → r < n → rM_ M b r (q r)
/-- LATEST, searched for: the memory, then the runs from the newest on -/
def lkr_ (q : Int → ab_R) (k : Nat) : Nat → Int → Option (Int × Int)
  | 0, _ => none
  | m + 1, i => or_ ((q i).2.2.2.2.2 k) (lkr_ q k m (i + 1))
def lk_ (mem : ab_V) (n : Int) (q : Int → ab_R) (k : Nat) : Option (Int × Int) := or_ (mem k) (lkr_ q k n.toNat 0)
theorem mv_pos {M : mm_M} {x : Int} {k : Int} (hk : 0 ≤ k ∧ k < 32) (h : 0 < nn_ri M 408 (x + k)) : mv_ M x k.toNat = some (nn_ri M 408 (x + k), nn_ri M 408 (x + 32 + k)) := by
  unfold mv_
  rw [show ((k.toNat : Nat) : Int) = k by omega, if_pos ⟨by omega, h⟩]
theorem mv_npos {M : mm_M} {x : Int} {k : Int} (hk : 0 ≤ k ∧ k < 32) (h : nn_ri M 408 (x + k) ≤ 0) : mv_ M x k.toNat = none := by
  unfold mv_
  rw [show ((k.toNat : Nat) : Int) = k by omega, if_neg (by omega)]
def la_ (M : mm_M) (o : Option (Int × Int)) (a : Int) : Prop := (o = none ∧ a = -1) ∨ ∃ p, o = some p ∧ 0 ≤ a ∧ a + 32 < 32844 ∧ nn_ri M 408 a = p.1 ∧ nn_ri M 408 (a + 32) = p.2
theorem ct_M_latest {b key n : Int} {M : mm_M} {R : Int → mm_M → Prop} {mem : ab_V} {q : Int → ab_R} (hb : bk_ b) (hk : 0 ≤ key ∧ key < 32) (t : tM_ M b mem n q) (h : ∀ a, la_ M (lk_ mem n q key.toNat) a → R a M) : nr_M_latest b key M R := by
  obtain ⟨t1, t2, ⟨t3, n0, n22⟩, t4⟩ := t
  have hb' := hb
  unfold bk_ at hb'
  refine ng_M_latest _ _ _ _ ?_
  rw [mm_w_id (x := b + 24) (by omega), mm_w_id (x := b + 24 + key) (by omega)]
  have L : ∀ i : Int, i ≤ n → 0 ≤ i → lk_ mem n q key.toNat = lkr_ q key.toNat (n - i).toNat i → nk_M_latest_23 b key i M R := by
    refine lp_up (fun i hi ih i0 he => ?_)
    refine ng_M_latest_23 _ _ _ _ _ ?_
    rw [mm_w_id (x := b + 5) (by omega), t3]
    refine ⟨by omega, fun c => ?_, fun c => ?_⟩
    · refine h _ (Or.inl ⟨?_, rfl⟩)
      rw [he, show (n - i).toNat = 0 by omega]
      rfl
    obtain ⟨r1, r2, r3, r4, r5, r6⟩ := t4 i i0 c
    have hs : (n - i).toNat = (n - (i + 1)).toNat + 1 := by omega
    rw [nf_runAt hb ⟨i0, by omega⟩, mm_w_id (x := b + 288 + 68 * i + 4) (by omega), mm_w_id (x := b + 288 + 68 * i + 4 + key) (by omega), mm_w_id (x := i + 1) (by omega)]
    refine ⟨by omega, fun z => ?_, fun z => ?_⟩
    · refine ih c (by omega) ?_
      rw [he, hs]
      show or_ ((q i).2.2.2.2.2 key.toNat) _ = _
      rw [← r5, mv_npos hk z]
      rfl
    · refine h _ (Or.inr ⟨(nn_ri M 408 (b + 288 + 68 * i + 4 + key), nn_ri M 408 (b + 288 + 68 * i + 4 + key + 32)), ?_, by omega, by omega, rfl, rfl⟩)
      rw [he, hs]
      show or_ ((q i).2.2.2.2.2 key.toNat) _ = _
      rw [← r5, mv_pos hk z]
      show some _ = some _
      rw [show b + 288 + 68 * i + 4 + 32 + key = b + 288 + 68 * i + 4 + key + 32 by omega]
  refine ⟨by omega, fun z => ?_, fun z => ?_⟩
  · refine L 0 n0 (Int.le_refl _) ?_
    unfold lk_
    rw [← t1, mv_npos hk z, show (n - 0).toNat = n.toNat by omega]
    rfl
  · refine h _ (Or.inr ⟨(nn_ri M 408 (b + 24 + key), nn_ri M 408 (b + 24 + key + 32)), ?_, by omega, by omega, rfl, rfl⟩)
    unfold lk_
    rw [← t1, mv_pos hk z]
    show some _ = some _
    rw [show b + 24 + 32 + key = b + 24 + key + 32 by omega]
def th_ (o : Option (Int × Int)) : Bool := match o with
  | some p => decide (0 ≤ p.2)
  | none => false
theorem ct_M_isThere {b key n : Int} {M : mm_M} {R : Int → mm_M → Prop} {mem : ab_V} {q : Int → ab_R} (hb : bk_ b) (hk : 0 ≤ key ∧ key < 32) (t : tM_ M b mem n q) (h : R (if th_ (lk_ mem n q key.toNat) = true then 1 else 0) M) : nr_M_isThere b key M R := by
  refine ng_M_isThere _ _ _ _ ?_
  refine ct_M_latest hb hk t (fun a ha => ⟨fun c => ?_, fun c => ?_⟩)
  · rcases ha with ⟨e, _⟩ | ⟨p, _, h0, _⟩
    · rw [e] at h
      exact h
    · omega
  · refine ct_M_latest hb hk t (fun a2 ha2 => ?_)
    rcases ha with ⟨_, e⟩ | ⟨p, e, h0, h1, h2, h3⟩
    · omega
    rcases ha2 with ⟨e2, _⟩ | ⟨p2, e2, g0, g1, g2, g3⟩
    · rw [e] at e2; cases e2
    rw [mm_w_id (x := a2 + 32) (by omega), g3]
    rw [e2] at h
    refine ⟨by omega, fun z => ?_, fun z => ?_⟩
    · have : th_ (some p2) = false := decide_eq_false (by omega)
      rw [this] at h
      exact h
    · have : th_ (some p2) = true := decide_eq_true z
      rw [this] at h
      exact h
theorem ct_M_rowOf {b key n : Int} {M : mm_M} {R : Int → mm_M → Prop} {mem : ab_V} {q : Int → ab_R} {p : Int × Int} (hb : bk_ b) (hk : 0 ≤ key ∧ key < 32) (t : tM_ M b mem n q) (hp : lk_ mem n q key.toNat = some p) (h : R p.2 M) : nr_M_rowOf b key M R := by
  refine ng_M_rowOf _ _ _ _ ?_
  refine ct_M_latest hb hk t (fun a ha => ?_)
  rcases ha with ⟨e, _⟩ | ⟨p2, e, h0, h1, h2, h3⟩
  · rw [hp] at e; cases e
  · rw [hp] at e
    cases e
    rw [mm_w_id (x := a + 32) (by omega), h3]
    exact ⟨by omega, h⟩
def sp_ (o : Option (Int × Int)) : Int := match o with
  | some p => p.1
  | none => -1
theorem ct_M_stampOf {b key n : Int} {M : mm_M} {R : Int → mm_M → Prop} {mem : ab_V} {q : Int → ab_R} (hb : bk_ b) (hk : 0 ≤ key ∧ key < 32) (t : tM_ M b mem n q) (h : R (sp_ (lk_ mem n q key.toNat)) M) : nr_M_stampOf b key M R := by
  refine ng_M_stampOf _ _ _ _ ?_
  refine ct_M_latest hb hk t (fun a ha => ⟨fun c => ?_, fun c => ?_⟩)
  · refine ct_M_latest hb hk t (fun a2 ha2 => ?_)
    rcases ha with ⟨_, e⟩ | ⟨p, e, h0, h1, h2, h3⟩
    · omega
    rcases ha2 with ⟨e2, _⟩ | ⟨p2, e2, g0, g1, g2, g3⟩
    · rw [e] at e2; cases e2
    rw [e2] at h
    rw [g2]
    exact ⟨by omega, h⟩
  · rcases ha with ⟨e, _⟩ | ⟨p, e, h0, _⟩
    · rw [e] at h; exact h
    · omega
/-- a rule, as the Model has it at x: the sum at x + 9, the atoms from x + 14 on -/
def fo_ (f : Int) : Int := if f = 0 then 9 else if f % 2 = 1 then 14 + 11 * ((f - 1) / 2) else 14 + 11 * ((f - 2) / 2) + 6
def rlM_ (M : mm_M) (x : Int) (u : ab_U) : Prop := rb_ u ∧ nn_ri M 408 (x + 8) = u.2.2 ∧ (∀ f, 0 ≤ f → f ≤ 2 * u.2.2 → nn_ri M 408 (x + fo_ f) = u.1 f 4 ∧ ∀ c, 0 ≤ c → c < 4 → nn_ri M 408 (x + fo_ f + 1 + c) = u.1 f c) ∧ ∀ a, 0 ≤ a → a < u.2.2 → (u.2.1 a = 10 ∧ nn_ri M 408 (x + 14 + 11 * a + 5) = 60) ∨ (u.2.1 a = 11 ∧ nn_ri M 408 (x + 14 + 11 * a + 5) = 61) ∨ (u.2.1 a = 12 ∧ nn_ri M 408 (x + 14 + 11 * a + 5) = 62)
theorem ct_M_sumOf {x f row : Int} {M : mm_M} {R : Int → mm_M → Prop} {u : ab_U} (hx : 0 ≤ x ∧ x + 60 < 32844) (k : rlM_ M x u) (hf : 0 ≤ f ∧ f ≤ 2 * u.2.2) (hrow : 0 ≤ row ∧ row < 65536) (h : R (su_ u f row) M) : nr_M_sumOf (x + fo_ f) row M R := by
  obtain ⟨kb, k2, k3, k4⟩ := k
  obtain ⟨s0, s1, m0, m1, m2, m3⟩ := su_in kb hf row
  have hat := kb.1
  have a4 := kb.2.1 f 4 hf.1 hf.2 (by omega) (by omega)
  have a0 := kb.2.1 f 0 hf.1 hf.2 (by omega) (by omega)
  have a1 := kb.2.1 f 1 hf.1 hf.2 (by omega) (by omega)
  have a2 := kb.2.1 f 2 hf.1 hf.2 (by omega) (by omega)
  have a3 := kb.2.1 f 3 hf.1 hf.2 (by omega) (by omega)
  have as := kb.2.2 f hf.1 hf.2
  have hfo : 9 ≤ fo_ f ∧ fo_ f ≤ 42 := by
    unfold fo_
    by_cases z : f = 0
    · rw [if_pos z]; omega
    · rw [if_neg z]
      by_cases y : f % 2 = 1
      · rw [if_pos y]; omega
      · rw [if_neg y]; omega
  obtain ⟨kk, kc⟩ := k3 f hf.1 hf.2
  refine ng_M_sumOf _ _ _ _ ⟨by omega, ?_⟩
  rw [kk]
  have T : ∀ c acc : Int, 0 ≤ c → c < 4 → 0 ≤ acc → acc ≤ 20000 → 0 ≤ u.1 f c * co_ row c → u.1 f c * co_ row c ≤ 6000 → nk_M_sumOf_10 (x + fo_ f) row (acc + u.1 f c * co_ row c) (c + 1) M R → nk_M_sumOf_10 (x + fo_ f) row acc c M R := by
    intro c acc c0 c1 p0 p1 q0 q1 nx
    refine ng_M_sumOf_10 _ _ _ _ _ _ ⟨fun z => by omega, fun _ => ?_⟩
    rw [mm_w_id (x := x + fo_ f + 1) (by omega), mm_w_id (x := x + fo_ f + 1 + c) (by omega), kc c c0 c1, nf_M_column' hrow ⟨c0, c1⟩, mm_w_id (x := u.1 f c * co_ row c) (by omega), mm_w_id (x := acc + u.1 f c * co_ row c) (by omega), mm_w_id (x := c + 1) (by omega)]
    refine ⟨by omega, ?_⟩
    rintro _ rfl
    exact nx
  refine T 0 _ (by omega) (by omega) (by omega) (by omega) m0.1 m0.2 ?_
  refine T 1 _ (by omega) (by omega) (by omega) (by omega) m1.1 m1.2 ?_
  refine T 2 _ (by omega) (by omega) (by omega) (by omega) m2.1 m2.2 ?_
  refine T 3 _ (by omega) (by omega) (by omega) (by omega) m3.1 m3.2 ?_
  refine ng_M_sumOf_10 _ _ _ _ _ _ ⟨fun _ => ?_, fun z => absurd z (by decide)⟩
  exact h
theorem ct_M_wants {x row : Int} {M : mm_M} {R : Int → mm_M → Prop} {u : ab_U} (hx : 0 ≤ x ∧ x + 60 < 32844) (k : rlM_ M x u) (hrow : 0 ≤ row ∧ row < 65536) (h : R (if wn_ u row u.2.2.toNat = true then 1 else 0) M) : nr_M_wants x row M R := by
  have hat := k.1.1
  refine ng_M_wants _ _ _ _ ?_
  have L : ∀ i : Int, i ≤ u.2.2 → 0 ≤ i → wn_ u row i.toNat = true → nk_M_wants_2 x row i M R := by
    refine lp_up (fun i hi ih h0 hw => ?_)
    refine ng_M_wants_2 _ _ _ _ _ ?_
    rw [mm_w_id (x := x + 8) (by omega), k.2.1]
    refine ⟨by omega, fun c => ?_, fun c => ?_⟩
    · have : i = u.2.2 := by omega
      rw [← this, hw] at h
      exact h
    rw [mm_w_id (x := x + 14) (by omega), mm_w_id (x := 11 * i) (by omega), mm_w_id (x := x + 14 + 11 * i) (by omega), mm_w_id (x := i + 1) (by omega)]
    intro y ey
    rw [ey, mm_w_id (x := x + 14 + 11 * i + 6) (by omega), mm_w_id (x := x + 14 + 11 * i + 5) (by omega)]
    have f1 : fo_ (2 * i + 1) = 14 + 11 * i := by
      unfold fo_
      rw [if_neg (by omega), if_pos (by omega)]
      omega
    have f2 : fo_ (2 * i + 2) = 14 + 11 * i + 6 := by
      unfold fo_
      rw [if_neg (by omega), if_neg (by omega)]
      omega
    have c1 := fun (R' : Int → mm_M → Prop) => ct_M_sumOf (R := R') (f := 2 * i + 1) hx k ⟨by omega, by omega⟩ hrow
    have c2 := fun (R' : Int → mm_M → Prop) => ct_M_sumOf (R := R') (f := 2 * i + 2) hx k ⟨by omega, by omega⟩ hrow
    rw [f1, show x + (14 + 11 * i) = x + 14 + 11 * i by omega] at c1
    rw [f2, show x + (14 + 11 * i + 6) = x + 14 + 11 * i + 6 by omega] at c2
    refine c1 _ (c2 _ ?_)
    have hs := k.2.2.2 i h0 c
    have e : wn_ u row (i.toNat + 1) = ho_ u row i := by
      unfold wn_
      rw [hw, show ((i.toNat : Nat) : Int) = i by omega, Bool.true_and]
    refine ⟨by omega, fun _ => by omega, fun z => ?_, fun z => ?_⟩
    · have hf : ho_ u row i = false := by
        unfold ho_
        rcases hs with ⟨s1, s2⟩ | ⟨s1, s2⟩ | ⟨s1, s2⟩
        · rw [s2] at z; rw [if_pos s1]; exact decide_eq_false (by omega)
        · rw [s2] at z; rw [if_neg (by omega), if_neg (by omega)]; exact decide_eq_false (by omega)
        · rw [s2] at z; rw [if_neg (by omega), if_pos s1]; exact decide_eq_false (by omega)
      rw [wn_false (n := i.toNat + 1) (by omega) (e.trans hf)] at h
      exact h
    · have ht : ho_ u row i = true := by
        unfold ho_
        rcases hs with ⟨s1, s2⟩ | ⟨s1, s2⟩ | ⟨s1, s2⟩
        · rw [s2] at z; rw [if_pos s1]; exact decide_eq_true (by omega)
        · rw [s2] at z; rw [if_neg (by omega), if_neg (by omega)]; exact decide_eq_true (by omega)
        · rw [s2] at z; rw [if_neg (by omega), if_pos s1]; exact decide_eq_true (by omega)
      refine ih c (by omega) ?_
      rw [show (i + 1).toNat = i.toNat + 1 by omega, e]
      exact ht
  exact L 0 hat.1 (Int.le_refl _) rfl
theorem ct_M_valueOf {x row : Int} {M : mm_M} {R : Int → mm_M → Prop} {u : ab_U} (hx : 0 ≤ x ∧ x + 60 < 32844) (k : rlM_ M x u) (hrow : 0 ≤ row ∧ row < 65536) (h : R (su_ u 0 row) M) : nr_M_valueOf x row M R := by
  have hat := k.1.1
  refine ng_M_valueOf _ _ _ _ ?_
  rw [mm_w_id (x := x + 9) (by omega)]
  exact ct_M_sumOf (f := 0) hx k ⟨Int.le_refl _, by omega⟩ hrow h
/-- the value of what is there and wanted -/
def wv_ (u : ab_U) (o : Option (Int × Int)) : Bool := match o with
  | some p => decide (0 ≤ p.2) && wn_ u p.2 u.2.2.toNat
  | none => false
theorem ct_M_isWanted {b x key n : Int} {M : mm_M} {R : Int → mm_M → Prop} {mem : ab_V} {q : Int → ab_R} {u : ab_U} (hb : bk_ b) (hx : 0 ≤ x ∧ x + 60 < 32844) (hk : 0 ≤ key ∧ key < 32) (t : tM_ M b mem n q) (k : rlM_ M x u) (hr : ∀ p, lk_ mem n q key.toNat = some p → p.2 < 65536) (h : R (if wv_ u (lk_ mem n q key.toNat) = true then 1 else 0) M) : nr_M_isWanted b x key M R := by
  refine ng_M_isWanted _ _ _ _ _ ?_
  refine ct_M_isThere hb hk t ?_
  cases hp : lk_ mem n q key.toNat with
  | none =>
    rw [hp] at h
    exact ⟨fun _ => h, fun z => absurd rfl z⟩
  | some p =>
    rw [hp] at h
    by_cases z : 0 ≤ p.2
    · have e : th_ (some p) = true := decide_eq_true z
      rw [e]
      refine ⟨fun y => absurd y (by decide), fun _ => ?_⟩
      refine ct_M_rowOf hb hk t hp (ct_M_wants hx k ⟨z, hr p hp⟩ ?_)
      have e2 : wv_ u (some p) = wn_ u p.2 u.2.2.toNat := by
        show (decide (0 ≤ p.2) && wn_ u p.2 u.2.2.toNat) = _
        rw [decide_eq_true z, Bool.true_and]
      rw [e2] at h
      cases hw : wn_ u p.2 u.2.2.toNat with
      | true => rw [hw] at h; exact ⟨fun y => absurd y (by decide), fun _ => h⟩
      | false => rw [hw] at h; exact ⟨fun _ => h, fun y => absurd rfl y⟩
    · have e : th_ (some p) = false := decide_eq_false z
      have e2 : wv_ u (some p) = false := by
        show (decide (0 ≤ p.2) && wn_ u p.2 u.2.2.toNat) = _
        rw [decide_eq_false z, Bool.false_and]
      rw [e]
      rw [e2] at h
      exact ⟨fun _ => h, fun y => absurd rfl y⟩
