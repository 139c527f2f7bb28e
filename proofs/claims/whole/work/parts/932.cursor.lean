/-! next, close, held, both sides -/
def setD_ (c : Int) (D : ab_D) (Z : ab_Z) : ab_Z := (zs_ Z, zT_ Z, fun j => if j = c then D else zC_ Z j, zf_ Z)
theorem cZ_setD {M M' : mm_M} {c : Int} {D : ab_D} {Z : ab_Z} (hc : 0 ≤ c ∧ c < 3) (f : fr_ (fun o _ => 2 + 150 + 3 * c.toNat ≤ o ∧ o < 2 + 150 + 3 * c.toNat + 3) M M') (k : cZ_ M 2 Z) (kd : cu2_ M' (2 + 150 + 3 * c.toNat) D.1) : cZ_ M' 2 (setD_ c D Z) := by
  obtain ⟨kt, ⟨x1, x2, x3, x4, x5, x6⟩, b, ⟨c1, c2, c3, c4, c5⟩, d, e⟩ := k
  have rf : ∀ o b, ¬ (2 + 150 + 3 * c.toNat ≤ o ∧ o < 2 + 150 + 3 * c.toNat + 3) → nn_rf M' o b = nn_rf M o b := fun o b z => fr_rf f z
  refine ⟨cT_fr f (fun o b y y2 => by unfold sw_ at y; omega) kt, ⟨(rf _ _ (by omega)).trans x1, (rf _ _ (by omega)).trans x2, (rf _ _ (by omega)).trans x3, (rf _ _ (by omega)).trans x4, (rf _ _ (by omega)).trans x5, (rf _ _ (by omega)).trans x6⟩, fun i i0 i1 => (fr_ri f (by omega)).trans (b i i0 i1), ⟨(rf _ _ (by omega)).trans c1, (rf _ _ (by omega)).trans c2, (rf _ _ (by omega)).trans c3, (rf _ _ (by omega)).trans c4, (rf _ _ (by omega)).trans c5⟩, tp_fr f (fun o b z z2 => by omega) d, fun i i0 i1 => ?_⟩
  show cu2_ M' (2 + 150 + 3 * i.toNat) (if i = c then D else zC_ Z i).1
  by_cases z : i = c
  · rw [if_pos z, z]; exact kd
  · rw [if_neg z]; exact cu2_fr f (fun o b y1 y2 => by omega) (e i i0 i1)
theorem mY_setD {M M' : mm_M} {bd c : Int} {D : ab_D} {Z : ab_Z} (hc : 0 ≤ c ∧ c < 3) (f : fr_ (fun o q => o = 408 ∧ 5204 + 90 * c ≤ (q : Int) ∧ (q : Int) < 5204 + 90 * c + 90) M M') (hl : zs_ Z 20 ≤ 200) (hw : cw_ (zC_ Z)) (k : mY_ bd M 0 Z) (kd : mC_ M' (5204 + 90 * c) D) : mY_ bd M' 0 (setD_ c D Z) := by
  obtain ⟨⟨kt, ⟨r1, r2, r3⟩⟩, g0, g1⟩ := k
  have rd : ∀ q, 0 ≤ q → (q < 5204 + 90 * c ∨ 5204 + 90 * c + 90 ≤ q) → nn_ri M' 408 q = nn_ri M 408 q := fun q z0 z1 => fr_ri f (fun y => by have := y.2; omega)
  refine ⟨⟨mT_fr f bk_0 (fun q z0 y => by have := y.2; unfold mcore_ at z0; omega) kt, fun q hq => (rd _ (by unfold hd_ at hq; omega) (by unfold hd_ at hq; omega)).trans (r1 q hq), fun q q0 q1 => ?_, fun q q0 q1 => ?_⟩, by rw [rd _ (by omega) (by omega)]; exact g0, by rw [rd _ (by omega) (by omega)]; exact g1⟩
  · have q1 : q < zs_ Z 20 := q1
    exact (rd _ (by omega) (by omega)).trans (r2 q q0 q1)
  · show mC_ M' (0 + 5204 + 90 * q) (if q = c then D else zC_ Z q)
    by_cases z : q = c
    · rw [if_pos z, z, show (0 : Int) + 5204 + 90 * c = 5204 + 90 * c by omega]; exact kd
    · rw [if_neg z]
      have := hw q q0 q1
      exact mC_cg (fun q' z0 z1 => rd q' (by omega) (by omega)) this.2.1.2 this.2.2.2.2 (r3 q q0 q1)
theorem jZ_setD {bd c : Int} {D : ab_D} {Z : ab_Z} (hd : (D.1.1 = 0 ∨ D.1.1 = 1) ∧ (0 ≤ D.1.2.1 ∧ D.1.2.1 ≤ 32) ∧ (0 ≤ D.1.2.2.1 ∧ D.1.2.2.1 ≤ D.1.2.1) ∧ 0 ≤ D.1.2.2.2.2.1 ∧ D.1.2.2.2.2.1 ≤ 48) (j : jZ_ bd Z) : jZ_ bd (setD_ c D Z) := by
  obtain ⟨a, b, e⟩ := j
  refine ⟨a, b, fun i i0 i1 => ?_⟩
  by_cases z : i = c
  · have e1 : zC_ (setD_ c D Z) i = D := if_pos z
    rw [e1]; exact hd
  · have e1 : zC_ (setD_ c D Z) i = zC_ Z i := if_neg z
    rw [e1]; exact e i i0 i1
def oc_ (c : Int) (Z : ab_Z) : Prop := (0 ≤ c ∧ c < 3) ∧ (zC_ Z c).1.1 = 1
theorem ct_S_findCursor {bd c : Int} {Z : ab_Z} {M : mm_M} {R : Nat → mm_M → Prop} (k : cZ_ M 2 Z) (j : jZ_ bd Z) (h0 : ¬ oc_ c Z → R 0 M) (h1 : oc_ c Z → R (2 + 150 + 3 * c.toNat) M) : nr_Store_findCursor 2 c M R := by
  have ke := k.2.2.2.2.2
  refine ng_Store_findCursor _ _ _ _ ⟨fun z => by omega, fun z => by omega, fun z => h0 ?_, fun z => h1 ?_⟩
  · rintro ⟨w1, w2⟩
    have := (ke c w1.1 w1.2).1
    rcases z with z | z | z
    · omega
    · omega
    · rw [this, w2] at z; exact absurd z (by decide)
  · have h1 := (ke c z.1 z.2.1).1
    have h2 := j.2.2 c z.1 z.2.1
    rw [h1] at z
    exact ⟨⟨z.1, z.2.1⟩, h2.1.resolve_left z.2.2⟩
theorem m_isOpen {bd bd' c : Int} {Z : ab_Z} {M : mm_M} (k : mY_ bd M 0 Z) (j : jZ_ bd' Z) : nc_M_isOpen c M ∧ (nf_M_isOpen c M ≠ 0 ↔ oc_ c Z) ∧ ((0 ≤ c ∧ c < 3) → nf_M_cursorAt 0 c = 5204 + 90 * c) := by
  have cu : (0 ≤ c ∧ c < 3) → nf_M_cursorAt 0 c = 5204 + 90 * c := by
    intro h
    unfold nf_M_cursorAt
    rw [mm_w_id (x := (0 : Int) + 5204) (by omega), mm_w_id (x := 90 * c) (by omega), mm_w_id (by omega)]; omega
  refine ⟨fun z => ?_, ?_, cu⟩
  · have z := k_in.mp z
    rw [cu ⟨z.1, by omega⟩]; omega
  · unfold nf_M_isOpen oc_
    by_cases z : nf_M_isIn c 0 2 = 0
    · rw [if_pos z]
      rw [k_in0] at z
      exact ⟨fun w => absurd rfl w, fun w => by omega⟩
    · rw [if_neg z]
      have z := k_in.mp z
      have h1 := (k.1.2.2.2 c z.1 (by omega)).1
      rw [show (0 : Int) + 5204 + 90 * c = 5204 + 90 * c by omega] at h1
      rw [cu ⟨z.1, by omega⟩, h1]
      by_cases y : (zC_ Z c).1.1 ≠ 1
      · rw [if_pos y]
        exact ⟨fun w => absurd rfl w, fun w => absurd w.2 y⟩
      · rw [if_neg y]
        exact ⟨fun _ => ⟨⟨z.1, by omega⟩, by omega⟩, fun _ => by decide⟩
/-- next -/
def nok_ (c : Int) (Z : ab_Z) : Prop := oc_ c Z ∧ (zC_ Z c).1.2.2.1 < (zC_ Z c).1.2.1
def nxt_ (c : Int) (Z : ab_Z) : ab_Z := setD_ c (((zC_ Z c).1.1, (zC_ Z c).1.2.1, (zC_ Z c).1.2.2.1 + 1, (zC_ Z c).1.2.2.2), (zC_ Z c).2) Z
def nxta_ (c : Int) (Z : ab_Z) : Int := (zC_ Z c).1.2.2.2.1 (zC_ Z c).1.2.2.1
theorem ct_LI_next {bd c : Int} {Z : ab_Z} {M : mm_M} {R : Int → mm_M → Prop} (k : cZ_ M 2 Z) (j : jZ_ bd Z) (h1 : nok_ c Z → ∀ M', fr_ now_ M M' → cZ_ M' 2 (nxt_ c Z) → R (nxta_ c Z) M') (h0 : ¬ nok_ c Z → R (-1) M) : nr_LI_next c M R := by
  refine ng_LI_next _ _ _ ?_
  refine ct_S_findCursor k j (fun z => ?_) (fun z => ?_)
  · exact ⟨fun _ => h0 (fun w => z w.1), fun w => absurd rfl w.1⟩
  obtain ⟨u1, u2, ⟨u3, u4, u5⟩, ⟨u6, u7, u8⟩, u9, ⟨u10, u11⟩, u12⟩ := k.2.2.2.2.2 c z.1.1 z.1.2
  have hc := z.1
  rw [u3, u6]
  refine ⟨fun w => h0 (fun v => ?_), fun w => ?_⟩
  · have := v.2; omega
  · rw [mm_w_id (x := (zC_ Z c).1.2.2.1 + 1) (by omega)]
    intro M1 e1
    have f : fr_ (fun o _ => 2 + 150 + 3 * c.toNat ≤ o ∧ o < 2 + 150 + 3 * c.toNat + 3) M M1 := by rw [e1]; exact fr_uf (fr_refl M) ⟨by omega, by omega⟩
    have e4 : nn_rf M1 (2 + 150 + 3 * c.toNat) 4 = (zC_ Z c).1.2.2.1 + 1 := by rw [e1, rd_ff, if_pos ⟨rfl, rfl⟩]
    have rd : ∀ o b, ¬ (o = 2 + 150 + 3 * c.toNat ∧ b = 4) → nn_rf M1 o b = nn_rf M o b := by
      intro o b y
      rw [e1, rd_ff, if_neg y]
    have ri : ∀ o q, o ≠ 2 + 150 + 3 * c.toNat → nn_ri M1 o q = nn_ri M o q := by
      intro o q y
      rw [e1, rd_if, if_neg (fun w => y w.1)]
    rw [e4, mm_w_id (x := (zC_ Z c).1.2.2.1 + 1 - 1) (by omega), show (zC_ Z c).1.2.2.1 + 1 - 1 = (zC_ Z c).1.2.2.1 by omega, ri _ _ (by omega), u9 _ u7 w.2]
    refine ⟨by omega, h1 ⟨z, w.2⟩ M1 (fr_mono f (fun o b y => by unfold now_; omega)) (cZ_setD z.1 f k ⟨(rd _ _ (by omega)).trans u1, u2, ⟨(rd _ _ (by omega)).trans u3, u4, u5⟩, ⟨e4, ?_, ?_⟩, fun i i0 i1 => (ri _ _ (by omega)).trans (u9 i i0 i1), ⟨(rd _ _ (by omega)).trans u10, u11⟩, fun i i0 i1 => (ri _ _ (by omega)).trans (u12 i i0 i1)⟩)⟩
    · show 0 ≤ (zC_ Z c).1.2.2.1 + 1; omega
    · show (zC_ Z c).1.2.2.1 + 1 ≤ (zC_ Z c).1.2.1; omega
theorem ct_M_next {bd c : Int} {Z : ab_Z} {M : mm_M} {R : Int → mm_M → Prop} (k : mY_ bd M 0 Z) (j : jZ_ bd Z) (h1 : nok_ c Z → ∀ M', fr_ mod_ M M' → mY_ bd M' 0 (nxt_ c Z) → R (nxta_ c Z) M') (h0 : ¬ nok_ c Z → R (-1) M) : nr_M_next c M R := by
  obtain ⟨m1, m2, m3⟩ := m_isOpen (c := c) k j
  have bnd : nf_M_isOpen c M ≠ 0 → oc_ c Z ∧ nf_M_cursorAt 0 c = 5204 + 90 * c := fun z => ⟨m2.mp z, m3 (m2.mp z).1⟩
  refine ng_M_next _ _ _ ⟨m1, fun z => ?_, fun z => ?_, fun z => ?_, fun z => ?_, fun z => h0 (fun w => ?_), fun z => ?_⟩
  · obtain ⟨⟨y, _⟩, e⟩ := bnd z.1
    rw [e, mm_w_id (by omega)]; omega
  · obtain ⟨⟨y, _⟩, e⟩ := bnd z.1
    rw [e, mm_w_id (by omega)]; omega
  · obtain ⟨⟨y, _⟩, e⟩ := bnd z.1
    rw [e, mm_w_id (by omega)]; omega
  · obtain ⟨⟨y, _⟩, e⟩ := bnd z.1
    rw [e, mm_w_id (by omega)]; omega
  · have e := m3 w.1.1
    have hc := w.1.1
    obtain ⟨p1, p2, p3, p4, p5, p6⟩ := k.1.2.2.2 c hc.1 hc.2
    rw [show (0 : Int) + 5204 + 90 * c = 5204 + 90 * c by omega] at p2 p3
    rw [e, mm_w_id (x := 5204 + 90 * c + 2) (by omega), mm_w_id (x := 5204 + 90 * c + 1) (by omega), p2, p3] at z
    have := w.2
    rcases z with z | z | z
    · exact absurd z (m2.mpr w.1)
    · omega
    · omega
  · obtain ⟨z1, z2, z3⟩ := z
    obtain ⟨y, e⟩ := bnd z1
    have hc := y.1
    obtain ⟨p1, p2, p3, p4, p5, p6⟩ := k.1.2.2.2 c hc.1 hc.2
    obtain ⟨v1, v2, v3, v4⟩ := j.2.2 c hc.1 hc.2
    rw [show (0 : Int) + 5204 + 90 * c = 5204 + 90 * c by omega] at p1 p2 p3 p4 p5 p6
    rw [e, mm_w_id (x := 5204 + 90 * c + 2) (by omega), mm_w_id (x := 5204 + 90 * c + 1) (by omega), p2, p3] at z3
    rw [e, mm_w_id (x := 5204 + 90 * c + 2) (by omega), p3, mm_w_id (x := (zC_ Z c).1.2.2.1 + 1) (by omega)]
    intro M1 e1
    have f : fr_ (fun o q => o = 408 ∧ 5204 + 90 * c ≤ (q : Int) ∧ (q : Int) < 5204 + 90 * c + 90) M M1 := by rw [e1]; exact fr_ui (fr_refl M) ⟨rfl, by omega, by omega⟩
    have e2 : nn_ri M1 408 (5204 + 90 * c + 2) = (zC_ Z c).1.2.2.1 + 1 := by rw [e1, rd_ii, if_pos ⟨rfl, rfl⟩]
    have rd : ∀ q, 0 ≤ q → q ≠ 5204 + 90 * c + 2 → nn_ri M1 408 q = nn_ri M 408 q := by
      intro q q0 q1
      rw [e1, rd_ii, if_neg (by omega)]
    rw [e2, mm_w_id (x := 5204 + 90 * c + 2 + ((zC_ Z c).1.2.2.1 + 1)) (by omega), show 5204 + 90 * c + 2 + ((zC_ Z c).1.2.2.1 + 1) = 5204 + 90 * c + 3 + (zC_ Z c).1.2.2.1 by omega, rd _ (by omega) (by omega), p4 _ (by omega) (by omega)]
    refine ⟨by omega, by omega, h1 ⟨y, by omega⟩ M1 (fr_mono f (fun o q y => Or.inl ⟨y.1, by have := y.2; omega⟩)) (mY_setD hc f j.2.1.2.2.2.2.1.2 j.2.2 k ⟨(rd _ (by omega) (by omega)).trans p1, (rd _ (by omega) (by omega)).trans p2, e2, fun i i0 i1 => (rd _ (by omega) (by omega)).trans (p4 i i0 i1), (rd _ (by omega) (by omega)).trans p5, fun i i0 i1 => (rd _ (by omega) (by omega)).trans (p6 i i0 i1)⟩)⟩
theorem jZ_nxt {bd c : Int} {Z : ab_Z} (h : nok_ c Z) (j : jZ_ bd Z) : jZ_ bd (nxt_ c Z) := by
  obtain ⟨⟨hc, _⟩, h2⟩ := h
  obtain ⟨v1, v2, v3, v4⟩ := j.2.2 c hc.1 hc.2
  exact jZ_setD ⟨v1, v2, ⟨by show 0 ≤ (zC_ Z c).1.2.2.1 + 1; omega, by show (zC_ Z c).1.2.2.1 + 1 ≤ (zC_ Z c).1.2.1; omega⟩, v4⟩ j
/-- close -/
def clo_ (c : Int) (Z : ab_Z) : ab_Z := setD_ c ((0, (zC_ Z c).1.2), (zC_ Z c).2) Z
theorem ct_LI_close {bd c : Int} {Z : ab_Z} {M : mm_M} {R : Int → mm_M → Prop} (k : cZ_ M 2 Z) (j : jZ_ bd Z) (h1 : oc_ c Z → ∀ M', fr_ now_ M M' → cZ_ M' 2 (clo_ c Z) → R ((zC_ Z c).1.2.1 - (zC_ Z c).1.2.2.1) M') (h0 : ¬ oc_ c Z → R (-1) M) : nr_LI_close c M R := by
  refine ng_LI_close _ _ _ ?_
  refine ct_S_findCursor k j (fun z => ?_) (fun z => ?_)
  · exact ⟨fun w => absurd rfl w, fun _ => h0 z⟩
  obtain ⟨u1, u2, ⟨u3, u4, u5⟩, ⟨u6, u7, u8⟩, u9, ⟨u10, u11⟩, u12⟩ := k.2.2.2.2.2 c z.1.1 z.1.2
  have hc := z.1
  refine ⟨fun _ => ?_, fun w => by omega⟩
  intro M1 e1
  have f : fr_ (fun o _ => 2 + 150 + 3 * c.toNat ≤ o ∧ o < 2 + 150 + 3 * c.toNat + 3) M M1 := by rw [e1]; exact fr_uf (fr_refl M) ⟨by omega, by omega⟩
  have rd : ∀ o b, ¬ (o = 2 + 150 + 3 * c.toNat ∧ b = 2) → nn_rf M1 o b = nn_rf M o b := by
    intro o b y
    rw [e1, rd_ff, if_neg y]
  have ri : ∀ o q, o ≠ 2 + 150 + 3 * c.toNat → nn_ri M1 o q = nn_ri M o q := by
    intro o q y
    rw [e1, rd_if, if_neg (fun w => y w.1)]
  rw [rd _ _ (by omega), rd _ _ (by omega), u3, u6, mm_w_id (by omega)]
  exact h1 z M1 (fr_mono f (fun o b y => by unfold now_; omega)) (cZ_setD z.1 f k ⟨by rw [e1, rd_ff, if_pos ⟨rfl, rfl⟩], Or.inl rfl, ⟨(rd _ _ (by omega)).trans u3, u4, u5⟩, ⟨(rd _ _ (by omega)).trans u6, u7, u8⟩, fun i i0 i1 => (ri _ _ (by omega)).trans (u9 i i0 i1), ⟨(rd _ _ (by omega)).trans u10, u11⟩, fun i i0 i1 => (ri _ _ (by omega)).trans (u12 i i0 i1)⟩)
theorem ct_M_close {bd c : Int} {Z : ab_Z} {M : mm_M} {R : Int → mm_M → Prop} (k : mY_ bd M 0 Z) (j : jZ_ bd Z) (h1 : oc_ c Z → ∀ M', fr_ mod_ M M' → mY_ bd M' 0 (clo_ c Z) → R ((zC_ Z c).1.2.1 - (zC_ Z c).1.2.2.1) M') (h0 : ¬ oc_ c Z → R (-1) M) : nr_M_close c M R := by
  obtain ⟨m1, m2, m3⟩ := m_isOpen (c := c) k j
  refine ng_M_close _ _ _ ⟨m1, fun z => ?_, fun z => h0 (fun w => absurd z (m2.mpr w))⟩
  have y := m2.mp z
  have e := m3 y.1
  have hc := y.1
  obtain ⟨p1, p2, p3, p4, p5, p6⟩ := k.1.2.2.2 c hc.1 hc.2
  obtain ⟨v1, v2, v3, v4⟩ := j.2.2 c hc.1 hc.2
  rw [show (0 : Int) + 5204 + 90 * c = 5204 + 90 * c by omega] at p1 p2 p3 p4 p5 p6
  rw [e, mm_w_id (x := 5204 + 90 * c + 2) (by omega), mm_w_id (x := 5204 + 90 * c + 1) (by omega)]
  refine ⟨by omega, ?_⟩
  intro M1 e1
  have f : fr_ (fun o q => o = 408 ∧ 5204 + 90 * c ≤ (q : Int) ∧ (q : Int) < 5204 + 90 * c + 90) M M1 := by rw [e1]; exact fr_ui (fr_refl M) ⟨rfl, by omega, by omega⟩
  have rd : ∀ q, 0 ≤ q → q ≠ 5204 + 90 * c → nn_ri M1 408 q = nn_ri M 408 q := by
    intro q q0 q1
    rw [e1, rd_ii, if_neg (by omega)]
  rw [rd _ (by omega) (by omega), rd _ (by omega) (by omega), p2, p3, mm_w_id (by omega)]
  refine ⟨by omega, by omega, h1 y M1 (fr_mono f (fun o q y => Or.inl ⟨y.1, by have := y.2; omega⟩)) (mY_setD hc f j.2.1.2.2.2.2.1.2 j.2.2 k ⟨by rw [e1, rd_ii, if_pos ⟨rfl, rfl⟩], (rd _ (by omega) (by omega)).trans p2, (rd _ (by omega) (by omega)).trans p3, fun i i0 i1 => (rd _ (by omega) (by omega)).trans (p4 i i0 i1), (rd _ (by omega) (by omega)).trans p5, fun i i0 i1 => (rd _ (by omega) (by omega)).trans (p6 i i0 i1)⟩)⟩
theorem jZ_clo {bd c : Int} {Z : ab_Z} (h : oc_ c Z) (j : jZ_ bd Z) : jZ_ bd (clo_ c Z) := by
  obtain ⟨hc, _⟩ := h
  obtain ⟨v1, v2, v3, v4⟩ := j.2.2 c hc.1 hc.2
  exact jZ_setD ⟨Or.inl rfl, v2, v3, v4⟩ j
