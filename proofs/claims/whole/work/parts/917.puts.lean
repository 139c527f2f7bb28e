/-! puts, removes: the class's Store, the Model -/
def jZ_ (bd : Int) (Z : ab_Z) : Prop := jT_ bd 64 11 (zT_ Z) ∧ ((2 ≤ zs_ Z 3 ∧ zs_ Z 3 ≤ 12) ∧ (2 ≤ zs_ Z 4 ∧ zs_ Z 4 ≤ 4) ∧ (0 ≤ zs_ Z 6 ∧ zs_ Z 6 ≤ bd) ∧ (0 ≤ zs_ Z 7 ∧ zs_ Z 7 ≤ bd) ∧ (0 ≤ zs_ Z 20 ∧ zs_ Z 20 ≤ 200) ∧ (zs_ Z 15 = 0 ∨ zs_ Z 15 = 1)) ∧ cw_ (zC_ Z)
def mY_ (bd : Int) (M : mm_M) (b : Int) (Z : ab_Z) : Prop := mZ_ M b Z ∧ 0 ≤ nn_ri M 408 (b + 23) ∧ nn_ri M 408 (b + 23) ≤ bd
noncomputable def pt_ (which key row : Int) (Z : ab_Z) : ab_Z := if rfx_ (aTl_ (zT_ Z)) key row (aTX_ (zT_ Z)) = -1 then (zs_ Z, wr_ (zs_ Z 3) (zs_ Z 4) key row (zT_ Z), zC_ Z, zf_ Z) else (why_ (in1_ 6 (zs_ Z)) which key (rfx_ (aTl_ (zT_ Z)) key row (aTX_ (zT_ Z))) (va_ (xu_ (aTX_ (zT_ Z) (rfx_ (aTl_ (zT_ Z)) key row (aTX_ (zT_ Z))))) row) (rfi_ (aTl_ (zT_ Z)) key row (aTX_ (zT_ Z) (rfx_ (aTl_ (zT_ Z)) key row (aTX_ (zT_ Z))))) (sp_ (aTl_ (zT_ Z) (rfi_ (aTl_ (zT_ Z)) key row (aTX_ (zT_ Z) (rfx_ (aTl_ (zT_ Z)) key row (aTX_ (zT_ Z))))).toNat)), zT_ Z, zC_ Z, zf_ Z)
def pa_ (key row : Int) (Z : ab_Z) : Int := if rfx_ (aTl_ (zT_ Z)) key row (aTX_ (zT_ Z)) = -1 then aTs_ (zT_ Z) + 1 else -1
def rf0_ (which key : Int) (Z : ab_Z) : ab_Z := (why_ (in1_ 6 (zs_ Z)) which key (-1) (-1) (-1) (-1), zT_ Z, zC_ Z, zf_ Z)
noncomputable def rm_ (key : Int) (Z : ab_Z) : ab_Z := (zs_ Z, wr_ (zs_ Z 3) (zs_ Z 4) key (-1) (zT_ Z), zC_ Z, zf_ Z)
theorem jZ_up {bd bd' : Int} {Z : ab_Z} (h : bd ≤ bd') (k : jZ_ bd Z) : jZ_ bd' Z := by
  obtain ⟨a, ⟨b1, b2, b3, b4, b5⟩, c⟩ := k
  exact ⟨jT_up h (Int.le_refl _) (Int.le_refl _) a, ⟨b1, b2, ⟨b3.1, by omega⟩, ⟨b4.1, by omega⟩, b5⟩, c⟩
theorem why_o {sc : Int → Int} {a0 a1 a2 a3 a4 a5 k : Int} (h : k < 9 ∨ 14 < k) : why_ sc a0 a1 a2 a3 a4 a5 k = sc k := by
  unfold why_
  rw [if_neg (by omega), if_neg (by omega), if_neg (by omega), if_neg (by omega), if_neg (by omega), if_neg (by omega)]
theorem in1_o {a k : Int} {sc : Int → Int} (h : k ≠ a) : in1_ a sc k = sc k := if_neg h
theorem in1_s {a : Int} {sc : Int → Int} : in1_ a sc a = sc a + 1 := if_pos rfl
theorem jZ_why {bd : Int} {Z : ab_Z} {a0 a1 a2 a3 a4 a5 : Int} (k : jZ_ bd Z) : jZ_ (bd + 1) (why_ (in1_ 6 (zs_ Z)) a0 a1 a2 a3 a4 a5, zT_ Z, zC_ Z, zf_ Z) := by
  obtain ⟨a, ⟨b1, b2, b3, b4, b5, b6⟩, c⟩ := k
  refine ⟨jT_up (by omega) (Int.le_refl _) (Int.le_refl _) a, ?_, c⟩
  show (2 ≤ why_ (in1_ 6 (zs_ Z)) a0 a1 a2 a3 a4 a5 3 ∧ why_ (in1_ 6 (zs_ Z)) a0 a1 a2 a3 a4 a5 3 ≤ 12) ∧ (2 ≤ why_ (in1_ 6 (zs_ Z)) a0 a1 a2 a3 a4 a5 4 ∧ why_ (in1_ 6 (zs_ Z)) a0 a1 a2 a3 a4 a5 4 ≤ 4) ∧ (0 ≤ why_ (in1_ 6 (zs_ Z)) a0 a1 a2 a3 a4 a5 6 ∧ why_ (in1_ 6 (zs_ Z)) a0 a1 a2 a3 a4 a5 6 ≤ bd + 1) ∧ (0 ≤ why_ (in1_ 6 (zs_ Z)) a0 a1 a2 a3 a4 a5 7 ∧ why_ (in1_ 6 (zs_ Z)) a0 a1 a2 a3 a4 a5 7 ≤ bd + 1) ∧ (0 ≤ why_ (in1_ 6 (zs_ Z)) a0 a1 a2 a3 a4 a5 20 ∧ why_ (in1_ 6 (zs_ Z)) a0 a1 a2 a3 a4 a5 20 ≤ 200) ∧ (why_ (in1_ 6 (zs_ Z)) a0 a1 a2 a3 a4 a5 15 = 0 ∨ why_ (in1_ 6 (zs_ Z)) a0 a1 a2 a3 a4 a5 15 = 1)
  rw [why_o (k := 3) (by omega), why_o (k := 4) (by omega), why_o (k := 6) (by omega), why_o (k := 7) (by omega), why_o (k := 20) (by omega), why_o (k := 15) (by omega), in1_o (k := 3) (by omega), in1_o (k := 4) (by omega), in1_s, in1_o (k := 7) (by omega), in1_o (k := 20) (by omega), in1_o (k := 15) (by omega)]
  exact ⟨b1, b2, by omega, by omega, b5, b6⟩
theorem jZ_T {bd bd' : Int} {Z : ab_Z} {T : ab_T} (h : bd ≤ bd') (k : jZ_ bd Z) (kt : jT_ bd' 64 11 T) : jZ_ bd' (zs_ Z, T, zC_ Z, zf_ Z) := by
  obtain ⟨a, ⟨b1, b2, b3, b4, b5⟩, c⟩ := k
  exact ⟨kt, ⟨b1, b2, ⟨b3.1, by show zs_ Z 6 ≤ bd'; omega⟩, ⟨b4.1, by show zs_ Z 7 ≤ bd'; omega⟩, b5⟩, c⟩
theorem jZ_pt {bd which key row : Int} {Z : ab_Z} (hk : 0 ≤ key ∧ key < 32) (hrow : 0 ≤ row ∧ row < 65536) (hbd : bd < 900000000) (k : jZ_ bd Z) : jZ_ (bd + 400) (pt_ which key row Z) := by
  unfold pt_
  by_cases z : rfx_ (aTl_ (zT_ Z)) key row (aTX_ (zT_ Z)) = -1
  · rw [if_pos z]
    exact jZ_T (by omega) k (jT_wr hk (Or.inr hrow) k.2.1.2.1.1 k.2.1.1.2 hbd k.1)
  · rw [if_neg z]
    exact jZ_up (by omega) (jZ_why k)
theorem jZ_rm {bd key : Int} {Z : ab_Z} (hk : 0 ≤ key ∧ key < 32) (hbd : bd < 900000000) (k : jZ_ bd Z) : jZ_ (bd + 400) (rm_ key Z) := jZ_T (by omega) k (jT_wr hk (Or.inl rfl) k.2.1.2.1.1 k.2.1.1.2 hbd k.1)
def sp3_ (s o b : Nat) : Prop := sw_ s o b ∨ o = s + 88 ∨ (o = s ∧ b = 11)
theorem cR_in6 {M : mm_M} {s : Nat} {sc : Int → Int} {C : Int → ab_D} {f : Int → Int} (h : 0 ≤ sc 6 ∧ sc 6 < 2000000000) (k : cR_ M s sc C f) : cR_ (nn_uf M s 11 (mm_w (nn_rf M s 11 + 1))) s (in1_ 6 sc) C f := by
  obtain ⟨⟨x1, x2, x3, x4, x5, x6⟩, b, ⟨c1, c2, c3, c4, c5⟩, d, e⟩ := k
  have u : fr_ (fun o b => o = s ∧ b = 11) M (nn_uf M s 11 (mm_w (nn_rf M s 11 + 1))) := fr_uf (fr_refl M) ⟨rfl, rfl⟩
  have rf : ∀ o b, ¬ (o = s ∧ b = 11) → nn_rf (nn_uf M s 11 (mm_w (nn_rf M s 11 + 1))) o b = nn_rf M o b := fun o b z => fr_rf u z
  have i6 : ∀ k, k ≠ 6 → in1_ 6 sc k = sc k := fun k hk => in1_o hk
  refine ⟨⟨?_, ?_, ?_, ?_, ?_, ?_⟩, fun i i0 i1 => ?_, ⟨?_, ?_, ?_, ?_, ?_⟩, ?_, fun i i0 i1 => cu2_fr u (fun o b z z2 z3 => by omega) (e i i0 i1)⟩
  · rw [i6 3 (by omega), rf _ _ (by omega)]; exact x1
  · rw [i6 4 (by omega), rf _ _ (by omega)]; exact x2
  · rw [in1_s, rd_ff, if_pos ⟨rfl, rfl⟩, x3, mm_w_id (by omega)]
  · rw [i6 7 (by omega), rf _ _ (by omega)]; exact x4
  · rw [i6 21 (by omega), rf _ _ (by omega)]; exact x5
  · rw [i6 22 (by omega), rf _ _ (by omega)]; exact x6
  · rw [wy_cg (i6 9 (by omega)) (i6 (9 + i) (by omega)), fr_ri u (fun z => by omega)]; exact b i i0 i1
  · rw [i6 15 (by omega), rf _ _ (by omega)]; exact c1
  · rw [i6 16 (by omega), rf _ _ (by omega)]; exact c2
  · rw [i6 17 (by omega), rf _ _ (by omega)]; exact c3
  · rw [i6 18 (by omega), rf _ _ (by omega)]; exact c4
  · rw [i6 19 (by omega), rf _ _ (by omega)]; exact c5
  · rw [i6 20 (by omega)]; exact tp_fr u (fun o b z z2 z3 => by omega) d
theorem ct_S_wrZ {s : Nat} {bd key row : Int} {Z : ab_Z} {M : mm_M} {R : Int → mm_M → Prop} (hs : sk_ s) (hk : 0 ≤ key ∧ key < 32) (hrow : row = -1 ∨ (0 ≤ row ∧ row < 65536)) (hbd : bd < 800000000) (k : cZ_ M s Z) (j : jZ_ bd Z)
    (h : ∀ M', fr_ (sw_ s) M M' → cZ_ M' s (zs_ Z, wr_ (zs_ Z 3) (zs_ Z 4) key row (zT_ Z), zC_ Z, zf_ Z) → R (aTs_ (zT_ Z) + 1) M') : nr_Table_write (s + 3) key row M (fun M33 => nk_Store_write_48 s key row (nn_rf M33 (s + 3) 6) 0 M33 R) := by
  obtain ⟨kt, kr⟩ := k
  obtain ⟨jt, ⟨b1, b2, _⟩, _⟩ := j
  refine ct_S_wr (bd := bd) hs hk hrow b2 b1.2 kr.1.2.1 kr.1.1 hbd kt jt (fun M' f k' => ?_)
  exact h M' f ⟨k', cR_fr f (fun o b z => sw_crr z) kr⟩
theorem ct_S_put {s : Nat} {bd which key row : Int} {Z : ab_Z} {M : mm_M} {R : Int → mm_M → Prop} (hs : sk_ s) (hw : which ≠ 3 ∧ which ≠ -1) (hk : 0 ≤ key ∧ key < 32) (hrow : 0 ≤ row ∧ row < 65536) (hbd : bd < 800000000) (k : cZ_ M s Z) (j : jZ_ bd Z)
    (h : ∀ M', fr_ (sp3_ s) M M' → cZ_ M' s (pt_ which key row Z) → R (pa_ key row Z) M') : nr_Store_write s which key row M R := by
  refine ng_Store_write _ _ _ _ _ _ ⟨fun z => absurd z hw.1, fun _ => ?_⟩
  refine ct_S_isRefused (which := which) k.1 j.1 hk hrow (fun z => ?_) (fun i hi hne M1 f1 g0 g1 g2 g3 g4 g5 => ?_)
  · refine ⟨fun _ => ?_, fun w => absurd rfl w⟩
    refine ct_S_wrZ hs hk (Or.inr hrow) hbd k j (fun M' f k' => ?_)
    have e1 : pt_ which key row Z = (zs_ Z, wr_ (zs_ Z 3) (zs_ Z 4) key row (zT_ Z), zC_ Z, zf_ Z) := if_pos z
    have e2 : pa_ key row Z = aTs_ (zT_ Z) + 1 := if_pos z
    rw [e1, e2] at h
    exact h M' (fr_mono f (fun o b y => Or.inl y)) k'
  · refine ⟨fun w => absurd w (by decide), fun _ => ?_⟩
    rintro _ rfl
    have hne2 : rfx_ (aTl_ (zT_ Z)) key row (aTX_ (zT_ Z)) ≠ -1 := by rw [hi]; exact hne
    have e2 : pa_ key row Z = -1 := if_neg hne2
    unfold pt_ at h
    rw [if_neg hne2, hi, e2] at h
    have k1 := cR_why hw.2 f1 g0 g1 g2 g3 g4 g5 k.2
    have k2 := cR_in6 (by rw [why_o (by omega)]; have := j.2.1.2.2.1; omega) k1
    have ew : in1_ 6 (why_ (zs_ Z) which key i (va_ (xu_ (aTX_ (zT_ Z) i)) row) (rfi_ (aTl_ (zT_ Z)) key row (aTX_ (zT_ Z) i)) (sp_ (aTl_ (zT_ Z) (rfi_ (aTl_ (zT_ Z)) key row (aTX_ (zT_ Z) i)).toNat))) = why_ (in1_ 6 (zs_ Z)) which key i (va_ (xu_ (aTX_ (zT_ Z) i)) row) (rfi_ (aTl_ (zT_ Z)) key row (aTX_ (zT_ Z) i)) (sp_ (aTl_ (zT_ Z) (rfi_ (aTl_ (zT_ Z)) key row (aTX_ (zT_ Z) i)).toNat)) := by
      funext q
      by_cases z : q = 6
      · rw [z, in1_s, why_o (by omega), why_o (by omega), in1_s]
      · rw [in1_o z]
        unfold why_
        rw [in1_o z]
    rw [ew] at k2
    have f2 : fr_ (fun o b => o = s + 88 ∨ (o = s ∧ b = 11)) M (nn_uf M1 s 11 (mm_w (nn_rf M1 s 11 + 1))) := fr_uf (fr_mono f1 (fun o b z => Or.inl z)) (Or.inr ⟨rfl, rfl⟩)
    refine h _ (fr_mono f2 (fun o b z => Or.inr z)) ⟨cT_fr f2 (fun o b z z2 => by unfold sw_ at z; omega) k.1, k2⟩
theorem ct_S_ref0 {s : Nat} {bd which key : Int} {Z : ab_Z} {M : mm_M} {R : Int → mm_M → Prop} (hw : which ≠ 3 ∧ which ≠ -1) (hbd : bd < 800000000) (k : cZ_ M s Z) (j : jZ_ bd Z)
    (h : ∀ M', fr_ (sp3_ s) M M' → cZ_ M' s (rf0_ which key Z) → R (-1) M') : nr_Store_write s which key (-1) M R := by
  refine ng_Store_write _ _ _ _ _ _ ⟨fun z => absurd z hw.1, fun _ => ?_⟩
  refine ng_Store_isRefused _ _ _ _ _ _ ⟨fun z => absurd rfl z, fun _ => ?_⟩
  refine ct_S_tell (fun M1 f1 g0 g1 g2 => ?_)
  refine ⟨fun w => absurd w (by decide), fun _ => ?_⟩
  rintro _ rfl
  have k1 := cR_why hw.2 f1 g0 g1 (g2 2 (by omega) (by omega)) (g2 3 (by omega) (by omega)) (g2 4 (by omega) (by omega)) (g2 5 (by omega) (by omega)) k.2
  have k2 := cR_in6 (by rw [why_o (by omega)]; have := j.2.1.2.2.1; omega) k1
  have ew : in1_ 6 (why_ (zs_ Z) which key (-1) (-1) (-1) (-1)) = why_ (in1_ 6 (zs_ Z)) which key (-1) (-1) (-1) (-1) := by
    funext q
    by_cases z : q = 6
    · rw [z, in1_s, why_o (by omega), why_o (by omega), in1_s]
    · rw [in1_o z]
      unfold why_
      rw [in1_o z]
  rw [ew] at k2
  have f2 : fr_ (fun o b => o = s + 88 ∨ (o = s ∧ b = 11)) M (nn_uf M1 s 11 (mm_w (nn_rf M1 s 11 + 1))) := fr_uf (fr_mono f1 (fun o b z => Or.inl z)) (Or.inr ⟨rfl, rfl⟩)
  refine h _ (fr_mono f2 (fun o b z => Or.inr z)) ⟨cT_fr f2 (fun o b z z2 => by unfold sw_ at z; omega) k.1, k2⟩
theorem ct_S_rem {s : Nat} {bd key : Int} {Z : ab_Z} {M : mm_M} {R : Int → mm_M → Prop} (hs : sk_ s) (hk : 0 ≤ key ∧ key < 32) (hbd : bd < 800000000) (k : cZ_ M s Z) (j : jZ_ bd Z)
    (h : ∀ M', fr_ (sp3_ s) M M' → cZ_ M' s (rm_ key Z) → R (aTs_ (zT_ Z) + 1) M') : nr_Store_write s 3 key (-1) M R := by
  refine ng_Store_write _ _ _ _ _ _ ⟨fun _ => ?_, fun z => absurd rfl z⟩
  exact ct_S_wrZ hs hk (Or.inl rfl) hbd k j (fun M' f k' => h M' (fr_mono f (fun o b y => Or.inl y)) k')
/-! the Model -/
theorem wv_vk {u : ab_U} {o : Option (Int × Int)} (ho : ∀ p, o = some p → p.2 = -1 ∨ (0 ≤ p.2 ∧ p.2 < 65536)) : (wv_ u o = true → ∃ p, o = some p ∧ (0 ≤ p.2 ∧ p.2 < 65536) ∧ wn_ u p.2 u.2.2.toNat = true ∧ vk_ u o = su_ u 0 p.2) ∧ (wv_ u o ≠ true → vk_ u o = -1) := by
  cases o with
  | none => exact ⟨fun h => (by cases h), fun _ => rfl⟩
  | some p =>
    have hp := ho p rfl
    unfold wv_ vk_
    dsimp only
    rw [Bool.and_eq_true, decide_eq_true_eq]
    refine ⟨fun h => ⟨p, rfl, by omega, h.2, ?_⟩, fun h => ?_⟩
    · rw [if_neg (by omega)]
      exact if_pos h.2
    · by_cases z : p.2 = -1
      · rw [if_pos z]
      · rw [if_neg z]
        exact if_neg (fun w => h (by rw [Bool.and_eq_true, decide_eq_true_eq]; exact ⟨by omega, w⟩))
theorem lk_rows {st n : Int} {mem : ab_V} {q : Int → ab_R} (d : dT_ st mem n q) (k : Nat) : ∀ p, lk_ mem n q k = some p → (p.2 = -1 ∨ (0 ≤ p.2 ∧ p.2 < 65536)) ∧ 0 < p.1 ∧ p.1 ≤ st := by
  intro p hp
  rcases lk_some hp with h | ⟨r, r0, r1, h⟩
  · exact d.1 k p h
  · exact (d.2.1 r r0 r1).1 k p h
theorem ct_M_other {b x key value n st : Int} {mem : ab_V} {q : Int → ab_R} {X : ab_X} {M : mm_M} {R : Int → mm_M → Prop} (hb : bk_ b) (hx : 0 ≤ x ∧ x + 60 < 32844) (t : tM_ M b mem n q) (d : dT_ st mem n q) (k : rlM_ M x (xu_ X)) (hv : value ≠ -1) (h : R (an_ (xv_ (lk_ mem n q) X) value key) M) : nr_M_other b x key value M R := by
  refine ng_M_other _ _ _ _ _ _ ?_
  have L : ∀ i : Int, i ≤ 32 → 0 ≤ i → an_ (xv_ (lk_ mem n q) X) value key = ff_ (fun k => decide (k ≠ key) && (xv_ (lk_ mem n q) X k == value)) (32 - i).toNat i → nk_M_other_3 b x key value i M R := by
    refine lp_up (fun i hi ih i0 hq => ?_)
    refine ng_M_other_3 _ _ _ _ _ _ _ ⟨fun c => ?_, fun c => ?_⟩
    · rw [show (32 - i).toNat = 0 by omega] at hq
      rw [hq] at h
      exact h
    rw [ff_up c i0] at hq
    rw [mm_w_id (x := i + 1) (by omega)]
    have next : (decide (i ≠ key) && (xv_ (lk_ mem n q) X i == value)) = false → nk_M_other_3 b x key value (i + 1) M R := by
      intro z
      rw [z, if_neg (by decide)] at hq
      exact ih c (by omega) hq
    refine ⟨fun z => next ?_, fun z => ?_⟩
    · rw [decide_eq_false (fun w => w z)]; rfl
    · have hr := lk_rows d i.toNat
      have hw := wv_vk (u := xu_ X) (o := lk_ mem n q i.toNat) (fun p hp => (hr p hp).1)
      refine ct_M_isWanted hb hx ⟨i0, c⟩ t k (fun p hp => by have := (hr p hp).1; omega) ?_
      by_cases y : wv_ (xu_ X) (lk_ mem n q i.toNat) = true
      · obtain ⟨p, hp, hpr, _, hvk⟩ := hw.1 y
        rw [if_pos y]
        refine ⟨fun w => absurd w (by decide), fun _ => ?_⟩
        refine ct_M_rowOf hb ⟨i0, c⟩ t hp ?_
        refine ct_M_valueOf hx k hpr ?_
        have e1 : xv_ (lk_ mem n q) X i = su_ (xu_ X) 0 p.2 := hvk
        refine ⟨fun w => next ?_, fun w => ?_⟩
        · rw [e1, beq_eq_false_iff_ne.mpr w, Bool.and_false]
        · have e2 : (decide (i ≠ key) && (xv_ (lk_ mem n q) X i == value)) = true := by
            rw [e1, w, decide_eq_true z, beq_iff_eq.mpr rfl]; rfl
          rw [e2, if_pos rfl] at hq
          rw [hq] at h
          exact h
      · rw [if_neg y]
        refine ⟨fun _ => next ?_, fun w => absurd rfl w⟩
        have e1 : xv_ (lk_ mem n q) X i = -1 := hw.2 y
        rw [e1, beq_eq_false_iff_ne.mpr (Ne.symm hv), Bool.and_false]
  exact L 0 (by omega) (Int.le_refl _) rfl
theorem ct_M_whys {b w key index value : Int} {M : mm_M} {R : mm_M → Prop} (hb : bk_ b) (h : ∀ M', fr_ (a8_ (b + 9) (b + 15)) M M' → nn_ri M' 408 (b + 9) = w → nn_ri M' 408 (b + 10) = key → nn_ri M' 408 (b + 11) = index → nn_ri M' 408 (b + 12) = value → nn_ri M' 408 (b + 13) = -1 → nn_ri M' 408 (b + 14) = -1 → R M') : nr_M_whys b w key index value M R := by
  have hb' := hb
  unfold bk_ at hb'
  refine ng_M_whys _ _ _ _ _ _ _ ?_
  rw [mm_w_id (x := b + 9) (by omega), mm_w_id (x := b + 10) (by omega), mm_w_id (x := b + 11) (by omega), mm_w_id (x := b + 12) (by omega), mm_w_id (x := b + 13) (by omega), mm_w_id (x := b + 14) (by omega)]
  refine ⟨by omega, fun M1 e1 => ⟨by omega, fun M2 e2 => ⟨by omega, fun M3 e3 => ⟨by omega, fun M4 e4 => ⟨by omega, fun M5 e5 => ⟨by omega, fun M6 e6 => ?_⟩⟩⟩⟩⟩⟩
  refine h M6 ?_ ?_ ?_ ?_ ?_ ?_ ?_
  · rw [e6, e5, e4, e3, e2, e1]
    exact fr_ui (fr_ui (fr_ui (fr_ui (fr_ui (fr_ui (fr_refl M) ⟨rfl, by omega, by omega⟩) ⟨rfl, by omega, by omega⟩) ⟨rfl, by omega, by omega⟩) ⟨rfl, by omega, by omega⟩) ⟨rfl, by omega, by omega⟩) ⟨rfl, by omega, by omega⟩
  · rw [e6, rd_ii, if_neg (by omega), e5, rd_ii, if_neg (by omega), e4, rd_ii, if_neg (by omega), e3, rd_ii, if_neg (by omega), e2, rd_ii, if_neg (by omega), e1, rd_ii, if_pos ⟨rfl, rfl⟩]
  · rw [e6, rd_ii, if_neg (by omega), e5, rd_ii, if_neg (by omega), e4, rd_ii, if_neg (by omega), e3, rd_ii, if_neg (by omega), e2, rd_ii, if_pos ⟨rfl, rfl⟩]
  · rw [e6, rd_ii, if_neg (by omega), e5, rd_ii, if_neg (by omega), e4, rd_ii, if_neg (by omega), e3, rd_ii, if_pos ⟨rfl, rfl⟩]
  · rw [e6, rd_ii, if_neg (by omega), e5, rd_ii, if_neg (by omega), e4, rd_ii, if_pos ⟨rfl, rfl⟩]
  · rw [e6, rd_ii, if_neg (by omega), e5, rd_ii, if_pos ⟨rfl, rfl⟩]
  · rw [e6, rd_ii, if_pos ⟨rfl, rfl⟩]
