/-! indexes found, both sides; mend, drop, put, change, remove, load, flush -/
def ix_ (i : Int) (Z : ab_Z) : Prop := (0 ≤ i ∧ i < 4) ∧ xh_ (aTX_ (zT_ Z) i) ≠ 0
def ib2_ (i : Int) (Z : ab_Z) : Prop := (0 ≤ i ∧ i < 4) ∧ xh_ (aTX_ (zT_ Z) i) = 2
theorem ct_S_find {s : Nat} {i : Int} {Z : ab_Z} {M : mm_M} {R : Nat → mm_M → Prop} (k : cZ_ M s Z) (h0 : ¬ ix_ i Z → R 0 M) (h1 : ix_ i Z → R (s + 90 + 15 * i.toNat) M) : nr_Store_find s i M R := by
  have kx := k.1.2.2
  refine ng_Store_find _ _ _ _ ⟨fun z => by omega, fun z => by omega, fun z => h0 ?_, fun z => h1 ?_⟩
  · rintro ⟨w1, w2⟩
    rcases z with z | z | z
    · omega
    · omega
    · rw [(kx i w1.1 w1.2).1] at z; exact w2 z
  · refine ⟨by omega, ?_⟩
    have := (kx i z.1 z.2.1).1
    rw [this] at z
    exact z.2.2
theorem ct_S_findBuilt {s : Nat} {i : Int} {Z : ab_Z} {M : mm_M} {R : Nat → mm_M → Prop} (k : cZ_ M s Z) (h0 : ¬ ib2_ i Z → R 0 M) (h1 : ib2_ i Z → R (s + 90 + 15 * i.toNat) M) : nr_Store_findBuilt s i M R := by
  have kx := k.1.2.2
  refine ng_Store_findBuilt _ _ _ _ ⟨fun z => by omega, fun z => by omega, fun z => h0 ?_, fun z => h1 ?_⟩
  · rintro ⟨w1, w2⟩
    rcases z with z | z | z
    · omega
    · omega
    · rw [(kx i w1.1 w1.2).1] at z; exact z w2
  · refine ⟨by omega, ?_⟩
    have := (kx i z.1 z.2.1).1
    rw [this] at z
    exact z.2.2
theorem h012 {bd : Int} {Z : ab_Z} (j : jZ_ bd Z) {i : Int} (i0 : 0 ≤ i) (i1 : i < 4) : xh_ (aTX_ (zT_ Z) i) = 0 ∨ xh_ (aTX_ (zT_ Z) i) = 1 ∨ xh_ (aTX_ (zT_ Z) i) = 2 := by
  by_cases z : xh_ (aTX_ (zT_ Z) i) = 0
  · exact Or.inl z
  · exact Or.inr (j.1.2.2.2.2 i i0 i1 z).1.1
theorem at0 {i : Int} (h : 0 ≤ i ∧ i < 4) : nf_M_at 0 i = xi_ 0 i := nf_at bk_0 h
theorem m_isIndex {bd bd' i : Int} {Z : ab_Z} {M : mm_M} (k : mY_ bd M 0 Z) (j : jZ_ bd' Z) : nc_M_isIndex i M ∧ (nf_M_isIndex i M ≠ 0 ↔ ix_ i Z) := by
  refine ⟨fun z => ?_, ?_⟩
  · have z := k_in.mp z
    rw [at0 ⟨z.1, by omega⟩]
    unfold xi_
    rw [mm_w_id (by omega)]
    omega
  · unfold nf_M_isIndex ix_
    by_cases z : nf_M_isIn i 0 3 = 0
    · rw [if_pos z]
      rw [k_in0] at z
      exact ⟨fun w => absurd rfl w, fun w => by omega⟩
    · rw [if_neg z]
      have z := k_in.mp z
      have kx := (k.1.1.2.2 i z.1 (by omega)).1
      have e : mm_w (nf_M_at 0 i + 0) = xi_ 0 i := by
        rw [at0 ⟨z.1, by omega⟩, mm_w_id (by unfold xi_; omega)]; omega
      rw [e, kx]
      have hh := h012 j (i := i) z.1 (by omega)
      by_cases y : xh_ (aTX_ (zT_ Z) i) ≤ 0
      · rw [if_pos y]
        exact ⟨fun w => absurd rfl w, fun w => absurd (by omega) w.2⟩
      · rw [if_neg y]
        exact ⟨fun _ => ⟨⟨z.1, by omega⟩, by omega⟩, fun _ => by decide⟩
theorem m_isBuilt {bd bd' i : Int} {Z : ab_Z} {M : mm_M} (k : mY_ bd M 0 Z) (j : jZ_ bd' Z) : nc_M_isBuilt i M ∧ (nf_M_isBuilt i M ≠ 0 ↔ ib2_ i Z) := by
  obtain ⟨h1, h2⟩ := m_isIndex (i := i) k j
  refine ⟨⟨h1, fun z => ?_⟩, ?_⟩
  · have z := (h2.mp z).1
    rw [at0 z]
    unfold xi_
    rw [mm_w_id (by omega)]
    omega
  · unfold nf_M_isBuilt ib2_
    by_cases z : nf_M_isIndex i M = 0
    · rw [if_pos z]
      refine ⟨fun w => absurd rfl w, fun w => ?_⟩
      exact absurd z (h2.mpr ⟨w.1, by rw [w.2]; decide⟩)
    · rw [if_neg z]
      have z := h2.mp z
      have kx := (k.1.1.2.2 i z.1.1 z.1.2).1
      have e : mm_w (nf_M_at 0 i + 0) = xi_ 0 i := by
        rw [at0 z.1, mm_w_id (by have := z.1; unfold xi_; omega)]; omega
      rw [e, kx]
      by_cases y : xh_ (aTX_ (zT_ Z) i) = 2
      · rw [if_neg (fun w => w y)]
        exact ⟨fun _ => ⟨z.1, y⟩, fun _ => by decide⟩
      · rw [if_pos y]
        exact ⟨fun w => absurd rfl w, fun w => absurd w.2 y⟩
/-- one index is another -/
def setX_ (i : Int) (X : ab_X) (T : ab_T) : ab_T := (T.1, T.2.1, T.2.2.1, T.2.2.2.1, T.2.2.2.2.1, fun j => if j = i then X else aTX_ T j)
theorem cT_setX {M M' : mm_M} {s : Nat} {i : Int} {X : ab_X} {T : ab_T} (hi : 0 ≤ i ∧ i < 4) (f : fr_ (fun o _ => s + 90 + 15 * i.toNat ≤ o ∧ o < s + 90 + 15 * i.toNat + 15) M M') (k : cT_ M s T) (kx : cX_ M' (s + 90 + 15 * i.toNat) (aTl_ T) X) : cT_ M' s (setX_ i X T) := by
  obtain ⟨kt, ⟨k6, k7, k8⟩, kX⟩ := k
  refine ⟨tb_fr f (fun o b z _ y => by unfold tr_ at z; omega) kt, ⟨(fr_rf f (fun y => by omega)).trans k6, (fr_rf f (fun y => by omega)).trans k7, (fr_rf f (fun y => by omega)).trans k8⟩, fun j j0 j1 => ?_⟩
  show cX_ M' _ (aTl_ T) (if j = i then X else aTX_ T j)
  by_cases z : j = i
  · rw [if_pos z, z]; exact kx
  · rw [if_neg z]
    exact cX_fr f (fun o b y1 y2 y3 => by omega) (kX j j0 j1)
theorem mT_setX {M M' : mm_M} {b i : Int} {X : ab_X} {T : ab_T} (hb : bk_ b) (hi : 0 ≤ i ∧ i < 4) (f : fr_ (fun o c => o = 408 ∧ xi_ b i ≤ (c : Int) ∧ (c : Int) < xi_ b i + 855) M M') (k : mT_ M b T) (kx : mX_ M' (xi_ b i) X) : mT_ M' b (setX_ i X T) := by
  have hb' := hb
  unfold bk_ at hb'
  obtain ⟨kt, ⟨k0, k1, k2, k8⟩, kX⟩ := k
  have n22 := kt.2.2.1.2.2
  have rd : ∀ c, b ≤ c → c < b + 1784 → nn_ri M' 408 c = nn_ri M 408 c := fun c z0 z1 => fr_ri f (fun y => by have y2 := y.2; unfold xi_ at y2; omega)
  refine ⟨(show tM_ M' b (aTm_ T) (aTn_ T) (aTq_ T) from tM_fr f hb (fun c' hc y => by have y2 := y.2; unfold xi_ at y2; omega) kt), ⟨(rd _ (by omega) (by omega)).trans k0, (rd _ (by omega) (by omega)).trans k1, fun z => (rd _ (by omega) (by omega)).trans (k2 z), (rd _ (by omega) (by omega)).trans k8⟩, fun j j0 j1 => ?_⟩
  show mX_ M' (xi_ b j) (if j = i then X else aTX_ T j)
  by_cases z : j = i
  · rw [if_pos z, z]; exact kx
  · rw [if_neg z]
    exact mX_fr f (by unfold xi_; omega) (fun c y1 y2 y3 => by have y4 := y3.2; unfold xi_ at y1 y2 y4; omega) (kX j j0 j1)
theorem mY_setX {M M' : mm_M} {bd b i : Int} {X : ab_X} {Z : ab_Z} (hb : bk_ b) (hi : 0 ≤ i ∧ i < 4) (f : fr_ (fun o c => o = 408 ∧ xi_ b i ≤ (c : Int) ∧ (c : Int) < xi_ b i + 855) M M') (hl : zs_ Z 20 ≤ 200) (hc : cw_ (zC_ Z)) (k : mY_ bd M b Z) (kx : mX_ M' (xi_ b i) X) : mY_ bd M' b (zs_ Z, setX_ i X (zT_ Z), zC_ Z, zf_ Z) := by
  have hb' := hb
  unfold bk_ at hb'
  obtain ⟨⟨kt, kr⟩, g0, g1⟩ := k
  have rd : ∀ c, b ≤ c → (c < b + 1784 ∨ b + 5204 ≤ c) → nn_ri M' 408 c = nn_ri M 408 c := fun c z0 z1 => fr_ri f (fun y => by have y2 := y.2; unfold xi_ at y2; omega)
  refine ⟨⟨mT_setX hb hi f kt kx, mR_cg (fun c z0 z1 _ _ => rd c (by omega) (by omega)) (fun c z => rd c (by omega) (by omega)) hl hc kr⟩, ?_, ?_⟩
  · rw [rd _ (by omega) (by omega)]; exact g0
  · rw [rd _ (by omega) (by omega)]; exact g1
theorem jT_setX {bd sb si i : Int} {X : ab_X} {T : ab_T} (k : jT_ bd sb si T) (kx : jX_ (aTs_ T) (aTi_ T) bd sb 19 (aTm_ T) (aTl_ T) X) : jT_ bd sb si (setX_ i X T) := by
  obtain ⟨a, b, c, d, e⟩ := k
  refine ⟨a, b, c, d, fun j j0 j1 => ?_⟩
  show jX_ _ _ bd sb 19 _ _ (if j = i then X else aTX_ T j)
  by_cases z : j = i
  · rw [if_pos z]; exact kx
  · rw [if_neg z]; exact e j j0 j1
/-- mend -/
def wm_ (v : Int) (X : ab_X) : ab_X := ((X.1.1, X.1.2.1, v, X.1.2.2.2.1, X.1.2.2.2.2), X.2)
def men_ (i v : Int) (Z : ab_Z) : ab_Z := (zs_ Z, setX_ i (wm_ v (aTX_ (zT_ Z) i)) (zT_ Z), zC_ Z, zf_ Z)
theorem ct_LI_mend {i v : Int} {Z : ab_Z} {M : mm_M} {R : Int → mm_M → Prop} (hv : v = 0 ∨ v = 1) (k : cZ_ M 2 Z) (h1 : ix_ i Z → ∀ M', fr_ now_ M M' → cZ_ M' 2 (men_ i v Z) → R 1 M') (h0 : ¬ ix_ i Z → R 0 M) : nr_LI_mend i v M R := by
  refine ng_LI_mend _ _ _ _ ?_
  refine ct_S_find k (fun z => ?_) (fun z => ?_)
  · exact ⟨fun w => absurd rfl w, fun _ => h0 z⟩
  refine ⟨fun _ => ⟨hv, ?_⟩, fun w => by omega⟩
  rintro _ rfl
  have hi := z.1
  have u : fr_ (fun o b => o = 2 + 90 + 15 * i.toNat ∧ b = 7) M (nn_uf M (2 + 90 + 15 * i.toNat) 7 v) := fr_uf (fr_refl M) ⟨rfl, rfl⟩
  obtain ⟨kt, kr⟩ := k
  obtain ⟨k0, ks, k1⟩ := kt.2.2 i hi.1 hi.2
  obtain ⟨⟨a1, a2, a3, a4⟩, b, e1, ⟨e2, e3⟩, p, vv⟩ := k1 z.2
  refine h1 z _ (fr_mono u (fun o b y => by unfold now_; omega)) ⟨cT_setX hi (fr_mono u (fun o b y => by omega)) kt ⟨(fr_rf u (fun y => by omega)).trans k0, (fr_ri u (fun y => by omega)).trans ks, fun _ => ⟨⟨(fr_rf u (fun y => by omega)).trans a1, by rw [rd_ff, if_pos ⟨rfl, rfl⟩]; rfl, (fr_rf u (fun y => by omega)).trans a3, (fr_rf u (fun y => by omega)).trans a4⟩, rl_fr u (fun o b z z2 y => by omega) b, es_fr u (fun o b z y => by have := z.1; omega) e1, ⟨es_fr u (fun o b z y => by have := z.1; omega) e2, (fr_rf u (fun y => by omega)).trans e3⟩, pl_fr u (fun o b z z2 y => by omega) p, fun q q0 q1 => (fr_ri u (fun y => by omega)).trans (vv q q0 q1)⟩⟩, cR_fr u (fun o b y y2 => by unfold crr_ at y; omega) kr⟩
theorem ct_M_mend {bd i v : Int} {Z : ab_Z} {M : mm_M} {R : Int → mm_M → Prop} (hv : v = 0 ∨ v = 1) (k : mY_ bd M 0 Z) (j : jZ_ bd Z) (h1 : ix_ i Z → ∀ M', fr_ mod_ M M' → mY_ bd M' 0 (men_ i v Z) → R 1 M') (h0 : ¬ ix_ i Z → R 0 M) : nr_M_mend i v M R := by
  obtain ⟨m1, m2⟩ := m_isIndex (i := i) k j
  refine ng_M_mend _ _ _ _ ⟨m1, fun z => ?_, fun z => h0 (fun w => absurd z (m2.mpr w))⟩
  have z := m2.mp z
  have hi := z.1
  have hx : 1784 ≤ xi_ 0 i ∧ xi_ 0 i + 855 ≤ 5204 := by unfold xi_; omega
  rw [at0 hi, mm_w_id (x := xi_ 0 i + 2) (by omega)]
  have kx := k.1.1.2.2 i hi.1 hi.2
  have done : ∀ M', M' = nn_ui M 408 (xi_ 0 i + 2) v → R 1 M' := by
    rintro _ rfl
    have u : fr_ (fun o c => o = 408 ∧ (c : Int) = xi_ 0 i + 2) M (nn_ui M 408 (xi_ 0 i + 2) v) := fr_ui (fr_refl M) ⟨rfl, by omega⟩
    have rd : ∀ c, 0 ≤ c → c ≠ xi_ 0 i + 2 → nn_ri (nn_ui M 408 (xi_ 0 i + 2) v) 408 c = nn_ri M 408 c := fun c z0 z1 => by rw [rd_ii, if_neg (by omega)]
    obtain ⟨k0, k1⟩ := kx
    obtain ⟨⟨a1, a2, a3, a4, a5, a6⟩, b1, c1, d, kk, E, e, I⟩ := k1 z.2
    refine h1 z _ (fr_mono u (fun o c y => Or.inl ⟨y.1, by have := y.2; omega⟩)) (mY_setX bk_0 hi (fr_mono u (fun o c y => ⟨y.1, by have := y.2; omega⟩)) j.2.1.2.2.2.2.1.2 j.2.2 k ⟨(rd _ (by omega) (by omega)).trans k0, fun _ => ⟨⟨(rd _ (by omega) (by omega)).trans a1, by rw [rd_ii, if_pos ⟨rfl, rfl⟩]; rfl, (rd _ (by omega) (by omega)).trans a3, fun y => (rd _ (by omega) (by omega)).trans (a4 y), (rd _ (by omega) (by omega)).trans a5, a6⟩, rlM_cg (fun q z0 z1 => rd q (by omega) (by omega)) b1, kL_cg (fun q z0 z1 => rd q (by omega) (by omega)) a6.2 c1, hM_cg (fun q z0 z1 => rd q (by omega) (by omega)) (rd _ (by omega) (by omega)) d, kk, E, eM_cg (fun q z0 z1 => rd q (by omega) (by omega)) (rd _ (by omega) (by omega)) e, I⟩⟩)
  refine ⟨fun w => ⟨by omega, ?_⟩, fun w => ⟨by omega, ?_⟩⟩
  · intro M' e; exact done M' (by rw [e, w])
  · intro M' e; exact done M' (by rw [e, hv.resolve_left w])
theorem jZ_men {bd i v : Int} {Z : ab_Z} (hi : 0 ≤ i ∧ i < 4) (hv : v = 0 ∨ v = 1) (j : jZ_ bd Z) : jZ_ bd (men_ i v Z) := by
  obtain ⟨a, b, c⟩ := j
  refine ⟨jT_setX a ?_, b, c⟩
  intro hz
  obtain ⟨⟨q1, q2, q3, q4⟩, q5⟩ := a.2.2.2.2 i hi.1 hi.2 hz
  exact ⟨⟨q1, q2, hv, q4⟩, q5⟩
/-- drop -/
def wd_ (X : ab_X) : ab_X := ((0, X.1.2), X.2)
def dro_ (i : Int) (Z : ab_Z) : ab_Z := (zs_ Z, setX_ i (wd_ (aTX_ (zT_ Z) i)) (zT_ Z), zC_ Z, zf_ Z)
theorem ct_LI_drop {i : Int} {Z : ab_Z} {M : mm_M} {R : Int → mm_M → Prop} (k : cZ_ M 2 Z) (h1 : ix_ i Z → ∀ M', fr_ now_ M M' → cZ_ M' 2 (dro_ i Z) → R 1 M') (h0 : ¬ ix_ i Z → R 0 M) : nr_LI_drop i M R := by
  refine ng_LI_drop _ _ _ ?_
  refine ct_S_find k (fun z => ?_) (fun z => ?_)
  · exact ⟨fun w => absurd rfl w, fun _ => h0 z⟩
  refine ⟨fun _ => ?_, fun w => by omega⟩
  rintro _ rfl
  have hi := z.1
  have u : fr_ (fun o b => o = 2 + 90 + 15 * i.toNat ∧ b = 5) M (nn_uf M (2 + 90 + 15 * i.toNat) 5 0) := fr_uf (fr_refl M) ⟨rfl, rfl⟩
  obtain ⟨kt, kr⟩ := k
  refine h1 z _ (fr_mono u (fun o b y => by unfold now_; omega)) ⟨cT_setX hi (fr_mono u (fun o b y => by omega)) kt ⟨by rw [rd_ff, if_pos ⟨rfl, rfl⟩]; rfl, (fr_ri u (fun y => by omega)).trans (kt.2.2 i hi.1 hi.2).2.1, fun w => absurd rfl w⟩, cR_fr u (fun o b y y2 => by unfold crr_ at y; omega) kr⟩
theorem ct_M_goes {bd i : Int} {Z : ab_Z} {M : mm_M} {R : mm_M → Prop} (hi : 0 ≤ i ∧ i < 4) (k : mY_ bd M 0 Z) (j : jZ_ bd Z) (h : ∀ M', fr_ (fun o c => o = 408 ∧ xi_ 0 i ≤ (c : Int) ∧ (c : Int) < xi_ 0 i + 855) M M' → mY_ bd M' 0 (dro_ i Z) → R M') : nr_M_goes i M R := by
  have hx : 1784 ≤ xi_ 0 i ∧ xi_ 0 i + 855 ≤ 5204 := by unfold xi_; omega
  refine ng_M_goes _ _ _ ?_
  rw [at0 hi, mm_w_id (x := xi_ 0 i + 0) (by omega), show xi_ 0 i + 0 = xi_ 0 i by omega, mm_w_id (x := xi_ 0 i + 6) (by omega), mm_w_id (x := xi_ 0 i + 5) (by omega), mm_w_id (x := xi_ 0 i + 7) (by omega)]
  refine ⟨by omega, fun M1 e1 => ⟨by omega, fun M2 e2 => ⟨by omega, fun M3 e3 => ⟨by omega, fun M4 e4 => ?_⟩⟩⟩⟩
  have u : fr_ (fun o c => o = 408 ∧ xi_ 0 i ≤ (c : Int) ∧ (c : Int) < xi_ 0 i + 855) M M4 := by
    rw [e4, e3, e2, e1]
    exact fr_ui (fr_ui (fr_ui (fr_ui (fr_refl M) ⟨rfl, by omega, by omega⟩) ⟨rfl, by omega, by omega⟩) ⟨rfl, by omega, by omega⟩) ⟨rfl, by omega, by omega⟩
  refine h M4 u (mY_setX bk_0 hi u j.2.1.2.2.2.2.1.2 j.2.2 k ⟨?_, fun w => absurd rfl w⟩)
  rw [e4, rd_ii, if_neg (by omega), e3, rd_ii, if_neg (by omega), e2, rd_ii, if_neg (by omega), e1, rd_ii, if_pos ⟨rfl, rfl⟩]
  rfl
theorem ct_M_drop {bd i : Int} {Z : ab_Z} {M : mm_M} {R : Int → mm_M → Prop} (k : mY_ bd M 0 Z) (j : jZ_ bd Z) (h1 : ix_ i Z → ∀ M', fr_ mod_ M M' → mY_ bd M' 0 (dro_ i Z) → R 1 M') (h0 : ¬ ix_ i Z → R 0 M) : nr_M_drop i M R := by
  obtain ⟨m1, m2⟩ := m_isIndex (i := i) k j
  refine ng_M_drop _ _ _ ⟨m1, fun z => ?_, fun z => h0 (fun w => absurd z (m2.mpr w))⟩
  have z := m2.mp z
  have hi := z.1
  refine ct_M_goes hi k j (fun M' f k' => h1 z M' (fr_mono f (fun o c y => Or.inl ⟨y.1, by have y2 := y.2; unfold xi_ at y2; omega⟩)) k')
theorem jZ_dro {bd i : Int} {Z : ab_Z} (j : jZ_ bd Z) : jZ_ bd (dro_ i Z) := by
  obtain ⟨a, b, c⟩ := j
  exact ⟨jT_setX a (jX_0 rfl), b, c⟩
/-- put, change, remove, load, flush -/
theorem now_sp3 {o b : Nat} (h : sp3_ 2 o b) : now_ o b := by unfold sp3_ sw_ at h; unfold now_; omega
theorem mod_mz {o c : Nat} (h : mz_ 0 o c) : mod_ o c := Or.inl ⟨h.1, by have := h.2; omega⟩
def okp_ (key a b c d : Int) : Prop := (0 ≤ key ∧ key < 32) ∧ (0 ≤ a ∧ a < 16) ∧ (0 ≤ b ∧ b < 16) ∧ (0 ≤ c ∧ c < 16) ∧ (0 ≤ d ∧ d < 16)
theorem ct_LI_put {bd key a b c d : Int} {Z : ab_Z} {M : mm_M} {R : Int → mm_M → Prop} (hbd : bd < 800000000) (k : cZ_ M 2 Z) (j : jZ_ bd Z) (h1 : okp_ key a b c d → ∀ M', fr_ now_ M M' → cZ_ M' 2 (pt_ 0 key (rw_ a b c d) Z) → R (pa_ key (rw_ a b c d) Z) M') (h0 : ¬ okp_ key a b c d → R (-1) M) : nr_LI_put key a b c d M R := by
  refine ng_LI_put _ _ _ _ _ _ _ ⟨fun z => h0 (fun w => ?_), fun z => ?_⟩
  · obtain ⟨w1, w2, w3, w4, w5⟩ := w
    rcases z with z | z | z | z | z
    · exact absurd z (k_key.mpr w1)
    · exact absurd z (k_num.mpr w2)
    · exact absurd z (k_num.mpr w3)
    · exact absurd z (k_num.mpr w4)
    · exact absurd z (k_num.mpr w5)
  · obtain ⟨z1, z2, z3, z4, z5⟩ := z
    have z1 := k_key.mp z1
    have z2 := k_num.mp z2
    have z3 := k_num.mp z3
    have z4 := k_num.mp z4
    have z5 := k_num.mp z5
    rw [nf_packed z2 z3 z4 z5]
    exact ct_S_put (Or.inl rfl) (by decide) z1 (rw_in z2 z3 z4 z5) hbd k j (fun M' f k' => h1 ⟨z1, z2, z3, z4, z5⟩ M' (fr_mono f (fun o b y => now_sp3 y)) k')
theorem ct_M_put {bd key a b c d : Int} {Z : ab_Z} {M : mm_M} {R : Int → mm_M → Prop} (hbd : 0 ≤ bd ∧ bd < 800000000) (k : mY_ bd M 0 Z) (j : jZ_ bd Z) (h1 : okp_ key a b c d → ∀ M', fr_ mod_ M M' → mY_ (bd + 400) M' 0 (pt_ 0 key (rw_ a b c d) Z) → R (pa_ key (rw_ a b c d) Z) M') (h0 : ¬ okp_ key a b c d → R (-1) M) : nr_M_put key a b c d M R := by
  refine ng_M_put _ _ _ _ _ _ _ ⟨fun z => h0 (fun w => ?_), fun z => ?_⟩
  · obtain ⟨w1, w2⟩ := w
    rcases z with z | z
    · exact absurd z (k_keyM.mpr w1)
    · exact absurd z (k_rowM.mpr w2)
  · have z1 := k_keyM.mp z.1
    obtain ⟨z2, z3, z4, z5⟩ := k_rowM.mp z.2
    rw [nf_packedM z2 z3 z4 z5]
    exact ct_M_puts bk_0 z1 (rw_in z2 z3 z4 z5) hbd k j (fun M' f k' => h1 ⟨z1, z2, z3, z4, z5⟩ M' (fr_mono f (fun o c y => mod_mz y)) (mY_up (by omega) k'))
def okc_ (key col num : Int) : Prop := (0 ≤ key ∧ key < 32) ∧ (0 ≤ col ∧ col < 4) ∧ (0 ≤ num ∧ num < 16)
theorem ct_LI_change {bd key col num : Int} {Z : ab_Z} {M : mm_M} {R : Int → mm_M → Prop} (hbd : bd < 800000000) (k : cZ_ M 2 Z) (j : jZ_ bd Z) (h1 : okc_ key col num → ∀ M', fr_ now_ M M' → cZ_ M' 2 (cg_ key col num Z) → R (ca_ key col num Z) M') (h0 : ¬ okc_ key col num → R (-1) M) : nr_LI_change key col num M R := by
  have go : (nf_LI_isKey key ≠ 0 ∧ nf_LI_isColumn col ≠ 0 ∧ nf_LI_isNumber num ≠ 0) → nc_Store_changed 2 key col num M ∧ nr_Store_write 2 1 key (nf_Store_changed 2 key col num M) M R := by
    rintro ⟨z1, z2, z3⟩
    have z1 := k_key.mp z1
    have z2 := k_col.mp z2
    have z3 := k_num.mp z3
    exact ct_S_cg (Or.inl rfl) z1 z2 z3 hbd k j (fun M' f k' => h1 ⟨z1, z2, z3⟩ M' (fr_mono f (fun o b y => now_sp3 y)) k')
  refine ng_LI_change _ _ _ _ _ ⟨fun z => (go z).1, fun z => h0 (fun w => ?_), fun z => (go z).2⟩
  obtain ⟨w1, w2, w3⟩ := w
  rcases z with z | z | z
  · exact absurd z (k_key.mpr w1)
  · exact absurd z (k_col.mpr w2)
  · exact absurd z (k_num.mpr w3)
theorem ct_M_change {bd key col num : Int} {Z : ab_Z} {M : mm_M} {R : Int → mm_M → Prop} (hbd : 0 ≤ bd ∧ bd < 800000000) (k : mY_ bd M 0 Z) (j : jZ_ bd Z) (h1 : okc_ key col num → ∀ M', fr_ mod_ M M' → mY_ (bd + 400) M' 0 (cg_ key col num Z) → R (ca_ key col num Z) M') (h0 : ¬ okc_ key col num → R (-1) M) : nr_M_change key col num M R := by
  refine ng_M_change _ _ _ _ _ ⟨fun z => h0 (fun w => ?_), fun z => ?_⟩
  · obtain ⟨w1, w2, w3⟩ := w
    rcases z with z | z | z
    · exact absurd z (k_keyM.mpr w1)
    · exact absurd z (k_in.mpr (by omega))
    · exact absurd z (k_in.mpr (by omega))
  · have z1 := k_keyM.mp z.1
    have z2 := k_in.mp z.2.1
    have z3 := k_in.mp z.2.2
    exact ct_M_cg bk_0 z1 (by omega) (by omega) hbd k j (fun M' f k' => h1 ⟨z1, by omega, by omega⟩ M' (fr_mono f (fun o c y => mod_mz y)) (mY_up (by omega) k'))
theorem ct_LI_remove {bd key : Int} {Z : ab_Z} {M : mm_M} {R : Int → mm_M → Prop} (hbd : bd < 800000000) (k : cZ_ M 2 Z) (j : jZ_ bd Z) (h1 : (0 ≤ key ∧ key < 32) → ∀ M', fr_ now_ M M' → cZ_ M' 2 (rm_ key Z) → R (aTs_ (zT_ Z) + 1) M') (h0 : ¬ (0 ≤ key ∧ key < 32) → R (-1) M) : nr_LI_remove key M R := by
  refine ng_LI_remove _ _ _ ⟨fun z => h0 (fun w => absurd z (k_key.mpr w)), fun z => ?_⟩
  have z := k_key.mp z
  exact ct_S_rem (Or.inl rfl) z hbd k j (fun M' f k' => h1 z M' (fr_mono f (fun o b y => now_sp3 y)) k')
theorem ct_M_remove {bd key : Int} {Z : ab_Z} {M : mm_M} {R : Int → mm_M → Prop} (hbd : 0 ≤ bd ∧ bd < 800000000) (k : mY_ bd M 0 Z) (j : jZ_ bd Z) (h1 : (0 ≤ key ∧ key < 32) → ∀ M', fr_ mod_ M M' → mY_ (bd + 400) M' 0 (rm_ key Z) → R (aTs_ (zT_ Z) + 1) M') (h0 : ¬ (0 ≤ key ∧ key < 32) → R (-1) M) : nr_M_remove key M R := by
  refine ng_M_remove _ _ _ ⟨fun z => h0 (fun w => absurd z (k_keyM.mpr w)), fun z => ?_⟩
  have z := k_keyM.mp z
  exact ct_M_wrZ bk_0 z (Or.inl rfl) hbd k j (fun M' f k' => h1 z M' (fr_mono f (fun o c y => mod_mz y)) (mY_up (by omega) k'))
theorem ct_LI_load {bd x n : Int} {Z : ab_Z} {M : mm_M} {R : Int → mm_M → Prop} (hbd : 0 ≤ bd ∧ bd < 700000000) (k : cZ_ M 2 Z) (j : jZ_ bd Z) (h1 : (1 ≤ n ∧ n ≤ 20) → ∀ M', fr_ now_ M M' → cZ_ M' 2 (ldn_ n.toNat (x, Z)).2 → R (zs_ (ldn_ n.toNat (x, Z)).2 6 - zs_ Z 6) M') (h0 : ¬ (1 ≤ n ∧ n ≤ 20) → R (-1) M) : nr_LI_load x n M R := by
  refine ng_LI_load _ _ _ _ ⟨fun z => h0 (fun w => absurd z (k_load.mpr w)), fun z => ?_⟩
  have z := k_load.mp z
  exact ct_S_loaded (Or.inl rfl) z hbd k j (fun M' f k' => h1 z M' (fr_mono f (fun o b y => by rcases y with y | y; exact now_sp3 y; unfold now_; omega)) k')
theorem ct_M_load {bd x n : Int} {Z : ab_Z} {M : mm_M} {R : Int → mm_M → Prop} (hbd : 0 ≤ bd ∧ bd < 700000000) (k : mY_ bd M 0 Z) (j : jZ_ bd Z) (h1 : (1 ≤ n ∧ n ≤ 20) → ∀ M', fr_ mod_ M M' → mY_ (bd + 8000) M' 0 (ldn_ n.toNat (x, Z)).2 → R (zs_ (ldn_ n.toNat (x, Z)).2 6 - zs_ Z 6) M') (h0 : ¬ (1 ≤ n ∧ n ≤ 20) → R (-1) M) : nr_M_load x n M R := by
  refine ng_M_load _ _ _ _ ⟨fun z => h0 (fun w => absurd z (k_in.mpr w)), fun z => ?_⟩
  have z := k_in.mp z
  exact ct_M_loads bk_0 z hbd k j (fun M' f k' => h1 z M' (fr_mono f (fun o c y => by rcases y with y | y; exact mod_mz y; exact Or.inr (Or.inl y.1))) k')
noncomputable def fls_ (Z : ab_Z) : ab_Z := if aTi_ (zT_ Z) = 0 then Z else (zs_ Z, fl2_ (zs_ Z 4) (zT_ Z), zC_ Z, zf_ Z)
theorem ct_LI_flush {bd : Int} {Z : ab_Z} {M : mm_M} {R : Int → mm_M → Prop} (hbd : bd < 800000000) (k : cZ_ M 2 Z) (j : jZ_ bd Z) (h : ∀ M', fr_ now_ M M' → cZ_ M' 2 (fls_ Z) → R (if aTi_ (zT_ Z) = 0 then 0 else 1) M') : nr_LI_flush M R := by
  obtain ⟨kt, kr⟩ := k
  have k7 : nn_rf M 5 7 = aTi_ (zT_ Z) := kt.2.1.2.1
  refine ng_LI_flush _ _ ?_
  rw [k7]
  refine ⟨fun z => ?_, fun z => ?_⟩
  · have e1 : fls_ Z = (zs_ Z, fl2_ (zs_ Z 4) (zT_ Z), zC_ Z, zf_ Z) := if_neg z
    rw [e1, if_neg z] at h
    exact ct_S_flush (s := 2) (bd := bd) (Or.inl rfl) j.2.1.2.1 kr.1.2.1 (by omega) (by omega) kt j.1 (fun M' f k' => h M' (fr_mono f (fun o b y => by unfold sw_ at y; unfold now_; omega)) ⟨k', cR_fr f (fun o b y => sw_crr y) kr⟩)
  · have e1 : fls_ Z = Z := if_pos z
    rw [e1, if_pos z] at h
    exact h M (fr_refl M) ⟨kt, kr⟩
theorem ct_M_flushP {bd : Int} {Z : ab_Z} {M : mm_M} {R : Int → mm_M → Prop} (hbd : 0 ≤ bd ∧ bd < 800000000) (k : mY_ bd M 0 Z) (j : jZ_ bd Z) (h : ∀ M', fr_ mod_ M M' → mY_ (bd + 400) M' 0 (fls_ Z) → R (if aTi_ (zT_ Z) = 0 then 0 else 1) M') : nr_M_flush M R := by
  obtain ⟨⟨kt, kr⟩, g0, g1⟩ := k
  refine ng_M_flush _ _ ?_
  refine ct_M_flush bk_0 j.2.1.2.1 (kr.1 4 (by unfold hd_; omega)) (by omega) (by omega) (by omega) kt j.1 (fun z => ?_) (fun z M' f u k' => ?_)
  · have e1 : fls_ Z = Z := if_pos z
    rw [e1, if_pos z] at h
    exact h M (fr_refl M) ⟨⟨kt, kr⟩, g0, by omega⟩
  · have e1 : fls_ Z = (zs_ Z, fl2_ (zs_ Z 4) (zT_ Z), zC_ Z, zf_ Z) := if_neg z
    have hm := (fl_bds (fan := zs_ Z 4) j.2.1.2.1.1 (by omega) j.1).2.2.2
    rw [e1, if_neg z] at h
    exact h M' (fr_mono f (fun o c y => mod_mz (mw_mz y))) ⟨⟨k', mR_mw bk_0 f j.2.1.2.2.2.2.1.2 j.2.2 kr⟩, by omega, by omega⟩
theorem jZ_fls {bd : Int} {Z : ab_Z} (hbd : bd < 900000000) (j : jZ_ bd Z) : jZ_ (bd + 400) (fls_ Z) := by
  unfold fls_
  by_cases z : aTi_ (zT_ Z) = 0
  · rw [if_pos z]; exact jZ_up (by omega) j
  · rw [if_neg z]
    exact jZ_T (by omega) j (jT_up (by omega) (Int.le_refl _) (by omega) (jT_fl2 j.2.1.2.1.1 (by omega) (by omega) j.1))
