/-! merge, repair, both sides -/
def rok_ (n f m : Int) : Prop := 0 ≤ f ∧ 2 ≤ m ∧ f + m ≤ n
theorem k_runs {f m n : Int} (hf : -2147483648 ≤ f ∧ f < 2147483648) (hm : -2147483648 ≤ m ∧ m < 2147483648) (hn : 0 ≤ n ∧ n ≤ 100) : nf_LI_areRuns f m n ≠ 0 ↔ rok_ n f m := by
  unfold nf_LI_areRuns rok_
  by_cases h1 : f < 0
  · rw [if_pos h1]; exact ⟨fun z => absurd rfl z, fun z => by omega⟩
  rw [if_neg h1]
  by_cases h2 : m < 2
  · rw [if_pos h2]; exact ⟨fun z => absurd rfl z, fun z => by omega⟩
  rw [if_neg h2]
  by_cases h3 : n ≤ f
  · rw [if_pos h3]; exact ⟨fun z => absurd rfl z, fun z => by omega⟩
  rw [if_neg h3, mm_w_id (x := n - f) (by omega)]
  by_cases h4 : n - f < m
  · rw [if_pos h4]; exact ⟨fun z => absurd rfl z, fun z => by omega⟩
  rw [if_neg h4]
  exact ⟨fun _ => by omega, fun _ => by decide⟩
/-- runs of an index merged -/
noncomputable def pmX_ (f m st : Int) (lat : ab_V) (c : Int × Int) (X : ab_X) : (Int × Int) × ab_X := (((pm1_ (xm_ X) st lat f m (hi_ (plv_ (xg_ X)) f m.toNat + 1) (xn_ X, c.1, c.2, xg_ X)).2.1, (pm1_ (xm_ X) st lat f m (hi_ (plv_ (xg_ X)) f m.toNat + 1) (xn_ X, c.1, c.2, xg_ X)).2.2.1), (X.1, X.2.1, X.2.2.1, X.2.2.2.1, X.2.2.2.2.1, (pm1_ (xm_ X) st lat f m (hi_ (plv_ (xg_ X)) f m.toNat + 1) (xn_ X, c.1, c.2, xg_ X)).1, (pm1_ (xm_ X) st lat f m (hi_ (plv_ (xg_ X)) f m.toNat + 1) (xn_ X, c.1, c.2, xg_ X)).2.2.2))
theorem jX_pmX {f m st since lvb sb nb : Int} {mem lat : ab_V} {c : Int × Int} {X : ab_X} (hst : 0 ≤ st) (hl : 0 ≤ lvb) (h0 : xh_ X ≠ 0) (hr : rok_ (xn_ X) f m) (k : jX_ st since lvb sb nb mem lat X) : jX_ st since (lvb + 1) sb nb mem lat (pmX_ f m st lat c X).2 := by
  obtain ⟨hf, hm, hfm⟩ := hr
  obtain ⟨a, b, ⟨c1, c2⟩, d, e, ff, g, i, j⟩ := k h0
  intro _
  have hlv : -1 ≤ hi_ (plv_ (xg_ X)) f m.toNat ∧ hi_ (plv_ (xg_ X)) f m.toNat ≤ lvb := hi_le (by omega) (fun r r0 r1 => (c2 r (by omega) (by omega)).2.2)
  have hn := pm1_n (mends := xm_ X) (stamp := st) (f := f) (m := m) (level := hi_ (plv_ (xg_ X)) f m.toNat + 1) (lat := lat) (w := (xn_ X, c.1, c.2, xg_ X))
  have p2 : ∀ r, 0 ≤ r → r < (pm1_ (xm_ X) st lat f m (hi_ (plv_ (xg_ X)) f m.toNat + 1) (xn_ X, c.1, c.2, xg_ X)).1 → 0 ≤ ((pm1_ (xm_ X) st lat f m (hi_ (plv_ (xg_ X)) f m.toNat + 1) (xn_ X, c.1, c.2, xg_ X)).2.2.2 r).2.2.2.1 ∧ ((pm1_ (xm_ X) st lat f m (hi_ (plv_ (xg_ X)) f m.toNat + 1) (xn_ X, c.1, c.2, xg_ X)).2.2.2 r).2.2.2.1 ≤ st := by
    refine mpg_all (P := fun q => 0 ≤ q.2.2.2.1 ∧ q.2.2.2.1 ≤ st) hf (by omega) hfm ?_ (fun r r0 r1 => (c2 r r0 r1).1)
    show 0 ≤ (if xm_ X = 0 then lr_ (fun r => (xg_ X r).2.2.2.1) f m.toNat else st) ∧ (if xm_ X = 0 then lr_ (fun r => (xg_ X r).2.2.2.1) f m.toNat else st) ≤ st
    by_cases z : xm_ X = 0
    · rw [if_pos z]
      exact ⟨lr_pos (by omega) (fun r r0 r1 => (c2 r (by omega) (by omega)).1.1), lr_le (by omega) (fun r r0 r1 => (c2 r (by omega) (by omega)).1.2)⟩
    · rw [if_neg z]; omega
  have p3 := lbP_pm1' (mends := xm_ X) (stamp := st) (lat := lat) (w1 := (xn_ X, c.1, c.2, xg_ X)) (level := hi_ (plv_ (xg_ X)) f m.toNat + 1) (b1 := lvb) hf (by omega) hfm (fun r r0 r1 => (c2 r r0 r1).2) (by omega) (by omega)
  have p4 : ∀ r, 0 ≤ r → r < (pm1_ (xm_ X) st lat f m (hi_ (plv_ (xg_ X)) f m.toNat + 1) (xn_ X, c.1, c.2, xg_ X)).1 → ∀ y, ((pm1_ (xm_ X) st lat f m (hi_ (plv_ (xg_ X)) f m.toNat + 1) (xn_ X, c.1, c.2, xg_ X)).2.2.2 r).2.2.2.2 y → ∃ r', 0 ≤ r' ∧ r' < xn_ X ∧ (xg_ X r').2.2.2.2 y := by
    refine mpg_all (P := fun q => ∀ y, q.2.2.2.2 y → ∃ r', 0 ≤ r' ∧ r' < xn_ X ∧ (xg_ X r').2.2.2.2 y) hf (by omega) hfm (fun y hy => ?_) (fun r r0 r1 y hy => ⟨r, r0, r1, hy⟩)
    obtain ⟨⟨⟨r, r0, r1, r2⟩, _⟩, _⟩ := hy
    exact ⟨r, by omega, by omega, r2⟩
  have p5 : ∀ y, sm_ (fun r => id1_ (((pm1_ (xm_ X) st lat f m (hi_ (plv_ (xg_ X)) f m.toNat + 1) (xn_ X, c.1, c.2, xg_ X)).2.2.2 r).2.2.2.2 y)) (pm1_ (xm_ X) st lat f m (hi_ (plv_ (xg_ X)) f m.toNat + 1) (xn_ X, c.1, c.2, xg_ X)).1.toNat ≤ sm_ (fun r => id1_ ((xg_ X r).2.2.2.2 y)) (xn_ X).toNat := fun y => sm_pm1 (ν := fun p : ab_P => id1_ (p.2.2.2.2 y)) hf (by omega) hfm (id1_un (g := xg_ X) (f := f) (y := y) (m := m.toNat) (fun z => by
    obtain ⟨⟨⟨r, r0, r1, r2⟩, _⟩, _⟩ := z
    exact ⟨r, r0, by omega, r2⟩)) (fun _ _ _ => (id1_in _).1)
  have p6 : sm_ (fun r => cz_ ((pm1_ (xm_ X) st lat f m (hi_ (plv_ (xg_ X)) f m.toNat + 1) (xn_ X, c.1, c.2, xg_ X)).2.2.2 r).2.2.2.2) (pm1_ (xm_ X) st lat f m (hi_ (plv_ (xg_ X)) f m.toNat + 1) (xn_ X, c.1, c.2, xg_ X)).1.toNat ≤ sm_ (fun r => cz_ (xg_ X r).2.2.2.2) (xn_ X).toNat := sm_pm1 (ν := fun p : ab_P => cz_ p.2.2.2.2) hf (by omega) hfm (cz_un (g := xg_ X) (f := f) (m := m.toNat) (fun y z => by
    obtain ⟨⟨⟨r, r0, r1, r2⟩, _⟩, _⟩ := z
    exact ⟨r, r0, by omega, r2⟩)) (fun _ _ _ => cz_nn _)
  unfold pmX_
  generalize pm1_ (xm_ X) st lat f m (hi_ (plv_ (xg_ X)) f m.toNat + 1) (xn_ X, c.1, c.2, xg_ X) = w at hn p2 p3 p4 p5 p6 ⊢
  dsimp only at hn
  refine ⟨a, b, ⟨⟨by show 0 ≤ w.1; omega, by show w.1 ≤ nb + xh_ X; omega⟩, fun r r0 r1 => ⟨p2 r r0 r1, p3 r r0 r1⟩⟩, fun y hy => ?_, e, ff, fun y => ?_, i, ?_⟩
  · refine d y ?_
    have hy : xA_ X y ∨ xK_ X y ∨ ∃ r, 0 ≤ r ∧ r < w.1 ∧ (w.2.2.2 r).2.2.2.2 y := hy
    rcases hy with hy | hy | ⟨r, r0, r1, hy⟩
    · exact Or.inl hy
    · exact Or.inr (Or.inl hy)
    · exact Or.inr (Or.inr (p4 r r0 r1 y hy))
  · have h1 := g y
    have h2 := p5 y
    unfold mu_ at h1
    show id1_ (xA_ X y) + sm_ (fun r => id1_ ((w.2.2.2 r).2.2.2.2 y)) w.1.toNat ≤ xh_ X
    omega
  · unfold sz_ pz_ at j
    show cz_ (xA_ X) + sm_ (fun r => cz_ (w.2.2.2 r).2.2.2.2) w.1.toNat ≤ sb + 32 * xh_ X
    omega
/-- ids and one index change -/
def setC_ (i : Int) (r : (Int × Int) × ab_X) (T : ab_T) : ab_T := (T.1, T.2.1, T.2.2.1, T.2.2.2.1, r.1, fun j => if j = i then r.2 else aTX_ T j)
theorem cT_setC {M M' : mm_M} {s : Nat} {i : Int} {r : (Int × Int) × ab_X} {T : ab_T} (hi : 0 ≤ i ∧ i < 4) (f : fr_ (fun o b => (o = s + 3 ∧ b = 8) ∨ (s + 90 + 15 * i.toNat ≤ o ∧ o < s + 90 + 15 * i.toNat + 15)) M M') (h8 : nn_rf M' (s + 3) 8 = r.1.1) (k : cT_ M s T) (kx : cX_ M' (s + 90 + 15 * i.toNat) (aTl_ T) r.2) : cT_ M' s (setC_ i r T) := by
  obtain ⟨kt, ⟨k6, k7, k8⟩, kX⟩ := k
  refine ⟨tb_fr f (fun o b z z2 y => by unfold tr_ at z; omega) kt, ⟨(fr_rf f (fun y => by omega)).trans k6, (fr_rf f (fun y => by omega)).trans k7, h8⟩, fun j j0 j1 => ?_⟩
  show cX_ M' _ (aTl_ T) (if j = i then r.2 else aTX_ T j)
  by_cases z : j = i
  · rw [if_pos z, z]; exact kx
  · rw [if_neg z]
    exact cX_fr f (fun o b y1 y2 y3 => by omega) (kX j j0 j1)
theorem mY_setC {M M' : mm_M} {bd b i : Int} {r : (Int × Int) × ab_X} {Z : ab_Z} (hb : bk_ b) (hi : 0 ≤ i ∧ i < 4) (f : fr_ (mxi_ b (xi_ b i)) M M') (h8 : nn_ri M' 408 (b + 8) = r.1.2) (hl : zs_ Z 20 ≤ 200) (hc : cw_ (zC_ Z)) (k : mY_ bd M b Z) (kx : mX_ M' (xi_ b i) r.2) : mY_ bd M' b (zs_ Z, setC_ i r (zT_ Z), zC_ Z, zf_ Z) := by
  have hb' := hb
  unfold bk_ at hb'
  obtain ⟨⟨⟨kt, ⟨k0, k1, k2, k8⟩, kX⟩, kr⟩, g0, g1⟩ := k
  have rd : ∀ c, b ≤ c → (c < b + 1784 ∨ b + 5204 ≤ c) → c ≠ b + 8 → nn_ri M' 408 c = nn_ri M 408 c := fun c z0 z1 z2 => fr_ri f (fun y => by have y2 := y.2; unfold xi_ at y2; omega)
  refine ⟨⟨⟨(show tM_ M' b (aTm_ (zT_ Z)) (aTn_ (zT_ Z)) (aTq_ (zT_ Z)) from tM_mxi hb hi f kt), ⟨(rd _ (by omega) (by omega) (by omega)).trans k0, (rd _ (by omega) (by omega) (by omega)).trans k1, fun z => (rd _ (by omega) (by omega) (by omega)).trans (k2 z), h8⟩, mXs_upd hb hi f kX kx⟩, mR_cg (fun c z0 z1 _ z3 => rd c (by omega) (by omega) (by omega)) (fun c z => rd c (by omega) (by omega) (by omega)) hl hc kr⟩, ?_, ?_⟩
  · rw [rd _ (by omega) (by omega) (by omega)]; exact g0
  · rw [rd _ (by omega) (by omega) (by omega)]; exact g1
theorem jT_setC {bd bd' sb si i : Int} {r : (Int × Int) × ab_X} {T : ab_T} (hb : bd ≤ bd') (hc : (0 ≤ r.1.1 ∧ r.1.1 ≤ bd') ∧ 0 ≤ r.1.2 ∧ r.1.2 ≤ bd') (k : jT_ bd sb si T) (kx : jX_ (aTs_ T) (aTi_ T) bd' sb 19 (aTm_ T) (aTl_ T) r.2) : jT_ bd' sb si (setC_ i r T) := by
  obtain ⟨a, b, ⟨c1, c2, c3, c4⟩, d, e⟩ := jT_up hb (Int.le_refl _) (Int.le_refl _) k
  refine ⟨a, b, ⟨c1, c2, hc.1, hc.2⟩, d, fun j j0 j1 => ?_⟩
  show jX_ _ _ bd' sb 19 _ _ (if j = i then r.2 else aTX_ T j)
  by_cases z : j = i
  · rw [if_pos z]; exact kx
  · rw [if_neg z]; exact e j j0 j1
/-- runs of the table merged -/
noncomputable def tmT_ (f m : Int) (T : ab_T) : ab_T := (T.1, T.2.1, (tm1_ f m (hi_ (lvl_ (aTq_ T)) f m.toNat + 1) (sur_ (aTX_ T)) (0, (aTc_ T).1, (aTc_ T).2, aTl_ T, aTn_ T, aTq_ T)).2.2.2.2.1, (tm1_ f m (hi_ (lvl_ (aTq_ T)) f m.toNat + 1) (sur_ (aTX_ T)) (0, (aTc_ T).1, (aTc_ T).2, aTl_ T, aTn_ T, aTq_ T)).2.2.2.2.2, ((aTc_ T).1 + 1, (aTc_ T).2 + 1), aTX_ T)
theorem tmT_facts {bd sb si f m : Int} {T : ab_T} (hr : rok_ (aTn_ T) f m) (hbd : 0 ≤ bd) (k : jT_ bd sb si T) : dT_ (aTs_ T) (aTm_ T) (aTn_ (tmT_ f m T)) (aTq_ (tmT_ f m T)) ∧ (∀ q, q < 32 → mgl_ (aTq_ T) f m (aTn_ T) (sur_ (aTX_ T)) (aTl_ T) q = aTl_ (tmT_ f m T) q) ∧ (∀ q, q < 32 → lz_ (aTl_ T q) (aTl_ (tmT_ f m T) q)) ∧ (0 ≤ aTn_ (tmT_ f m T) ∧ aTn_ (tmT_ f m T) ≤ aTn_ T - 1) ∧ (∀ r, 0 ≤ r → r < aTn_ (tmT_ f m T) → -1 ≤ lvl_ (aTq_ (tmT_ f m T)) r ∧ lvl_ (aTq_ (tmT_ f m T)) r ≤ bd + 1) ∧ -1 ≤ hi_ (lvl_ (aTq_ T)) f m.toNat ∧ hi_ (lvl_ (aTq_ T)) f m.toNat ≤ bd := by
  obtain ⟨hf, hm, hfm⟩ := hr
  obtain ⟨dd, b, ⟨c1, c2, c3, c4⟩, d, e⟩ := k
  have hlv : -1 ≤ hi_ (lvl_ (aTq_ T)) f m.toNat ∧ hi_ (lvl_ (aTq_ T)) f m.toNat ≤ bd := hi_le (by omega) (fun r r0 r1 => (d r (by omega) (by omega)).2)
  have h1 : ∀ q, q < 32 → mgl_ (aTq_ T) f m (aTn_ T) (sur_ (aTX_ T)) (aTl_ T) q = aTl_ (tmT_ f m T) q := fun q hq => mgl_lk hf (by omega) hfm dd q hq
  have hn := tm1_n (f := f) (m := m) (level := hi_ (lvl_ (aTq_ T)) f m.toNat + 1) (sure := sur_ (aTX_ T)) (s := (0, (aTc_ T).1, (aTc_ T).2, aTl_ T, aTn_ T, aTq_ T))
  have hn2 : aTn_ (tmT_ f m T) ≤ aTn_ T - (m - 1) ∧ aTn_ T - m ≤ aTn_ (tmT_ f m T) := hn
  refine ⟨dT_tm1 hf (by omega) hfm dd, h1, fun q hq => ?_, by omega, ?_, hlv⟩
  · rw [← h1 q hq]
    exact mgl_lz hf (by omega) hfm dd q
  · exact lb_tm1 (s := (0, (aTc_ T).1, (aTc_ T).2, aTl_ T, aTn_ T, aTq_ T)) hf (by omega) hfm d (by omega)
theorem jT_tmT {bd sb si f m : Int} {T : ab_T} (hr : rok_ (aTn_ T) f m) (hbd : 0 ≤ bd) (k : jT_ bd sb si T) : jT_ (bd + 1) sb si (tmT_ f m T) := by
  obtain ⟨f1, f2, f3, f4, f5, _⟩ := tmT_facts hr hbd k
  obtain ⟨dd, b, ⟨c1, c2, c3, c4⟩, d, e⟩ := k
  exact ⟨f1, ⟨f4.1, by omega⟩, ⟨⟨c1.1, by show aTs_ T ≤ bd + 1; omega⟩, c2, ⟨by show 0 ≤ (aTc_ T).1 + 1; omega, by show (aTc_ T).1 + 1 ≤ bd + 1; omega⟩, by show 0 ≤ (aTc_ T).2 + 1; omega, by show (aTc_ T).2 + 1 ≤ bd + 1; omega⟩, f5, fun i i0 i1 => jX_up (by omega) (Int.le_refl _) (Int.le_refl _) (jX_lz f3 (e i i0 i1))⟩
/-- merge -/
def mok_ (i f m : Int) (Z : ab_Z) : Prop := (i = -1 ∧ rok_ (aTn_ (zT_ Z)) f m) ∨ (ix_ i Z ∧ rok_ (xn_ (aTX_ (zT_ Z) i)) f m)
noncomputable def mer_ (i f m : Int) (Z : ab_Z) : ab_Z := if i = -1 then (zs_ Z, tmT_ f m (zT_ Z), zC_ Z, zf_ Z) else (zs_ Z, setC_ i (pmX_ f m (aTs_ (zT_ Z)) (aTl_ (zT_ Z)) (aTc_ (zT_ Z)) (aTX_ (zT_ Z) i)) (zT_ Z), zC_ Z, zf_ Z)
noncomputable def mera_ (i f m : Int) (Z : ab_Z) : Int := if i = -1 then aTn_ (tmT_ f m (zT_ Z)) else xn_ (pmX_ f m (aTs_ (zT_ Z)) (aTl_ (zT_ Z)) (aTc_ (zT_ Z)) (aTX_ (zT_ Z) i)).2
theorem jZ_mer {bd i f m : Int} {Z : ab_Z} (hbd : 0 ≤ bd) (ho : mok_ i f m Z) (j : jZ_ bd Z) : jZ_ (bd + 1) (mer_ i f m Z) := by
  unfold mer_
  by_cases z : i = -1
  · rw [if_pos z]
    rcases ho with ⟨_, h⟩ | ⟨h, _⟩
    · exact jZ_T (by omega) j (jT_tmT h hbd j.1)
    · have := h.1; omega
  · rw [if_neg z]
    rcases ho with ⟨h, _⟩ | ⟨h1, h2⟩
    · exact absurd h z
    · have hc := j.1.2.2.1
      exact jZ_T (by omega) j (jT_setC (by omega) ⟨⟨by show 0 ≤ (aTc_ (zT_ Z)).1 + 1; omega, by show (aTc_ (zT_ Z)).1 + 1 ≤ bd + 1; omega⟩, by show 0 ≤ (aTc_ (zT_ Z)).2 + 1; omega, by show (aTc_ (zT_ Z)).2 + 1 ≤ bd + 1; omega⟩ j.1 (jX_pmX hc.1.1 (by omega) h1.2 h2 (j.1.2.2.2.2 i h1.1.1 h1.1.2)))
theorem ct_LI_merge {bd i f m : Int} {Z : ab_Z} {M : mm_M} {R : Int → mm_M → Prop} (hbd : 0 ≤ bd ∧ bd < 800000000) (hf : -2147483648 ≤ f ∧ f < 2147483648) (hm : -2147483648 ≤ m ∧ m < 2147483648) (k : cZ_ M 2 Z) (j : jZ_ bd Z) (h1 : mok_ i f m Z → ∀ M', fr_ now_ M M' → cZ_ M' 2 (mer_ i f m Z) → R (mera_ i f m Z) M') (h0 : ¬ mok_ i f m Z → R (-1) M) : nr_LI_merge i f m M R := by
  obtain ⟨kt, kr⟩ := k
  obtain ⟨ktb, ⟨k6, k7, k8⟩, kX⟩ := kt
  have hn := j.1.2.1
  have hc := j.1.2.2.1
  refine ng_LI_merge _ _ _ _ _ ⟨fun z => ?_, fun z => ?_⟩
  · refine ct_S_find (Z := Z) ⟨⟨ktb, ⟨k6, k7, k8⟩, kX⟩, kr⟩ (fun w => ?_) (fun w => ?_)
    · refine ⟨fun _ => h0 ?_, fun y => absurd rfl y.1⟩
      rintro (y | y)
      · exact z y.1
      · exact w y.1
    · have hi := w.1
      have kx := kX i hi.1 hi.2
      obtain ⟨⟨a1, a2, a3, a4⟩, b, e1, ⟨e2, e3⟩, p, vv⟩ := kx.2.2 w.2
      have hin := j.1.2.2.2.2 i hi.1 hi.2
      obtain ⟨q1, q2, ⟨q3, q3b⟩, q4, q5, q6, q7, q8, q9⟩ := hin w.2
      have hrn : nf_Pile_hasRuns (2 + 90 + 15 * i.toNat + 8) f m M = nf_LI_areRuns f m (xn_ (aTX_ (zT_ Z) i)) := by
        unfold nf_Pile_hasRuns
        rw [p.1.1]
      rw [hrn]
      have hk := k_runs (n := xn_ (aTX_ (zT_ Z) i)) hf hm ⟨q3.1, by omega⟩
      refine ⟨fun y => h0 ?_, fun y => ?_⟩
      · rintro (v | v)
        · exact z v.1
        · rcases y with y | y
          · omega
          · exact hk.mpr v.2 y
      · have hro := hk.mp y.2
        obtain ⟨hf0, hm2, hfm⟩ := hro
        have e1 : mer_ i f m Z = (zs_ Z, setC_ i (pmX_ f m (aTs_ (zT_ Z)) (aTl_ (zT_ Z)) (aTc_ (zT_ Z)) (aTX_ (zT_ Z) i)) (zT_ Z), zC_ Z, zf_ Z) := if_neg z
        have e2' : mera_ i f m Z = xn_ (pmX_ f m (aTs_ (zT_ Z)) (aTl_ (zT_ Z)) (aTc_ (zT_ Z)) (aTX_ (zT_ Z) i)).2 := if_neg z
        have h1 := h1 (Or.inr ⟨w, hf0, hm2, hfm⟩)
        rw [e1, e2'] at h1
        have kd : mm_kd (2 + 90 + 15 * i.toNat + 11) = (20, 24) := (sk_x (s := 2) (Or.inl rfl) hi.1 hi.2).2.2
        refine ct_highest hf0 (by omega) (by rw [kd]; show f + m ≤ (24 : Int); omega) (by omega) ?_
        have hh : hi_ (nn_ri M (2 + 90 + 15 * i.toNat + 11)) f m.toNat = hi_ (plv_ (xg_ (aTX_ (zT_ Z) i))) f m.toNat := hi_cg (fun r r0 r1 => by
          have := (p.2.2.1 r (by omega) (by omega)).2.1
          rw [show 2 + 90 + 15 * i.toNat + 8 + 3 = 2 + 90 + 15 * i.toNat + 11 by omega] at this
          exact this)
        have hlv : -1 ≤ hi_ (plv_ (xg_ (aTX_ (zT_ Z) i))) f m.toNat ∧ hi_ (plv_ (xg_ (aTX_ (zT_ Z) i))) f m.toNat ≤ bd := hi_le (by omega) (fun r r0 r1 => (q3b r (by omega) (by omega)).2.2)
        rw [hh, mm_w_id (x := hi_ (plv_ (xg_ (aTX_ (zT_ Z) i))) f m.toNat + 1) (by omega), a2]
        have vl := jX_vl hin w.2
        refine ct_P_mergeRuns (lat := aTl_ (zT_ Z)) ((aTc_ (zT_ Z)).2 + 1) (by omega) hf0 (by omega) hfm p vl.2.2 ktb.2.1.1 (by have k8 : nn_rf M 5 8 = (aTc_ (zT_ Z)).1 := k8; omega) (fun M' u v1 v2 => ?_)
        have k8 : nn_rf M 5 8 = (aTc_ (zT_ Z)).1 := k8
        have k6 : nn_rf M 5 6 = aTs_ (zT_ Z) := k6
        rw [k8] at v1 v2
        rw [k6] at v2
        rw [v2.1.1]
        have u' : fr_ (fun o b => (o = 2 + 3 ∧ b = 8) ∨ (2 + 90 + 15 * i.toNat ≤ o ∧ o < 2 + 90 + 15 * i.toNat + 15)) M M' := fr_mono u (fun o b y => by unfold pq_ at y; omega)
        have rf : ∀ o b, 2 + 90 + 15 * i.toNat ≤ o → o < 2 + 90 + 15 * i.toNat + 8 → nn_rf M' o b = nn_rf M o b := fun o b z z2 => fr_rf u (fun y => by unfold pq_ at y; omega)
        refine h1 M' (fr_mono u (fun o b y => by unfold pq_ at y; unfold now_; omega)) ⟨cT_setC (s := 2) hi u' v1 ⟨ktb, ⟨k6, k7, k8⟩, kX⟩ ⟨(rf _ _ (by omega) (by omega)).trans kx.1, v2.2.1.1, fun _ => ⟨⟨(rf _ _ (by omega) (by omega)).trans a1, (rf _ _ (by omega) (by omega)).trans a2, (rf _ _ (by omega) (by omega)).trans a3, (rf _ _ (by omega) (by omega)).trans a4⟩, rl_fr u (fun o b z z2 y => by unfold pq_ at y; omega) b, es_fr u (fun o b z y => by have := z.1; have := z.2; unfold pq_ at y; omega) (by assumption), ⟨es_fr u (fun o b z y => by have := z.1; have := z.2; unfold pq_ at y; omega) e2, (rf _ _ (by omega) (by omega)).trans e3⟩, v2, fun q q0 q1 => ?_⟩⟩, cR_fr u (fun o b y y2 => by unfold crr_ at y; unfold pq_ at y2; omega) kr⟩
        rw [fr_ri u (fun y => by unfold pq_ at y; omega)]
        exact vv q q0 q1
  · have e1 : mer_ i f m Z = (zs_ Z, tmT_ f m (zT_ Z), zC_ Z, zf_ Z) := if_pos z
    have e2' : mera_ i f m Z = aTn_ (tmT_ f m (zT_ Z)) := if_pos z
    rw [e1, e2'] at h1
    refine ng_Store_mergedTable _ _ _ _ _ ?_
    have k5 : nn_rf M (2 + 3) 5 = aTn_ (zT_ Z) := ktb.2.2.1.1
    rw [k5]
    have hk := k_runs (n := aTn_ (zT_ Z)) hf hm ⟨hn.1, by omega⟩
    refine ⟨fun y => ?_, fun y => h0 ?_⟩
    · have hro := hk.mp y
      obtain ⟨hf0, hm2, hfm⟩ := hro
      have h1 := h1 (Or.inl ⟨z, hf0, hm2, hfm⟩)
      obtain ⟨f1, f2, f3, f4, f5, f6⟩ := tmT_facts ⟨hf0, hm2, hfm⟩ hbd.1 j.1
      refine ct_highest hf0 (by omega) (by rw [show (2 + 11 : Nat) = 2 + 3 + 8 from rfl, sk_t (Or.inl rfl)]; show f + m ≤ (24 : Int); omega) (by omega) ?_
      have hh : hi_ (nn_ri M (2 + 11)) f m.toNat = hi_ (lvl_ (aTq_ (zT_ Z))) f m.toNat := hi_cg (fun r r0 r1 => (ktb.2.2.2.2 r (by omega) (by omega)).2.1)
      rw [hh, mm_w_id (x := hi_ (lvl_ (aTq_ (zT_ Z))) f m.toNat + 1) (by omega)]
      refine ct_S_sure kX ?_
      refine ct_T_mergeRuns ((aTc_ (zT_ Z)).2 + 1) hf0 (by omega) hfm ktb (by rw [k8]; omega) (fun M' u v8 vt => ?_)
      rw [k8] at v8 vt
      have elat := tb_lk vt (fun q hq => f2 q hq)
      rw [elat] at vt
      have v5 : nn_rf M' (2 + 3) 5 = aTn_ (tmT_ f m (zT_ Z)) := vt.2.2.1.1
      rw [v5]
      have fx : cXs_ M' 2 (aTl_ (zT_ Z)) (aTX_ (zT_ Z)) := cXs_fr u (fun o b y1 y2 y3 => by have := y3.1; unfold tr_ at this; omega) kX
      refine h1 M' (fr_mono u (fun o b y => by have := y.1; unfold tr_ at this; unfold now_; omega)) ⟨⟨vt, ⟨(fr_rf u (fun y => by have := y.2 rfl; omega)).trans k6, (fr_rf u (fun y => by have := y.2 rfl; omega)).trans k7, v8⟩, fun q q0 q1 => cX_lat (fun kk hk u => lz_vk (f3 kk hk) u) (fx q q0 q1)⟩, cR_fr u (fun o b y y2 => by have := y2.1; unfold tr_ at this; unfold crr_ at y; omega) kr⟩
    · rintro (v | v)
      · exact hk.mpr v.2 y
      · have := v.1.1; omega
theorem ct_M_areRuns {bd bd' i f m : Int} {Z : ab_Z} {M : mm_M} {R : Int → mm_M → Prop} (k : mY_ bd M 0 Z) (j : jZ_ bd' Z) (h1 : mok_ i f m Z → R 1 M) (h0 : ¬ mok_ i f m Z → R 0 M) : nr_M_areRuns i f m M R := by
  obtain ⟨m1, m2⟩ := m_isIndex (i := i) k j
  have hn := j.1.2.1
  refine ng_M_areRuns _ _ _ _ _ ⟨fun z => ⟨m1, fun y => ?_, fun y => ?_⟩, fun z => ?_⟩
  · have no : ¬ mok_ i f m Z := by
      rintro (v | v)
      · exact z v.1
      · exact m2.mpr v.1 y
    exact ⟨fun _ => h0 no, fun w => by omega⟩
  · have w := m2.mp y
    have hi := w.1
    have hx : 1784 ≤ xi_ 0 i ∧ xi_ 0 i + 855 ≤ 5204 := by unfold xi_; omega
    obtain ⟨_, _, _, dh, _⟩ := (k.1.1.2.2 i hi.1 hi.2).2 w.2
    obtain ⟨q1, q2, ⟨q3, q3b⟩, _⟩ := j.1.2.2.2.2 i hi.1 hi.2 w.2
    rw [at0 hi, mm_w_id (x := xi_ 0 i + 5) (by omega), dh.1]
    refine ⟨by omega, ?_⟩
    intro x4 ex4
    rw [ex4]
    refine ⟨fun v => h0 ?_, fun v => h1 ?_⟩
    · rintro (u | u)
      · exact z u.1
      · obtain ⟨_, u1, u2, u3⟩ := u
        rcases v with v | v | v | v
        · omega
        · omega
        · omega
        · rw [mm_w_id (by omega)] at v; omega
    · obtain ⟨v1, v2, v3, v4⟩ := v
      rw [mm_w_id (by omega)] at v4
      exact Or.inr ⟨w, v1, v2, by omega⟩
  · have k5 : nn_ri M 408 5 = aTn_ (zT_ Z) := by
      have := k.1.1.1.2.2.1.1
      rw [show (0 : Int) + 5 = 5 by omega] at this
      exact this
    rw [k5]
    refine ⟨fun v => h0 ?_, fun v => h1 ?_⟩
    · rintro (u | u)
      · obtain ⟨_, u1, u2, u3⟩ := u
        rcases v with v | v | v | v
        · omega
        · omega
        · omega
        · rw [mm_w_id (by omega)] at v; omega
      · have := u.1.1; omega
    · obtain ⟨v1, v2, v3, v4⟩ := v
      rw [mm_w_id (by omega)] at v4
      exact Or.inl ⟨z, v1, v2, by omega⟩
theorem ct_M_merge {bd i f m : Int} {Z : ab_Z} {M : mm_M} {R : Int → mm_M → Prop} (hbd : 0 ≤ bd ∧ bd < 800000000) (k : mY_ bd M 0 Z) (j : jZ_ bd Z) (h1 : mok_ i f m Z → ∀ M', fr_ mod_ M M' → mY_ (bd + 1) M' 0 (mer_ i f m Z) → R (mera_ i f m Z) M') (h0 : ¬ mok_ i f m Z → R (-1) M) : nr_M_merge i f m M R := by
  refine ng_M_merge _ _ _ _ _ ?_
  refine ct_M_areRuns k j (fun ho => ?_) (fun ho => ?_)
  · refine ⟨fun _ => ⟨fun z => ?_, fun z => ?_⟩, fun w => absurd w (by decide)⟩
    · rcases ho with ⟨w, _⟩ | ⟨w, hf0, hm2, hfm⟩
      · exact absurd w z
      have hi := w.1
      have hx : 1784 ≤ xi_ 0 i ∧ xi_ 0 i + 855 ≤ 5204 := by unfold xi_; omega
      have e1 : mer_ i f m Z = (zs_ Z, setC_ i (pmX_ f m (aTs_ (zT_ Z)) (aTl_ (zT_ Z)) (aTc_ (zT_ Z)) (aTX_ (zT_ Z) i)) (zT_ Z), zC_ Z, zf_ Z) := if_neg z
      have e2' : mera_ i f m Z = xn_ (pmX_ f m (aTs_ (zT_ Z)) (aTl_ (zT_ Z)) (aTc_ (zT_ Z)) (aTX_ (zT_ Z) i)).2 := if_neg z
      have h1 := h1 (Or.inr ⟨w, hf0, hm2, hfm⟩)
      rw [e1, e2'] at h1
      have kY := k
      obtain ⟨⟨⟨kt, ⟨k0, k1, k2, k8⟩, kX⟩, kr⟩, g0, g1⟩ := k
      have kx := kX i hi.1 hi.2
      obtain ⟨⟨a1, a2, a3, a4, a5, a6⟩, b1, c1, dh, ex⟩ := kx.2 w.2
      have hin := j.1.2.2.2.2 i hi.1 hi.2
      obtain ⟨q1, q2, ⟨q3, q3b⟩, q4, q5, q6, q7, q8, q9⟩ := hin w.2
      have vl := jX_vl hin w.2
      have hc := j.1.2.2.1
      have hlv : -1 ≤ hi_ (plv_ (xg_ (aTX_ (zT_ Z) i))) f m.toNat ∧ hi_ (plv_ (xg_ (aTX_ (zT_ Z) i))) f m.toNat ≤ bd := hi_le (by omega) (fun r r0 r1 => (q3b r (by omega) (by omega)).2.2)
      rw [at0 hi]
      refine ct_M_topLevel (lvM_x ⟨by omega, by omega⟩ dh) hf0 (by omega) hfm (by omega) ?_
      rw [mm_w_id (x := hi_ (plv_ (xg_ (aTX_ (zT_ Z) i))) f m.toNat + 1) (by omega)]
      have hme : xm_ (aTX_ (zT_ Z) i) = if nn_ri M 408 (xi_ 0 i + 2) = 1 then 1 else 0 := by
        rw [a2]
        rcases q1.2.2.1 with y | y
        · rw [y]; rfl
        · rw [y]; rfl
      refine sX_pm1 (mends := xm_ (aTX_ (zT_ Z) i)) (A := xA_ (aTX_ (zT_ Z) i)) (w := (xn_ (aTX_ (zT_ Z) i), (aTc_ (zT_ Z)).1, (aTc_ (zT_ Z)).2, xg_ (aTX_ (zT_ Z) i))) bk_0 hi hf0 (by omega) hfm kt ⟨dh, ex, vl.2.2, fun r r0 r1 => ⟨(q3b r r0 r1).1.1, fun y hy p hp => ((q4 y (Or.inr (Or.inr ⟨r, r0, r1, hy⟩))).2.2 p hp).1⟩, k8⟩ (fun y _ hy p hp => ((q4 y (Or.inl hy)).2.2 p hp).1) hme (by rw [k0]; exact hc.1.1) ⟨hc.2.2.2.1, by show (aTc_ (zT_ Z)).2 < _; omega⟩ (fun M' u s => ?_)
      rw [k0] at s
      obtain ⟨s1, s2, s3, s4, s5⟩ := s
      rw [mm_w_id (x := xi_ 0 i + 5) (by omega), s1.1]
      have hh := h1 M' (fr_mono u (fun o c y => Or.inl ⟨y.1, by have y2 := y.2; unfold xi_ at y2; omega⟩)) (mY_up (by omega) (mY_setC (r := pmX_ f m (aTs_ (zT_ Z)) (aTl_ (zT_ Z)) (aTc_ (zT_ Z)) (aTX_ (zT_ Z) i)) bk_0 hi u s5 j.2.1.2.2.2.2.1.2 j.2.2 kY (mX_part (A := xA_ (aTX_ (zT_ Z) i)) kx (fun c z0 z1 z2 z3 => fr_ri u (fun y => by have := y.2; omega)) s1 s2)))
      exact ⟨fun _ => ⟨by omega, hh⟩, fun y => by omega⟩
    · have hok : rok_ (aTn_ (zT_ Z)) f m := by
        rcases ho with hw | hw
        · exact hw.2
        · have := hw.1.1
          omega
      obtain ⟨hf0, hm2, hfm⟩ := hok
      have e1 : mer_ i f m Z = (zs_ Z, tmT_ f m (zT_ Z), zC_ Z, zf_ Z) := if_pos z
      have e2' : mera_ i f m Z = aTn_ (tmT_ f m (zT_ Z)) := if_pos z
      have h1 := h1 (Or.inl ⟨z, hf0, hm2, hfm⟩)
      rw [e1, e2'] at h1
      obtain ⟨f1, f2, f3, f4, f5, f6⟩ := tmT_facts ⟨hf0, hm2, hfm⟩ hbd.1 j.1
      obtain ⟨⟨⟨kt, ⟨k0, k1, k2, k8⟩, kX⟩, kr⟩, g0, g1⟩ := k
      have hn := j.1.2.1
      have hc := j.1.2.2.1
      refine ct_M_topLevel (lvM_t bk_0 kt) hf0 (by omega) hfm (by omega) ?_
      rw [mm_w_id (x := hi_ (lvl_ (aTq_ (zT_ Z))) f m.toNat + 1) (by omega), z]
      refine sM_tm1 (sure := sur_ (aTX_ (zT_ Z))) (c0 := nn_ri M 408 (0 + 23)) (s := (0, (aTc_ (zT_ Z)).1, (aTc_ (zT_ Z)).2, aTl_ (zT_ Z), aTn_ (zT_ Z), aTq_ (zT_ Z))) bk_0 hf0 (by omega) hfm ⟨kt, k8, by show _ = nn_ri M 408 (0 + 23) + 0; omega⟩ ⟨hc.2.2.2.1, by show (aTc_ (zT_ Z)).2 < _; omega⟩ ⟨by show 0 ≤ nn_ri M 408 (0 + 23) + 0; omega, by show nn_ri M 408 (0 + 23) + 0 < _; omega⟩ (fun R' hR => ct_M_sureX bk_0 kX j.1.2.2.2.2 hR) (fun M' u s => ?_)
      obtain ⟨s1, s2, s3⟩ := s
      have s5 := s1.2.2.1.1
      rw [show (0 : Int) + 5 = 5 by omega] at s5
      rw [s5]
      have s3 : nn_ri M' 408 (0 + 23) = nn_ri M 408 (0 + 23) + (0 + 1) := s3
      have rd : ∀ c : Int, 0 ≤ c → c < 288 → c ≠ 5 → c ≠ 8 → c ≠ 23 → nn_ri M' 408 c = nn_ri M 408 c := fun c z0 z1 z2 z3 z4 => fr_ri u (fun y => by have := y.2; omega)
      refine h1 M' (fr_mono u (fun o c y => Or.inl ⟨y.1, by have := y.2; omega⟩)) ⟨⟨⟨s1, ⟨(rd _ (by omega) (by omega) (by omega) (by omega) (by omega)).trans k0, (rd _ (by omega) (by omega) (by omega) (by omega) (by omega)).trans k1, fun y => (rd _ (by omega) (by omega) (by omega) (by omega) (by omega)).trans (k2 y), s2⟩, mXs_fr u bk_0 (fun c z0 z1 y => by have := y.2; omega) kX⟩, mR_cg (fun c z0 z1 z2 z3 => fr_ri u (fun y => by have := y.2; omega)) (fun c y => fr_ri u (fun y2 => by have := y2.2; omega)) j.2.1.2.2.2.2.1.2 j.2.2 kr⟩, by omega, by omega⟩
  · exact ⟨fun w => absurd rfl w, fun _ => h0 ho⟩
/-- repair -/
noncomputable def rpr_ (i : Int) (Z : ab_Z) : ab_Z := (zs_ Z, setC_ i (rpX_ (aTs_ (zT_ Z)) (aTl_ (zT_ Z)) (aTc_ (zT_ Z)) (aTX_ (zT_ Z) i)) (zT_ Z), zC_ Z, zf_ Z)
noncomputable def rpra_ (i : Int) (Z : ab_Z) : Int := pz_ (xg_ (aTX_ (zT_ Z) i)) (xn_ (aTX_ (zT_ Z) i)) - pz_ (xg_ (rpX_ (aTs_ (zT_ Z)) (aTl_ (zT_ Z)) (aTc_ (zT_ Z)) (aTX_ (zT_ Z) i)).2) (xn_ (rpX_ (aTs_ (zT_ Z)) (aTl_ (zT_ Z)) (aTc_ (zT_ Z)) (aTX_ (zT_ Z) i)).2)
theorem jZ_rpr {bd i : Int} {Z : ab_Z} (hi : ix_ i Z) (j : jZ_ bd Z) : jZ_ (bd + 25) (rpr_ i Z) := by
  have hc := j.1.2.2.1
  have hin := j.1.2.2.2.2 i hi.1.1 hi.1.2
  have hn := (hin hi.2).2.2.1.1
  have hh := (hin hi.2).1.1
  have h2 := rpn_c (lat := aTl_ (zT_ Z)) (st := aTs_ (zT_ Z)) (xn_ (aTX_ (zT_ Z) i)).toNat (xn_ (aTX_ (zT_ Z) i), (aTc_ (zT_ Z)).1, (aTc_ (zT_ Z)).2, xg_ (aTX_ (zT_ Z) i))
  dsimp only at h2
  refine jZ_T (by omega) j (jT_setC (by omega) ⟨⟨?_, ?_⟩, ?_, ?_⟩ j.1 (jX_up (by omega) (Int.le_refl _) (Int.le_refl _) (jX_rpX hi.2 hc.1.1 hin).1))
  · show 0 ≤ (rpn_ (aTl_ (zT_ Z)) (aTs_ (zT_ Z)) (xn_ (aTX_ (zT_ Z) i)).toNat (xn_ (aTX_ (zT_ Z) i), (aTc_ (zT_ Z)).1, (aTc_ (zT_ Z)).2, xg_ (aTX_ (zT_ Z) i))).2.1; omega
  · show (rpn_ (aTl_ (zT_ Z)) (aTs_ (zT_ Z)) (xn_ (aTX_ (zT_ Z) i)).toNat (xn_ (aTX_ (zT_ Z) i), (aTc_ (zT_ Z)).1, (aTc_ (zT_ Z)).2, xg_ (aTX_ (zT_ Z) i))).2.1 ≤ bd + 25; omega
  · show 0 ≤ (rpn_ (aTl_ (zT_ Z)) (aTs_ (zT_ Z)) (xn_ (aTX_ (zT_ Z) i)).toNat (xn_ (aTX_ (zT_ Z) i), (aTc_ (zT_ Z)).1, (aTc_ (zT_ Z)).2, xg_ (aTX_ (zT_ Z) i))).2.2.1; omega
  · show (rpn_ (aTl_ (zT_ Z)) (aTs_ (zT_ Z)) (xn_ (aTX_ (zT_ Z) i)).toNat (xn_ (aTX_ (zT_ Z) i), (aTc_ (zT_ Z)).1, (aTc_ (zT_ Z)).2, xg_ (aTX_ (zT_ Z) i))).2.2.1 ≤ bd + 25; omega
theorem ct_LI_repair {bd i : Int} {Z : ab_Z} {M : mm_M} {R : Int → mm_M → Prop} (hbd : 0 ≤ bd ∧ bd < 800000000) (k : cZ_ M 2 Z) (j : jZ_ bd Z) (h1 : ix_ i Z → ∀ M', fr_ now_ M M' → cZ_ M' 2 (rpr_ i Z) → R (rpra_ i Z) M') (h0 : ¬ ix_ i Z → R (-1) M) : nr_LI_repair i M R := by
  refine ng_LI_repair _ _ _ ?_
  refine ct_S_find k (fun z => ?_) (fun z => ?_)
  · exact ⟨fun w => absurd rfl w, fun _ => h0 z⟩
  refine ⟨fun _ => ?_, fun w => by omega⟩
  have hi := z.1
  have hin := j.1.2.2.2.2 i hi.1 hi.2
  have hc := j.1.2.2.1
  have hj := (jX_rpX (c := aTc_ (zT_ Z)) z.2 hc.1.1 hin).1
  obtain ⟨⟨ktb, ⟨k6, k7, k8⟩, kX⟩, kr⟩ := k
  refine ct_X_rpX (t := 2 + 3) (nb := 21) (bd := bd) (st := aTs_ (zT_ Z)) (lat := aTl_ (zT_ Z)) (c := aTc_ (zT_ Z)) (by omega) (kX i hi.1 hi.2) z.2 (jX_w hin (by omega)) (jX_vl hj z.2).2.2 k6 k8 ktb.2.1.1 (by omega) (fun M' u v8 vx => ?_)
  exact h1 z M' (fr_mono u (fun o b y => by unfold lf_ at y; unfold now_; omega)) ⟨cT_setC (s := 2) hi (fr_mono u (fun o b y => by unfold lf_ at y; omega)) v8 ⟨ktb, ⟨k6, k7, k8⟩, kX⟩ vx, cR_fr u (fun o b y y2 => by unfold crr_ at y; unfold lf_ at y2; omega) kr⟩
theorem ct_M_repair {bd i : Int} {Z : ab_Z} {M : mm_M} {R : Int → mm_M → Prop} (hbd : 0 ≤ bd ∧ bd < 800000000) (k : mY_ bd M 0 Z) (j : jZ_ bd Z) (h1 : ix_ i Z → ∀ M', fr_ mod_ M M' → mY_ bd M' 0 (rpr_ i Z) → R (rpra_ i Z) M') (h0 : ¬ ix_ i Z → R (-1) M) : nr_M_repair i M R := by
  obtain ⟨m1, m2⟩ := m_isIndex (i := i) k j
  refine ng_M_repair _ _ _ ⟨m1, fun z => h0 (fun w => absurd z (m2.mpr w)), fun z => ?_⟩
  have z := m2.mp z
  have hi := z.1
  have hin := j.1.2.2.2.2 i hi.1 hi.2
  have hc := j.1.2.2.1
  have vl := jX_vl hin z.2
  have kY := k
  obtain ⟨⟨⟨kt, ⟨k0, k1, k2, k8⟩, kX⟩, kr⟩, g0, g1⟩ := k
  refine ct_M_repX (c := aTc_ (zT_ Z)) (st := aTs_ (zT_ Z)) bk_0 hi z.2 kt (kX i hi.1 hi.2) vl.1 vl.2.2 k0 k8 (by omega) (fun M' u v8 vx => ?_)
  exact h1 z M' (fr_mono u (fun o c y => Or.inl ⟨y.1, by have y2 := y.2; unfold xi_ at y2; omega⟩)) (mY_setC bk_0 hi u v8 j.2.1.2.2.2.2.1.2 j.2.2 kY vx)
