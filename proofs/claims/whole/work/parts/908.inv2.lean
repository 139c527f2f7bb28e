/-! what is so of an index: merges, repairs keep it -/
theorem lr_le {rep : Int → Int} {f b : Int} (hb : -1 ≤ b) : ∀ {m : Nat}, (∀ i, f ≤ i → i < f + m → rep i ≤ b) → lr_ rep f m ≤ b
  | 0, _ => hb
  | m + 1, h => by
    unfold lr_ ls_
    have h1 := lr_le (rep := rep) (f := f) hb (m := m) (fun i i0 i1 => h i i0 (by omega))
    have h2 := h (f + m) (by omega) (by omega)
    split
    · exact h2
    · split <;> omega
theorem jX_mrg {fan st since lvb sb nb : Int} {mem lat : ab_V} {c : Int × Int} {X : ab_X} (hfan : 2 ≤ fan) (hst : 0 ≤ st) (hl : 0 ≤ lvb) (hnb : nb ≤ 22) (k : jX_ st since lvb sb nb mem lat X) : jX_ st since (lvb + 25) sb 19 mem lat (mrg_ fan st lat c X).2 := by
  by_cases h0 : xh_ X = 0
  · rw [mrg_0 h0]; exact jX_0 h0
  obtain ⟨a, b, ⟨c1, c2⟩, d, e, f, g, i, j⟩ := k h0
  rw [mrg_1 h0]
  intro _
  have hn20 := pmf_n (fan := fan) (mends := xm_ X) (stamp := st) (lat := lat) (w := (xn_ X, c.1, c.2, xg_ X))
  obtain ⟨kk, hkk, p1, p2, p3, p4, p5, p6⟩ := pmf_ind (fan := fan) (mends := xm_ X) (stamp := st) (lat := lat) (w := (xn_ X, c.1, c.2, xg_ X)) (P := fun k w => (0 ≤ w.1 ∧ w.1 ≤ xn_ X) ∧ (∀ r, 0 ≤ r → r < w.1 → 0 ≤ (w.2.2.2 r).2.2.2.1 ∧ (w.2.2.2 r).2.2.2.1 ≤ st) ∧ lbP_ w (lvb + k) ∧ (∀ r, 0 ≤ r → r < w.1 → ∀ y, (w.2.2.2 r).2.2.2.2 y → ∃ r', 0 ≤ r' ∧ r' < xn_ X ∧ (xg_ X r').2.2.2.2 y) ∧ (∀ y, sm_ (fun r => id1_ ((w.2.2.2 r).2.2.2.2 y)) w.1.toNat ≤ sm_ (fun r => id1_ ((xg_ X r).2.2.2.2 y)) (xn_ X).toNat) ∧ sm_ (fun r => cz_ (w.2.2.2 r).2.2.2.2) w.1.toNat ≤ sm_ (fun r => cz_ (xg_ X r).2.2.2.2) (xn_ X).toNat) hfan ⟨⟨c1.1, Int.le_refl _⟩, fun r r0 r1 => (c2 r r0 r1).1, fun r r0 r1 => ⟨(c2 r r0 r1).2.1, by have : (xg_ X r).2.2.1 ≤ lvb := (c2 r r0 r1).2.2; show (xg_ X r).2.2.1 ≤ lvb + ((0 : Nat) : Int); omega⟩, fun r r0 r1 y hy => ⟨r, r0, r1, hy⟩, fun y => Int.le_refl _, Int.le_refl _⟩ (fun k w f m level hp hf hm hfm hlv => by
    obtain ⟨q1, q2, q3, q4, q5, q6⟩ := hp
    have hlv2 := hlv _ (by omega) q3
    have hn := pm1_n (mends := xm_ X) (stamp := st) (f := f) (m := m) (level := level) (lat := lat) (w := w)
    refine ⟨by omega, ?_, ?_, ?_, fun y => ?_, ?_⟩
    · refine mpg_all (P := fun q => 0 ≤ q.2.2.2.1 ∧ q.2.2.2.1 ≤ st) hf (by omega) hfm ?_ q2
      show 0 ≤ (if xm_ X = 0 then lr_ (fun r => (w.2.2.2 r).2.2.2.1) f m.toNat else st) ∧ (if xm_ X = 0 then lr_ (fun r => (w.2.2.2 r).2.2.2.1) f m.toNat else st) ≤ st
      by_cases z : xm_ X = 0
      · rw [if_pos z]
        exact ⟨lr_pos (by omega) (fun r r0 r1 => (q2 r (by omega) (by omega)).1), lr_le (by omega) (fun r r0 r1 => (q2 r (by omega) (by omega)).2)⟩
      · rw [if_neg z]; omega
    · have := lbP_pm1' (mends := xm_ X) (stamp := st) (lat := lat) hf (by omega) hfm q3 hlv2.1 hlv2.2
      rw [show lvb + ((k + 1 : Nat) : Int) = lvb + (k : Int) + 1 by omega]
      exact this
    · refine mpg_all (P := fun q => ∀ y, q.2.2.2.2 y → ∃ r', 0 ≤ r' ∧ r' < xn_ X ∧ (xg_ X r').2.2.2.2 y) hf (by omega) hfm (fun y hy => ?_) q4
      obtain ⟨⟨⟨r, r0, r1, r2⟩, _⟩, _⟩ := hy
      exact q4 r (by omega) (by omega) y r2
    · have := sm_pm1 (ν := fun p : ab_P => id1_ (p.2.2.2.2 y)) (g := w.2.2.2) (f := f) (m := m) (level := level) (mends := xm_ X) (stamp := st) (cid := w.2.1 + 1) (mid := w.2.2.1 + 1) (n := w.1) (lat := lat) hf (by omega) hfm (id1_un (g := w.2.2.2) (f := f) (y := y) (m := m.toNat) (fun z => by
        obtain ⟨⟨⟨r, r0, r1, r2⟩, _⟩, _⟩ := z
        exact ⟨r, r0, by omega, r2⟩)) (fun _ _ _ => (id1_in _).1)
      exact Int.le_trans this (q5 y)
    · have := sm_pm1 (ν := fun p : ab_P => cz_ p.2.2.2.2) (g := w.2.2.2) (f := f) (m := m) (level := level) (mends := xm_ X) (stamp := st) (cid := w.2.1 + 1) (mid := w.2.2.1 + 1) (n := w.1) (lat := lat) hf (by omega) hfm (cz_un (g := w.2.2.2) (f := f) (m := m.toNat) (fun y z => by
        obtain ⟨⟨⟨r, r0, r1, r2⟩, _⟩, _⟩ := z
        exact ⟨r, r0, by omega, r2⟩)) (fun _ _ _ => cz_nn _)
      exact Int.le_trans this q6)
  have hkk2 : (kk : Int) ≤ 25 := by
    have hkk : kk ≤ (xn_ X).toNat + 1 := hkk
    omega
  generalize pmf_ fan (xm_ X) st lat (xn_ X, c.1, c.2, xg_ X) = w at p1 p2 p3 p4 p5 p6 hn20 ⊢
  refine ⟨a, b, ⟨⟨p1.1, by show w.1 ≤ 19 + xh_ X; omega⟩, fun r r0 r1 => ⟨p2 r r0 r1, (p3 r r0 r1).1, by have : (w.2.2.2 r).2.2.1 ≤ lvb + kk := (p3 r r0 r1).2; show (w.2.2.2 r).2.2.1 ≤ lvb + 25; omega⟩⟩, fun y hy => ?_, e, f, fun y => ?_, i, ?_⟩
  · refine d y ?_
    have hy : xA_ X y ∨ xK_ X y ∨ ∃ r, 0 ≤ r ∧ r < w.1 ∧ (w.2.2.2 r).2.2.2.2 y := hy
    rcases hy with hy | hy | ⟨r, r0, r1, hy⟩
    · exact Or.inl hy
    · exact Or.inr (Or.inl hy)
    · exact Or.inr (Or.inr (p4 r r0 r1 y hy))
  · have h1 := g y
    have h2 := p5 y
    unfold mu_ at h1
    show id1_ (xA_ X y) + sm_ (fun r => id1_ ((w.2.2.2 r).2.2.2.2 y)) w.1.toNat ≤ xh_ X
    omega
  · unfold sz_ pz_ at j
    show cz_ (xA_ X) + sm_ (fun r => cz_ (w.2.2.2 r).2.2.2.2) w.1.toNat ≤ sb + 32 * xh_ X
    omega
/-- a repair of an index -/
noncomputable def rpX_ (st : Int) (lat : ab_V) (c : Int × Int) (X : ab_X) : (Int × Int) × ab_X := (((rpn_ lat st (xn_ X).toNat (xn_ X, c.1, c.2, xg_ X)).2.1, (rpn_ lat st (xn_ X).toNat (xn_ X, c.1, c.2, xg_ X)).2.2.1), (X.1, X.2.1, X.2.2.1, X.2.2.2.1, X.2.2.2.2.1, (rpn_ lat st (xn_ X).toNat (xn_ X, c.1, c.2, xg_ X)).1, (rpn_ lat st (xn_ X).toNat (xn_ X, c.1, c.2, xg_ X)).2.2.2))
noncomputable def rep2_ (st : Int) (lat : ab_V) (c : Int × Int) (X : ab_X) : (Int × Int) × ab_X := if xh_ X = 0 ∨ sz_ X ≤ 96 then (c, X) else rpX_ st lat c X
theorem rep2_0 {st : Int} {lat : ab_V} {c : Int × Int} {X : ab_X} (h : xh_ X = 0 ∨ sz_ X ≤ 96) : rep2_ st lat c X = (c, X) := if_pos h
theorem rep2_1 {st : Int} {lat : ab_V} {c : Int × Int} {X : ab_X} (h : ¬ (xh_ X = 0 ∨ sz_ X ≤ 96)) : rep2_ st lat c X = rpX_ st lat c X := if_neg h
theorem rpn_c {lat : ab_V} {st : Int} : ∀ (k : Nat) (w : ab_W), (rpn_ lat st k w).2.1 = w.2.1 + k ∧ (rpn_ lat st k w).2.2.1 = w.2.2.1 + k ∧ w.1 - k ≤ (rpn_ lat st k w).1 ∧ (rpn_ lat st k w).1 ≤ w.1
  | 0, w => ⟨by show w.2.1 = w.2.1 + ((0 : Nat) : Int); omega, by show w.2.2.1 = w.2.2.1 + ((0 : Nat) : Int); omega, by show w.1 - ((0 : Nat) : Int) ≤ w.1; omega, Int.le_refl _⟩
  | k + 1, w => by
    have h := rpn_c (lat := lat) (st := st) k (rp1_ lat st k w)
    have h2 := rp1_n (lat := lat) (st := st) (r := k) (w := w)
    have e1 : (rp1_ lat st k w).2.1 = w.2.1 + 1 := rfl
    have e2 : (rp1_ lat st k w).2.2.1 = w.2.2.1 + 1 := rfl
    show (rpn_ lat st k (rp1_ lat st k w)).2.1 = _ ∧ (rpn_ lat st k (rp1_ lat st k w)).2.2.1 = _ ∧ _ ≤ (rpn_ lat st k (rp1_ lat st k w)).1 ∧ (rpn_ lat st k (rp1_ lat st k w)).1 ≤ _
    rw [h.1, h.2.1, e1, e2]
    refine ⟨by omega, by omega, by omega, by omega⟩
def yk_ (lat : ab_V) (u : ab_U) (k : Int) : Int := match lat k.toNat with
  | some p => en_ (vk_ u (some p)) k p.1
  | none => 0
theorem jy_yk {st : Int} {lat : ab_V} {u : ab_U} {y : Int} (h : jy_ st lat u y) (hf : fs_ lat y = true) : y = yk_ lat u (ek_ y) := by
  unfold fs_ at hf
  unfold yk_
  cases e : lat (ek_ y).toNat with
  | none => rw [e] at hf; cases hf
  | some p =>
    rw [e] at hf
    have hf : p.1 = et_ y := beq_iff_eq.mp hf
    have := (h.2.2 p e).2 hf.symm
    show y = en_ (vk_ u (some p)) (ek_ y) p.1
    rw [← this, hf]
    exact en_of.symm
theorem jX_rpX {st since lvb sb nb : Int} {mem lat : ab_V} {c : Int × Int} {X : ab_X} (h0 : xh_ X ≠ 0) (hst : 0 ≤ st) (k : jX_ st since lvb sb nb mem lat X) : jX_ st since lvb sb nb mem lat (rpX_ st lat c X).2 ∧ pz_ (xg_ (rpX_ st lat c X).2) (xn_ (rpX_ st lat c X).2) ≤ 32 * xh_ X := by
  obtain ⟨a, b, ⟨c1, c2⟩, d, e, f, g, i, j⟩ := k h0
  have ei : ((xn_ X).toNat : Int) = xn_ X := by omega
  obtain ⟨p0, p1, p2, p4, p3, p5, p6⟩ := rpn_ind (lat := lat) (st := st) (P := fun k w => (k : Int) ≤ w.1 ∧ w.1 ≤ xn_ X ∧ (∀ r, 0 ≤ r → r < w.1 → (0 ≤ (w.2.2.2 r).2.2.2.1 ∧ (w.2.2.2 r).2.2.2.1 ≤ st) ∧ -1 ≤ (w.2.2.2 r).2.2.1 ∧ (w.2.2.2 r).2.2.1 ≤ lvb) ∧ (∀ r, 0 ≤ r → r < w.1 → ∀ y, (w.2.2.2 r).2.2.2.2 y → ∃ r', 0 ≤ r' ∧ r' < xn_ X ∧ (xg_ X r').2.2.2.2 y) ∧ (∀ r, (k : Int) ≤ r → r < w.1 → ∀ y, (w.2.2.2 r).2.2.2.2 y → fs_ lat y = true) ∧ (∀ y, sm_ (fun r => id1_ ((w.2.2.2 r).2.2.2.2 y)) w.1.toNat ≤ sm_ (fun r => id1_ ((xg_ X r).2.2.2.2 y)) (xn_ X).toNat) ∧ sm_ (fun r => cz_ (w.2.2.2 r).2.2.2.2) w.1.toNat ≤ sm_ (fun r => cz_ (xg_ X r).2.2.2.2) (xn_ X).toNat) (fun k w hp => by
    obtain ⟨q0, q1, q2, q4, q3, q5, q6⟩ := hp
    have hn := rp1_n (lat := lat) (st := st) (r := k) (w := w)
    have hr : 0 ≤ (k : Int) ∧ (k : Int) < w.1 := by omega
    refine ⟨by omega, by omega, fun r r0 r1 => ?_, fun r r0 r1 y hy => ?_, fun r r0 r1 y hy => ?_, fun y => ?_, ?_⟩
    · rcases rp1_from hr r0 r1 with ⟨_, _, e1⟩ | ⟨i, i0, i1, _, e1, _⟩
      · rw [e1]
        exact ⟨⟨hst, Int.le_refl _⟩, (q2 k hr.1 hr.2).2⟩
      · rw [e1]; exact q2 i i0 i1
    · rcases rp1_from hr r0 r1 with ⟨_, _, e1⟩ | ⟨i, i0, i1, _, e1, _⟩
      · rw [e1] at hy; exact q4 k hr.1 hr.2 y hy.1
      · rw [e1] at hy; exact q4 i i0 i1 y hy
    · rcases rp1_from hr (by omega) r1 with ⟨_, _, e1⟩ | ⟨i, i0, i1, _, e1, e2⟩
      · rw [e1] at hy; exact hy.2
      · rw [e1] at hy; exact q3 i (by omega) i1 y hy
    · exact Int.le_trans (sm_rp1 (ν := fun p : ab_P => id1_ (p.2.2.2.2 y)) hr (id1_mono (fun z => z.1)) (id1_in _).1) (q5 y)
    · exact Int.le_trans (sm_rp1 (ν := fun p : ab_P => cz_ p.2.2.2.2) hr (cz_mono (fun y z => z.1)) (cz_nn _)) q6) (xn_ X).toNat (xn_ X, c.1, c.2, xg_ X) ⟨by show ((xn_ X).toNat : Int) ≤ xn_ X; omega, Int.le_refl _, c2, fun r r0 r1 y hy => ⟨r, r0, r1, hy⟩, fun r r0 r1 => by have r1 : r < xn_ X := r1; omega, fun y => Int.le_refl _, Int.le_refl _⟩
  have hh : jX_ st since lvb sb nb mem lat (rpX_ st lat c X).2 ∧ pz_ (xg_ (rpX_ st lat c X).2) (xn_ (rpX_ st lat c X).2) ≤ 32 * xh_ X := by
    unfold rpX_
    generalize rpn_ lat st (xn_ X).toNat (xn_ X, c.1, c.2, xg_ X) = w at p0 p1 p2 p3 p4 p5 p6 ⊢
    have dd : ∀ r, 0 ≤ r → r < w.1 → ∀ y, (w.2.2.2 r).2.2.2.2 y → jy_ st lat (xu_ X) y := fun r r0 r1 y hy => d y (Or.inr (Or.inr (p4 r r0 r1 y hy)))
    refine ⟨fun _ => ⟨a, b, ⟨⟨by show 0 ≤ w.1; omega, by show w.1 ≤ nb + xh_ X; omega⟩, p2⟩, fun y hy => ?_, e, f, fun y => ?_, i, ?_⟩, ?_⟩
    · have hy : xA_ X y ∨ xK_ X y ∨ ∃ r, 0 ≤ r ∧ r < w.1 ∧ (w.2.2.2 r).2.2.2.2 y := hy
      rcases hy with hy | hy | ⟨r, r0, r1, hy⟩
      · exact d y (Or.inl hy)
      · exact d y (Or.inr (Or.inl hy))
      · exact dd r r0 r1 y hy
    · have h1 := g y
      have h2 := p5 y
      unfold mu_ at h1
      show id1_ (xA_ X y) + sm_ (fun r => id1_ ((w.2.2.2 r).2.2.2.2 y)) w.1.toNat ≤ xh_ X
      omega
    · unfold sz_ pz_ at j
      show cz_ (xA_ X) + sm_ (fun r => cz_ (w.2.2.2 r).2.2.2.2) w.1.toNat ≤ sb + 32 * xh_ X
      omega
    · show sm_ (fun r => cz_ (w.2.2.2 r).2.2.2.2) w.1.toNat ≤ 32 * xh_ X
      have h1 : sm_ (fun r => cz_ (w.2.2.2 r).2.2.2.2) w.1.toNat ≤ sm_ (fun r => sm_ (fun k => id1_ ((w.2.2.2 r).2.2.2.2 (yk_ lat (xu_ X) k))) 32) w.1.toNat := by
        refine sm_mono (fun r r0 r1 => cz_Y (fun y hy => ⟨ek_ y, (ek_in y).1, (ek_in y).2, ?_⟩))
        exact jy_yk (dd r r0 (by omega) y hy) (p3 r (by omega) (by omega) y hy)
      rw [sm_swap] at h1
      have h2 : sm_ (fun k => sm_ (fun r => id1_ ((w.2.2.2 r).2.2.2.2 (yk_ lat (xu_ X) k))) w.1.toNat) 32 ≤ xh_ X * ((32 : Nat) : Int) := by
        refine sm_le (fun k k0 k1 => ?_)
        have h3 := p5 (yk_ lat (xu_ X) k)
        have h4 := g (yk_ lat (xu_ X) k)
        unfold mu_ at h4
        have := (id1_in (xA_ X (yk_ lat (xu_ X) k))).1
        omega
      omega
  exact hh
theorem jX_rep {st since lvb sb nb : Int} {mem lat : ab_V} {c : Int × Int} {X : ab_X} (hst : 0 ≤ st) (hs : since ≤ 12) (k : jX_ st since lvb sb nb mem lat X) : jX_ st since lvb 64 nb mem lat (rep2_ st lat c X).2 := by
  by_cases hz : xh_ X = 0 ∨ sz_ X ≤ 96
  · rw [rep2_0 hz]
    intro h0
    obtain ⟨a, b, cc, d, e, f, g, i, j⟩ := k h0
    have h0 : xh_ X ≠ 0 := h0
    have j2 : sz_ X ≤ 64 + 32 * xh_ X := by omega
    exact ⟨a, b, cc, d, e, f, g, i, j2⟩
  · rw [rep2_1 hz]
    have h0 : xh_ X ≠ 0 := fun z => hz (Or.inl z)
    obtain ⟨h1, h2⟩ := jX_rpX (c := c) h0 hst k
    intro h3
    obtain ⟨a, b, cc, d, e, f, g, i, j⟩ := h1 h3
    refine ⟨a, b, cc, d, e, f, g, i, ?_⟩
    have e1 : xA_ (rpX_ st lat c X).2 = xA_ X := rfl
    have e2 : xh_ (rpX_ st lat c X).2 = xh_ X := rfl
    unfold sz_
    rw [e1, e2]
    rw [e1] at i
    omega
