/-! what is told of an index: stale, waste, the worst run; the class -/
theorem ct_s (p : Int → Bool) (s : Int) (m : Nat) : ct_ p s (m + 1) = ct_ p s m + (if p (s + m) = true then 1 else 0) := rfl
theorem ct_add (p : Int → Bool) (s : Int) (a : Nat) : ∀ b : Nat, ct_ p s (a + b) = ct_ p s a + ct_ p (s + a) b
  | 0 => by show ct_ p s a = ct_ p s a + 0; omega
  | b + 1 => by
    have := ct_add p s a b
    rw [show a + (b + 1) = a + b + 1 by omega, ct_s, ct_s, this, show s + ((a + b : Nat) : Int) = s + (a : Int) + (b : Int) by omega]
    omega
theorem ct_sh {p q : Int → Bool} {s t : Int} : ∀ {m : Nat}, (∀ i : Int, 0 ≤ i → i < m → p (s + i) = q (t + i)) → ct_ p s m = ct_ q t m
  | 0, _ => rfl
  | m + 1, h => by rw [ct_s, ct_s, ct_sh (m := m) (fun i i0 i1 => h i i0 (by omega)), h m (by omega) (by omega)]
theorem ct_or {p q r : Int → Bool} {s : Int} : ∀ {m : Nat}, (∀ i : Int, s ≤ i → i < s + m → (r i = true ↔ p i = true ∨ q i = true) ∧ ¬ (p i = true ∧ q i = true)) → ct_ r s m = ct_ p s m + ct_ q s m
  | 0, _ => rfl
  | m + 1, h => by
    have h1 := h (s + m) (by omega) (by omega)
    rw [ct_s, ct_s, ct_s, ct_or (m := m) (fun i i0 i1 => h i i0 (by omega))]
    by_cases z : p (s + m) = true
    · rw [if_pos z, if_pos (h1.1.mpr (Or.inl z)), if_neg (fun w => h1.2 ⟨z, w⟩)]; omega
    · rw [if_neg z]
      by_cases y : q (s + m) = true
      · rw [if_pos y, if_pos (h1.1.mpr (Or.inr y))]; omega
      · rw [if_neg y, if_neg (fun w => (h1.1.mp w).elim z y)]; omega
theorem ct_pieces {p : Int → Bool} {m : Int} {T : Int → Int} (hm : 0 ≤ m) (h0 : T 0 = 0) : ∀ n : Nat, (∀ a b : Int, 0 ≤ a → a ≤ b → b ≤ n → T a ≤ T b) → ct_ p 0 (m + T n).toNat = ct_ p 0 m.toNat + sm_ (fun r => ct_ p (m + T r) (T (r + 1) - T r).toNat) n
  | 0, _ => by show ct_ p 0 (m + T 0).toNat = ct_ p 0 m.toNat + 0; rw [h0, show m + 0 = m by omega]; omega
  | n + 1, h => by
    have ih := ct_pieces (p := p) hm h0 n (fun a b a0 ab bn => h a b a0 ab (by omega))
    have t0 := h 0 n (Int.le_refl _) (by omega) (by omega)
    have t1 := h n ((n : Int) + 1) (by omega) (by omega) (by omega)
    rw [sm_s, show ((n + 1 : Nat) : Int) = (n : Int) + 1 by omega, show (m + T ((n : Int) + 1)).toNat = (m + T n).toNat + (T ((n : Int) + 1) - T n).toNat by omega, ct_add, ih, show (0 : Int) + (((m + T n).toNat : Nat) : Int) = m + T n by omega]
    omega
/-- stale, doubled, in the row -/
noncomputable def sl0_ (lat : ab_V) (X : ab_X) (k : Int) : Bool := !fs_ lat (eX_ X k % 4503599627370496)
noncomputable def du_ (X : ab_X) (k : Int) : Bool := @decide (∃ j, 0 ≤ j ∧ j < k ∧ eX_ X j % 4503599627370496 = eX_ X k % 4503599627370496) (Classical.propDecidable _)
theorem du_t {X : ab_X} {k : Int} : du_ X k = true ↔ ∃ j, 0 ≤ j ∧ j < k ∧ eX_ X j % 4503599627370496 = eX_ X k % 4503599627370496 := @decide_eq_true_iff _ (Classical.propDecidable _)
noncomputable def xst_ (lat : ab_V) (X : ab_X) : Int := ct_ (sl0_ lat X) 0 (sz_ X).toNat
noncomputable def xsr_ (lat : ab_V) (X : ab_X) (r : Int) : Int := ct_ (sl0_ lat X) (xs_0 X (r + 1)) (xz_ X (r + 1)).toNat
noncomputable def xwa_ (lat : ab_V) (X : ab_X) : Int := ct_ (fun k => sl0_ lat X k || du_ X k) 0 (sz_ X).toNat
theorem c_stm {M : mm_M} {x : Nat} {lat : ab_V} {X : ab_X} (k : cX_ M x lat X) (h0 : xh_ X ≠ 0) (vA : ∀ y, xA_ X y → ve_ y) (vP : vl_ (xn_ X) (xg_ X)) : stm_ M (x + 4) lat (nn_rf M (x + 4) 1) = ct_ (sl0_ lat X) 0 (cz_ (xA_ X)).toNat ∧ ∀ r, 0 ≤ r → r < xn_ X → stl_ M (x + 8) lat r = xsr_ lat X r := by
  obtain ⟨⟨c1, c2⟩, ⟨c3, c4⟩, c5, c6⟩ := cX_row k h0 vA vP
  obtain ⟨_, _, es, _, p, _⟩ := k.2.2 h0
  refine ⟨?_, fun r r0 r1 => ?_⟩
  · unfold stm_ sl0_
    rw [c1]
    refine ct_sh (fun i i0 i1 => ?_)
    rw [show (0 : Int) + i = i by omega]
    have hve := vA _ (es.2.2.1 i i0 (by rw [c1]; omega))
    have hve2 := hve
    unfold ve_ at hve2
    have h5 := c5 i i0 (by omega)
    rw [← h5]
    show (!fs_ lat (nn_ri M (x + 5) i)) = !fs_ lat (nn_ri M (x + 5) i % 4503599627370496)
    have h2 : 0 ≤ nn_ri M (x + 5) i ∧ nn_ri M (x + 5) i < 4503599627370496 := ⟨hve2.1, hve2.2.1⟩
    rw [show nn_ri M (x + 5) i % 4503599627370496 = nn_ri M (x + 5) i by omega]
  · unfold stl_ xsr_
    have e10 : x + 8 + 2 = x + 10 := by omega
    have e9 : x + 8 + 1 = x + 9 := by omega
    have rs := p.2.2.2 r r0 r1 (by omega)
    have le := pm_le p (a := r) (b := r + 1) r0 (by omega) (by omega)
    rw [e10, c2 r r0 (by omega), c2 (r + 1) (by omega) (by omega)] at rs le
    rw [e9] at rs
    rw [e10, e9, c2 r r0 (by omega), c2 (r + 1) (by omega) (by omega)]
    have ez : xz_ X (r + 1) = pz_ (xg_ X) (r + 1) - pz_ (xg_ X) r := by
      rw [pz_s r0]
      unfold xz_
      rw [if_neg (by omega), show r + 1 - 1 = r by omega]; omega
    have es : xs_0 X (r + 1) = cz_ (xA_ X) + pz_ (xg_ X) r := by
      unfold xs_0 xt_
      rw [if_neg (by omega), show r + 1 - 1 = r by omega]
    rw [ez, es]
    refine ct_sh (fun i i0 i1 => ?_)
    have hve : ve_ (nn_ri M (x + 9) (pz_ (xg_ X) r + i)) := vP r r0 r1 _ ((rs.2 _).mp ⟨_, by omega, by omega, rfl⟩)
    unfold ve_ at hve
    have h6 := c6 r r0 r1 (pz_ (xg_ X) r + i) (by omega) (by omega)
    unfold sl0_
    rw [show cz_ (xA_ X) + pz_ (xg_ X) r + i = cz_ (xA_ X) + (pz_ (xg_ X) r + i) by omega, h6, show ((r + 1) * 4503599627370496 + nn_ri M (x + 9) (pz_ (xg_ X) r + i)) % 4503599627370496 = nn_ri M (x + 9) (pz_ (xg_ X) r + i) by omega]
theorem pz_mono {g : Int → ab_P} {a b : Int} (h0 : 0 ≤ a) (h1 : a ≤ b) : pz_ g a ≤ pz_ g b := by
  have : ∀ d : Nat, pz_ g a ≤ pz_ g (a + d) := by
    intro d
    induction d with
    | zero => rw [show a + ((0 : Nat) : Int) = a by omega]; exact Int.le_refl _
    | succ d ih =>
      rw [show a + ((d + 1 : Nat) : Int) = a + (d : Int) + 1 by omega, pz_s (by omega)]
      have := cz_nn (g (a + (d : Int))).2.2.2.2
      omega
  have := this (b - a).toNat
  rw [show a + (((b - a).toNat : Nat) : Int) = b by omega] at this
  exact this
theorem xst_sum (lat : ab_V) (X : ab_X) (hn : 0 ≤ xn_ X) : xst_ lat X = ct_ (sl0_ lat X) 0 (cz_ (xA_ X)).toNat + sm_ (xsr_ lat X) (xn_ X).toNat := by
  have h := ct_pieces (p := sl0_ lat X) (m := cz_ (xA_ X)) (T := pz_ (xg_ X)) (cz_nn _) rfl (xn_ X).toNat (fun a b a0 ab _ => pz_mono a0 ab)
  rw [show (((xn_ X).toNat : Nat) : Int) = xn_ X by omega] at h
  unfold xst_ sz_
  rw [h]
  congr 1
  refine sm_cg (fun r r0 r1 => ?_)
  have ez : xz_ X (r + 1) = pz_ (xg_ X) (r + 1) - pz_ (xg_ X) r := by
    rw [pz_s r0]
    unfold xz_
    rw [if_neg (by omega), show r + 1 - 1 = r by omega]; omega
  have es : xs_0 X (r + 1) = cz_ (xA_ X) + pz_ (xg_ X) r := by
    unfold xs_0 xt_
    rw [if_neg (by omega), show r + 1 - 1 = r by omega]
  unfold xsr_
  rw [ez, es]
/-- an entry of the class's runs stands ahead just if it is doubled in the row -/
theorem ah_du {M : mm_M} {x : Nat} {lat : ab_V} {X : ab_X} (k : cX_ M x lat X) (h0 : xh_ X ≠ 0) (vA : ∀ y, xA_ X y → ve_ y) (vP : vl_ (xn_ X) (xg_ X)) : (∀ i, 0 ≤ i → i < cz_ (xA_ X) → du_ X i = false) ∧ ∀ a, 0 ≤ a → a < pz_ (xg_ X) (xn_ X) → (nn_ri M (x + 9) a = eX_ X (cz_ (xA_ X) + a) % 4503599627370496) ∧ (ah_ M x a ↔ du_ X (cz_ (xA_ X) + a) = true) := by
  obtain ⟨⟨c1, c2⟩, ⟨c3, c4⟩, c5, c6⟩ := cX_row k h0 vA vP
  obtain ⟨_, _, es, _, p, _⟩ := k.2.2 h0
  have hz : sz_ X = cz_ (xA_ X) + pz_ (xg_ X) (xn_ X) := rfl
  have em : ∀ i, 0 ≤ i → i < cz_ (xA_ X) → nn_ri M (x + 5) i = eX_ X i % 4503599627370496 ∧ eX_ X i < 4503599627370496 := by
    intro i i0 i1
    have hve := vA _ (es.2.2.1 i i0 (by rw [c1]; omega))
    unfold ve_ at hve
    have h5 := c5 i i0 i1
    rw [← h5]
    have h2 : 0 ≤ nn_ri M (x + 5) i ∧ nn_ri M (x + 5) i < 4503599627370496 := ⟨hve.1, hve.2.1⟩
    omega
  have er : ∀ a, 0 ≤ a → a < pz_ (xg_ X) (xn_ X) → nn_ri M (x + 9) a = eX_ X (cz_ (xA_ X) + a) % 4503599627370496 := by
    intro a a0 a1
    have ht : nn_ri M (x + 8 + 2) (xn_ X) = pz_ (xg_ X) (xn_ X) := c2 _ p.1.2.1 (Int.le_refl _)
    obtain ⟨r, r0, r1, r2, r3⟩ := pl_run p a0 (by rw [ht]; exact a1)
    have hve := pl_ve p vP a0 (by rw [ht]; exact a1)
    have e10 : x + 8 + 2 = x + 10 := by omega
    have e9 : x + 8 + 1 = x + 9 := by omega
    rw [e10, c2 r r0 (by omega)] at r2
    rw [e10, c2 (r + 1) (by omega) (by omega)] at r3
    rw [e9] at hve
    unfold ve_ at hve
    rw [c6 r r0 r1 a r2 r3]
    omega
  refine ⟨fun i i0 i1 => ?_, fun a a0 a1 => ⟨er a a0 a1, ?_⟩⟩
  · cases h : du_ X i with
    | false => rfl
    | true =>
      obtain ⟨j, j0, j1, j2⟩ := du_t.mp h
      have h1 := c3.1 j i j0 j1 (by have := pz_nn (xg_ X) (xn_ X); omega)
      have h2 := (em i i0 i1)
      have h3 := (em j j0 (by omega))
      have h4 := (c4 j j0 (by have := pz_nn (xg_ X) (xn_ X); omega)).1
      omega
  · have cn := cz_nn (xA_ X)
    rw [du_t]
    unfold ah_
    rw [c1]
    constructor
    · rintro (⟨i, i0, i1, i2⟩ | ⟨i, i0, i1, i2⟩)
      · exact ⟨i, i0, by omega, by rw [← (em i i0 i1).1, ← er a a0 a1]; exact i2⟩
      · exact ⟨cz_ (xA_ X) + i, by omega, by omega, by rw [← er i i0 (by omega), ← er a a0 a1]; exact i2⟩
    · rintro ⟨j, j0, j1, j2⟩
      by_cases z : j < cz_ (xA_ X)
      · exact Or.inl ⟨j, j0, z, by rw [(em j j0 z).1, er a a0 a1]; exact j2⟩
      · refine Or.inr ⟨j - cz_ (xA_ X), by omega, by omega, ?_⟩
        rw [er _ (by omega) (by omega), er a a0 a1, show cz_ (xA_ X) + (j - cz_ (xA_ X)) = j by omega]
        exact j2
theorem xwa_sum {M : mm_M} {x : Nat} {lat : ab_V} {X : ab_X} (k : cX_ M x lat X) (h0 : xh_ X ≠ 0) (vA : ∀ y, xA_ X y → ve_ y) (vP : vl_ (xn_ X) (xg_ X)) : xwa_ lat X = xst_ lat X + ct_ (ws_ M x lat) 0 (pz_ (xg_ X) (xn_ X)).toNat := by
  obtain ⟨d1, d2⟩ := ah_du k h0 vA vP
  have cn := cz_nn (xA_ X)
  have pn := pz_nn (xg_ X) (xn_ X)
  have e1 : xwa_ lat X = xst_ lat X + ct_ (fun k => (!sl0_ lat X k) && du_ X k) 0 (sz_ X).toNat := by
    refine ct_or (fun i i0 i1 => ?_)
    cases sl0_ lat X i <;> cases du_ X i <;> decide
  rw [e1]
  congr 1
  have ez : (sz_ X).toNat = (cz_ (xA_ X)).toNat + (pz_ (xg_ X) (xn_ X)).toNat := by unfold sz_; omega
  rw [ez, ct_add]
  have z0 : ct_ (fun k => (!sl0_ lat X k) && du_ X k) 0 (cz_ (xA_ X)).toNat = 0 := ct_0 (fun i i0 i1 => by
    show ((!sl0_ lat X i) && du_ X i) = false
    rw [d1 i i0 (by omega), Bool.and_false])
  rw [z0, show (0 : Int) + ct_ (fun k => (!sl0_ lat X k) && du_ X k) (0 + (((cz_ (xA_ X)).toNat : Nat) : Int)) (pz_ (xg_ X) (xn_ X)).toNat = ct_ (fun k => (!sl0_ lat X k) && du_ X k) (0 + (((cz_ (xA_ X)).toNat : Nat) : Int)) (pz_ (xg_ X) (xn_ X)).toNat by omega]
  refine ct_sh (fun i i0 i1 => ?_)
  rw [show (0 : Int) + (((cz_ (xA_ X)).toNat : Nat) : Int) + i = cz_ (xA_ X) + i by omega, show (0 : Int) + i = i by omega]
  obtain ⟨f1, f2⟩ := d2 i i0 (by omega)
  rw [Bool.eq_iff_iff, ws_t, f1, f2, Bool.and_eq_true]
  unfold sl0_
  rw [Bool.not_not]
theorem ct_X_stale {i : Int} {Z : ab_Z} {s : Nat} {M : mm_M} {R : Int → mm_M → Prop} (hs : sk_ s) {bd : Int} (k : cZ_ M s Z) (j : jZ_ bd Z) (h : ix_ i Z) (hR : R (xst_ (aTl_ (zT_ Z)) (aTX_ (zT_ Z) i)) M) : nr_Index_stale (s + 90 + 15 * i.toNat) (s + 7) M R := by
  have kx := k.1.2.2 i h.1.1 h.1.2
  obtain ⟨vA, vK, vP⟩ := jX_vl (j.1.2.2.2.2 i h.1.1 h.1.2) h.2
  obtain ⟨_, _, es, _, p, _⟩ := kx.2.2 h.2
  have hl : cv_ M (s + 7) = aTl_ (zT_ Z) := k.1.1.2.1.1
  obtain ⟨s1, s2⟩ := c_stm kx h.2 vA vP
  refine ct_I_stale (sk_x hs h.1.1 h.1.2) es vA p vP ?_
  rw [hl, s1, sm_cg (fun r r0 r1 => s2 r r0 (by have := p.1.2.1; omega)), ← xst_sum _ _ p.1.2.1]
  exact hR
theorem ct_X_waste {i : Int} {Z : ab_Z} {s : Nat} {M : mm_M} {R : Int → mm_M → Prop} (hs : sk_ s) {bd : Int} (k : cZ_ M s Z) (j : jZ_ bd Z) (h : ix_ i Z) (hR : R (xwa_ (aTl_ (zT_ Z)) (aTX_ (zT_ Z) i)) M) : nr_Index_waste (s + 90 + 15 * i.toNat) (s + 7) M R := by
  have kx := k.1.2.2 i h.1.1 h.1.2
  obtain ⟨vA, vK, vP⟩ := jX_vl (j.1.2.2.2.2 i h.1.1 h.1.2) h.2
  obtain ⟨_, _, es, _, p, _⟩ := kx.2.2 h.2
  have hl : cv_ M (s + 7) = aTl_ (zT_ Z) := k.1.1.2.1.1
  obtain ⟨s1, s2⟩ := c_stm kx h.2 vA vP
  obtain ⟨⟨c1, c2⟩, _⟩ := cX_row kx h.2 vA vP
  refine ct_I_waste (sk_x hs h.1.1 h.1.2) es vA p vP ?_
  rw [hl, s1, sm_cg (fun r r0 r1 => s2 r r0 (by have := p.1.2.1; omega)), ← xst_sum _ _ p.1.2.1, c2 _ p.1.2.1 (Int.le_refl _), ← xwa_sum kx h.2 vA vP]
  exact hR
theorem ct_X_worst {i : Int} {Z : ab_Z} {s : Nat} {M : mm_M} {R : Int → mm_M → Prop} {bd : Int} (k : cZ_ M s Z) (j : jZ_ bd Z) (h : ix_ i Z) (hR : R (wo_ (xsr_ (aTl_ (zT_ Z)) (aTX_ (zT_ Z) i)) (xn_ (aTX_ (zT_ Z) i)).toNat).1 M) : nr_Pile_worst (s + 90 + 15 * i.toNat + 8) (s + 7) M R := by
  have kx := k.1.2.2 i h.1.1 h.1.2
  obtain ⟨vA, vK, vP⟩ := jX_vl (j.1.2.2.2.2 i h.1.1 h.1.2) h.2
  obtain ⟨_, _, es, _, p, _⟩ := kx.2.2 h.2
  have hl : cv_ M (s + 7) = aTl_ (zT_ Z) := k.1.1.2.1.1
  obtain ⟨s1, s2⟩ := c_stm kx h.2 vA vP
  refine ct_P_worst p vP ?_
  rw [hl, wo_cg (fun r r0 r1 => s2 r r0 (by have := p.1.2.1; omega))]
  exact hR
