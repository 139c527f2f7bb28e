/-! entry, both sides -/
theorem ct_iv {p : Int → Bool} {a b : Int} : ∀ m : Nat, 0 ≤ a → a ≤ b → (∀ e : Int, 0 ≤ e → e < m → (p e = true ↔ a ≤ e ∧ e < b)) → ct_ p 0 m = min b m - min a m
  | 0, h0, hb, _ => by show (0 : Int) = min b 0 - min a 0; omega
  | m + 1, h0, hb, h => by
    have ih := ct_iv m h0 hb (fun e e0 e1 => h e e0 (by omega))
    have hm := h m (by omega) (by omega)
    show ct_ p 0 m + (if p (0 + (m : Int)) = true then 1 else 0) = _
    rw [show (0 : Int) + (m : Int) = (m : Int) by omega, ih]
    by_cases z : p m = true
    · rw [if_pos z]
      have := hm.mp z
      omega
    · rw [if_neg z]
      have : ¬ (a ≤ (m : Int) ∧ (m : Int) < b) := fun w => z (hm.mpr w)
      omega
/-- where the entries of run number r (0: MEMORY) begin, how many they are -/
noncomputable def xs_0 (X : ab_X) (r : Int) : Int := if r = 0 then 0 else xt_ X (r - 1)
noncomputable def xz_ (X : ab_X) (r : Int) : Int := if r = 0 then cz_ (xA_ X) else cz_ (xg_ X (r - 1)).2.2.2.2
theorem pz_s {g : Int → ab_P} {r : Int} (h : 0 ≤ r) : pz_ g (r + 1) = pz_ g r + cz_ (g r).2.2.2.2 := by
  unfold pz_
  rw [show (r + 1).toNat = r.toNat + 1 by omega, sm_s, show ((r.toNat : Nat) : Int) = r by omega]
theorem pz_0 (g : Int → ab_P) : pz_ g 0 = 0 := rfl
theorem xt_s {X : ab_X} {r : Int} (h : 0 ≤ r) : xt_ X r = xs_0 X r + xz_ X r := by
  unfold xs_0 xz_ xt_
  by_cases z : r = 0
  · rw [if_pos z, if_pos z, z, pz_0]; omega
  · rw [if_neg z, if_neg z]
    have := pz_s (g := xg_ X) (r := r - 1) (by omega)
    rw [show r - 1 + 1 = r by omega] at this
    omega
theorem xs_nn {X : ab_X} {r : Int} (h : 0 ≤ r) : 0 ≤ xs_0 X r ∧ 0 ≤ xz_ X r := by
  unfold xs_0 xz_ xt_
  by_cases z : r = 0
  · rw [if_pos z, if_pos z]
    exact ⟨Int.le_refl _, cz_nn _⟩
  · rw [if_neg z, if_neg z]
    have := cz_nn (xA_ X)
    have := pz_nn (xg_ X) (r - 1)
    exact ⟨by omega, cz_nn _⟩
/-- which entries have run number r, a lesser one -/
theorem eX_run {X : ab_X} (I : iE_ (sz_ X) (eX_ X) (xn_ X) (xg_ X) (xA_ X)) (h : hE_ (sz_ X) (eX_ X)) (vA : ∀ y, xA_ X y → ve_ y) (vP : vl_ (xn_ X) (xg_ X)) {r : Int} (hr : 0 ≤ r ∧ r ≤ xn_ X) : xs_0 X r + xz_ X r ≤ sz_ X ∧ ∀ e, 0 ≤ e → e < sz_ X → (eX_ X e / 4503599627370496 = r ↔ xs_0 X r ≤ e ∧ e < xs_0 X r + xz_ X r) ∧ (eX_ X e / 4503599627370496 < r ↔ e < xs_0 X r) := by
  obtain ⟨d1, d2⟩ := iE_div (sz_nn X) I h vA vP hr
  have e1 := xt_s (X := X) hr.1
  unfold xt_ at e1
  rw [e1] at d1 d2
  refine ⟨d1, fun e e0 e2 => ?_⟩
  have h2 := d2 e e0 e2
  have h3 := (h e e0 e2).1
  by_cases z : r = 0
  · have : xs_0 X r = 0 := if_pos z
    rw [this] at h2 ⊢
    omega
  · obtain ⟨_, d3⟩ := iE_div (sz_nn X) I h vA vP (r := r - 1) ⟨by omega, by omega⟩
    have e3 : xs_0 X r = cz_ (xA_ X) + pz_ (xg_ X) (r - 1) := if_neg z
    have h4 := d3 e e0 e2
    rw [← e3] at h4
    omega
def eok_ (i run k what : Int) (Z : ab_Z) : Prop := ix_ i Z ∧ (-1 ≤ run ∧ run < xn_ (aTX_ (zT_ Z) i)) ∧ (0 ≤ k ∧ k < xz_ (aTX_ (zT_ Z) i) (run + 1)) ∧ 0 ≤ what ∧ what ≤ 4
noncomputable def enta_ (i run k what : Int) (Z : ab_Z) : Int := teY_ (zT_ Z) (aTX_ (zT_ Z) i) (eX_ (aTX_ (zT_ Z) i) (xs_0 (aTX_ (zT_ Z) i) (run + 1) + k)) what
theorem ct_LI_entry {bd i run k what : Int} {Z : ab_Z} {M : mm_M} {R : Int → mm_M → Prop} (hrun : -2147483648 ≤ run ∧ run < 2147483648) (kz : cZ_ M 2 Z) (j : jZ_ bd Z) (h1 : eok_ i run k what Z → R (enta_ i run k what Z) M) (h0 : ¬ eok_ i run k what Z → R (-2) M) : nr_LI_entry i run k what M R := by
  refine ng_LI_entry _ _ _ _ _ _ ?_
  refine ct_S_find kz (fun z => ?_) (fun z => ?_)
  · exact ⟨fun _ => h0 (fun w => z w.1), fun w => absurd rfl w⟩
  refine ⟨fun w => by omega, fun _ => ⟨fun k0 => ?_, fun w => h0 (fun v => by have := v.2.2.1.1; omega)⟩⟩
  have hi := z.1
  have jx := j.1.2.2.2.2 i hi.1 hi.2
  obtain ⟨vA, vK, vP⟩ := jX_vl jx z.2
  have kx := kz.1.2.2 i hi.1 hi.2
  obtain ⟨⟨c1, c2⟩, ⟨c3, c4⟩, c5, c6⟩ := cX_row kx z.2 vA vP
  obtain ⟨_, _, es, _, p, _⟩ := kx.2.2 z.2
  have hn := p.1.2
  have e5 : nn_rf M (2 + 90 + 15 * i.toNat + 8) 5 = xn_ (aTX_ (zT_ Z) i) := p.1.1
  have k6 : nn_rf M 5 6 = aTs_ (zT_ Z) := kz.1.2.1.1
  have hk : xk_ (2 + 90 + 15 * i.toNat) := sk_x (s := 2) (Or.inl rfl) hi.1 hi.2
  have what_out : ¬ (0 ≤ what ∧ what ≤ 4) → ∀ y, teY_ (zT_ Z) (aTX_ (zT_ Z) i) y what = -2 := by
    intro w y
    unfold teY_
    rw [if_neg (by omega), if_neg (by omega), if_neg (by omega), if_neg (by omega), if_neg (by omega)]
  have fin : ∀ r : Int, r = run → eok_ i r k what Z ∨ (¬ (0 ≤ what ∧ what ≤ 4)) → R (teY_ (zT_ Z) (aTX_ (zT_ Z) i) (eX_ (aTX_ (zT_ Z) i) (xs_0 (aTX_ (zT_ Z) i) (run + 1) + k)) what) M := by
    intro r er w
    rw [er] at w
    rcases w with w | w
    · exact h1 w
    · rw [what_out w]
      exact h0 (fun v => w v.2.2.2)
  refine ⟨fun w => ?_, fun w => ?_⟩
  · -- a run
    rw [e5]
    have e10 : ∀ r, 0 ≤ r → r ≤ xn_ (aTX_ (zT_ Z) i) → nn_ri M (2 + 90 + 15 * i.toNat + 10) r = pz_ (xg_ (aTX_ (zT_ Z) i)) r := c2
    have szr : 0 ≤ run → run < xn_ (aTX_ (zT_ Z) i) → nf_Pile_sizeOf (2 + 90 + 15 * i.toNat + 8) run M = xz_ (aTX_ (zT_ Z) i) (run + 1) ∧ pz_ (xg_ (aTX_ (zT_ Z) i)) run + xz_ (aTX_ (zT_ Z) i) (run + 1) ≤ 144 ∧ 0 ≤ pz_ (xg_ (aTX_ (zT_ Z) i)) run := by
      intro r0 r1
      have e1 := pz_s (g := xg_ (aTX_ (zT_ Z) i)) r0
      have e2 : xz_ (aTX_ (zT_ Z) i) (run + 1) = cz_ (xg_ (aTX_ (zT_ Z) i) run).2.2.2.2 := by
        unfold xz_
        rw [if_neg (by omega), show run + 1 - 1 = run by omega]
      have le := pm_le p (a := run) (b := run + 1) r0 (by omega) (by omega)
      rw [show 2 + 90 + 15 * i.toNat + 8 + 2 = 2 + 90 + 15 * i.toNat + 10 by omega, e10 _ r0 (by omega), e10 _ (by omega) (by omega)] at le
      unfold nf_Pile_sizeOf
      rw [mm_w_id (x := run + 1) (by omega), show 2 + 90 + 15 * i.toNat + 8 + 2 = 2 + 90 + 15 * i.toNat + 10 by omega, e10 _ r0 (by omega), e10 _ (by omega) (by omega), mm_w_id (by omega), e2]
      omega
    refine ⟨fun v => ⟨by rw [mm_w_id (by omega)]; omega, by omega⟩, fun v => by omega, fun v => ?_, fun v => by omega, fun v => h0 (fun u => ?_), fun v => ?_⟩
    · obtain ⟨s1, s2, s3⟩ := szr v.1 v.2.1
      have v3 := v.2.2
      rw [s1] at v3
      rw [e10 _ v.1 (by omega), mm_w_id (by omega)]
      omega
    · obtain ⟨u1, u2, u3, u4⟩ := u
      rcases v with v | v | v
      · omega
      · omega
      · rw [(szr (by omega) u2.2).1] at v; omega
    · obtain ⟨s1, s2, s3⟩ := szr v.1 v.2.1
      have v3 := v.2.2
      rw [s1] at v3
      rw [e10 _ v.1 (by omega), mm_w_id (by omega)]
      have rp := p.2.2.1 run v.1 v.2.1
      have c6 := c6 run v.1 v.2.1 (pz_ (xg_ (aTX_ (zT_ Z) i)) run + k) (by omega) (by
        rw [pz_s v.1]
        have : xz_ (aTX_ (zT_ Z) i) (run + 1) = cz_ (xg_ (aTX_ (zT_ Z) i) run).2.2.2.2 := by
          unfold xz_
          rw [if_neg (by omega), show run + 1 - 1 = run by omega]
        omega)
      have exs : xs_0 (aTX_ (zT_ Z) i) (run + 1) + k = cz_ (xA_ (aTX_ (zT_ Z) i)) + (pz_ (xg_ (aTX_ (zT_ Z) i)) run + k) := by
        unfold xs_0 xt_
        rw [if_neg (by omega), show run + 1 - 1 = run by omega]; omega
      have hve : ve_ (nn_ri M (2 + 90 + 15 * i.toNat + 9) (pz_ (xg_ (aTX_ (zT_ Z) i)) run + k)) := by
        have rs := p.2.2.2 run v.1 v.2.1 (by omega)
        have e9 : 2 + 90 + 15 * i.toNat + 8 + 1 = 2 + 90 + 15 * i.toNat + 9 := by omega
        have e10' : 2 + 90 + 15 * i.toNat + 8 + 2 = 2 + 90 + 15 * i.toNat + 10 := by omega
        rw [e9, e10', e10 _ v.1 (by omega), e10 _ (by omega) (by omega), pz_s v.1] at rs
        have : xz_ (aTX_ (zT_ Z) i) (run + 1) = cz_ (xg_ (aTX_ (zT_ Z) i) run).2.2.2.2 := by
          unfold xz_
          rw [if_neg (by omega), show run + 1 - 1 = run by omega]
        exact vP run v.1 v.2.1 _ ((rs.2 _).mp ⟨pz_ (xg_ (aTX_ (zT_ Z) i)) run + k, by omega, by omega, rfl⟩)
      have erep : nn_ri M (2 + 90 + 15 * i.toNat + 12) run = (xg_ (aTX_ (zT_ Z) i) run).2.2.2.1 := rp.2.2.1
      refine ct_LI_toldEntry (X := aTX_ (zT_ Z) i) (r := run + 1) (y := (run + 1) * 4503599627370496 + nn_ri M (2 + 90 + 15 * i.toNat + 9) (pz_ (xg_ (aTX_ (zT_ Z) i)) run + k)) kz hve (by omega) rfl (by rw [if_neg (by omega), show run + 1 - 1 = run by omega, erep]) ?_
      rw [← c6, ← exs]
      refine fin run rfl ?_
      by_cases hw : 0 ≤ what ∧ what ≤ 4
      · exact Or.inl ⟨z, ⟨by omega, v.2.1⟩, ⟨k0, v3⟩, hw⟩
      · exact Or.inr hw
  · -- MEMORY
    have exz : xz_ (aTX_ (zT_ Z) i) (run + 1) = cz_ (xA_ (aTX_ (zT_ Z) i)) := if_pos (by omega)
    have exs : xs_0 (aTX_ (zT_ Z) i) (run + 1) = 0 := if_pos (by omega)
    rw [c1]
    refine ⟨fun v => h0 (fun u => ?_), fun v => ⟨?_, ?_⟩⟩
    · have := u.2.2.1.2
      rw [exz] at this
      omega
    · have h12 := kd12 hk
      have := es.2.1
      rw [c1] at this
      have this : cz_ (xA_ (aTX_ (zT_ Z) i)) ≤ ((mm_kd (2 + 90 + 15 * i.toNat + 5)).2 : Int) := this
      omega
    · have c5 := c5 k k0 v
      have hve : ve_ (nn_ri M (2 + 90 + 15 * i.toNat + 5) k) := vA _ (es.2.2.1 k k0 (by rw [c1]; exact v))
      refine ct_LI_toldEntry (X := aTX_ (zT_ Z) i) (r := 0) (y := nn_ri M (2 + 90 + 15 * i.toNat + 5) k) kz hve (by omega) (by omega) (by rw [if_pos rfl]; exact k6) ?_
      have fin := fin run rfl (by
        by_cases hw : 0 ≤ what ∧ what ≤ 4
        · exact Or.inl ⟨z, ⟨by omega, by omega⟩, ⟨k0, by rw [exz]; exact v⟩, hw⟩
        · exact Or.inr hw)
      rw [exs, show 0 + k = k by omega, ← c5] at fin
      exact fin
theorem ct_M_entry {bd i run k what : Int} {Z : ab_Z} {M : mm_M} {R : Int → mm_M → Prop} (hrun : -2147483648 ≤ run ∧ run < 2147483648) (kz : mY_ bd M 0 Z) (j : jZ_ bd Z) (h1 : eok_ i run k what Z → R (enta_ i run k what Z) M) (h0 : ¬ eok_ i run k what Z → R (-2) M) : nr_M_entry i run k what M R := by
  obtain ⟨m1, m2⟩ := m_isIndex (i := i) kz j
  have bnd : ix_ i Z → 1784 ≤ xi_ 0 i ∧ xi_ 0 i + 855 ≤ 5204 := fun w => by have := w.1; unfold xi_; omega
  have own : ix_ i Z → nn_ri M 408 (mm_w (nf_M_at 0 i + 5)) = xn_ (aTX_ (zT_ Z) i) ∧ 0 ≤ xn_ (aTX_ (zT_ Z) i) ∧ xn_ (aTX_ (zT_ Z) i) ≤ 23 := by
    intro w
    have hx := bnd w
    obtain ⟨_, _, _, d, _⟩ := (kz.1.1.2.2 i w.1.1 w.1.2).2 w.2
    rw [at0 w.1, mm_w_id (by omega)]
    exact ⟨d.1, d.2.1, d.2.2.1⟩
  refine ng_M_entry _ _ _ _ _ _ ⟨m1, fun w => ?_, fun w => h0 (fun v => ?_), fun w => ?_⟩
  · have hx := bnd (m2.mp w.1)
    rw [at0 (m2.mp w.1).1, mm_w_id (by omega)]; omega
  · obtain ⟨v1, v2, v3, v4⟩ := v
    rw [(own v1).1] at w
    rcases w with w | w | w | w
    · exact absurd w (m2.mpr v1)
    · omega
    · exact absurd v4 (k_in0.mp w)
    · omega
  · obtain ⟨w1, w2, w3, w4⟩ := w
    have z := m2.mp w1
    have hi := z.1
    have hx := bnd z
    obtain ⟨o1, o2, o3⟩ := own z
    rw [o1] at w4
    have hw := k_in.mp w3
    have jx := j.1.2.2.2.2 i hi.1 hi.2
    obtain ⟨vA, vK, vP⟩ := jX_vl jx z.2
    have kx := kz.1.1.2.2 i hi.1 hi.2
    obtain ⟨e, I, hE⟩ := mX_row kx z.2 vA vP
    obtain ⟨_, _, _, d, _⟩ := kx.2 z.2
    obtain ⟨r1, r2⟩ := eX_run I hE vA vP (r := run + 1) ⟨by omega, by omega⟩
    have xn := xs_nn (X := aTX_ (zT_ Z) i) (r := run + 1) (by omega)
    have hsz := e.2.2.1
    have cnt : ct_ (fun e => eX_ (aTX_ (zT_ Z) i) e / 4503599627370496 == run + 1) 0 (sz_ (aTX_ (zT_ Z) i)).toNat = xz_ (aTX_ (zT_ Z) i) (run + 1) := by
      rw [ct_iv (a := xs_0 (aTX_ (zT_ Z) i) (run + 1)) (b := xs_0 (aTX_ (zT_ Z) i) (run + 1) + xz_ (aTX_ (zT_ Z) i) (run + 1)) _ (by omega) (by omega) (fun e e0 e1 => by
        show (eX_ (aTX_ (zT_ Z) i) e / 4503599627370496 == run + 1) = true ↔ _
        rw [beq_iff_eq]
        exact (r2 e e0 (by omega)).1)]
      omega
    rw [at0 hi, mm_w_id (x := run + 1) (by omega)]
    refine ct_M_entriesOf ⟨by omega, by omega⟩ e ?_
    rw [cnt, k_in, k_in0, mm_w_id (x := xz_ (aTX_ (zT_ Z) i) (run + 1) - 1) (by omega)]
    refine ⟨fun v => ?_, fun v => h0 (fun u => by have := u.2.2.1; omega)⟩
    have h1 := h1 ⟨z, ⟨w2, w4⟩, by omega, hw⟩
    unfold enta_ at h1
    have L : ∀ q : Int, q ≤ sz_ (aTX_ (zT_ Z) i) → 0 ≤ q → nk_M_entry_74 run what (xi_ 0 i) (k + min (xs_0 (aTX_ (zT_ Z) i) (run + 1)) q) q M R := by
      refine lp_up (fun q hq ih q0 => ?_)
      refine ng_M_entry_74 _ _ _ _ _ _ _ ?_
      rw [mm_w_id (x := xi_ 0 i + 6) (by omega), e.1, mm_w_id (x := run + 1) (by omega)]
      refine ⟨by omega, fun c => ?_, fun c => ?_⟩
      · have hp : k + min (xs_0 (aTX_ (zT_ Z) i) (run + 1)) q = xs_0 (aTX_ (zT_ Z) i) (run + 1) + k := by omega
        rw [hp]
        have hp2 : 0 ≤ xs_0 (aTX_ (zT_ Z) i) (run + 1) + k ∧ xs_0 (aTX_ (zT_ Z) i) (run + 1) + k < sz_ (aTX_ (zT_ Z) i) := by omega
        rw [nf_entryAt ⟨by omega, by omega⟩ ⟨by omega, by omega⟩]
        have e4 := e.2.2.2 _ hp2.1 hp2.2
        have hdiv := ((r2 _ hp2.1 hp2.2).1).mpr (by omega)
        generalize xs_0 (aTX_ (zT_ Z) i) (run + 1) + k = s at *
        unfold teY_ at h1
        refine ⟨fun c3 => ⟨fun c4 => ?_, fun c4 => ?_⟩, fun c3 => ?_⟩
        · rw [if_neg (c := what = 0) (by omega), if_neg (c := what = 1) (by omega), if_neg (c := what = 2) (by omega), if_pos (c := what = 3) (by omega)] at h1
          refine ct_M_isStale bk_0 ⟨by omega, by omega⟩ kz.1.1.1 e4 ?_
          show ((if fs_ (aTl_ (zT_ Z)) (eX_ (aTX_ (zT_ Z) i) s % 4503599627370496) = true then (0 : Int) else 1) = 0 → R 0 M) ∧ ((if fs_ (aTl_ (zT_ Z)) (eX_ (aTX_ (zT_ Z) i) s % 4503599627370496) = true then (0 : Int) else 1) ≠ 0 → R 1 M)
          by_cases f : fs_ (aTl_ (zT_ Z)) (eX_ (aTX_ (zT_ Z) i) s % 4503599627370496) = true
          · rw [if_pos f] at h1 ⊢
            exact ⟨fun _ => h1, fun w => absurd rfl w⟩
          · rw [if_neg f] at h1 ⊢
            exact ⟨fun w => absurd w (by decide), fun _ => h1⟩
        · rw [if_neg (c := what = 0) (by omega), if_neg (c := what = 1) (by omega), if_neg (c := what = 2) (by omega), if_neg (c := what = 3) (by omega), if_pos (c := what = 4) c4] at h1
          exact ct_M_looks (T := zT_ Z) (X := aTX_ (zT_ Z) i) ⟨by omega, by omega⟩ ⟨by omega, by omega⟩ kz.1.1.1 j.1.1 e4 d (by omega) h1
        · rw [mm_w_id (x := xi_ 0 i + 215 + 4 * s + 1) (by omega), mm_w_id (x := xi_ 0 i + 215 + 4 * s + 1 + what) (by omega)]
          refine ⟨by omega, ?_⟩
          obtain ⟨y0, y1, y2, y3, y4, y5⟩ := e4
          have hc : what = 0 ∨ what = 1 ∨ what = 2 := by omega
          rcases hc with hc | hc | hc
          · rw [if_pos hc] at h1
            rw [hc, show xi_ 0 i + 215 + 4 * s + 1 + 0 = xi_ 0 i + 215 + 4 * s + 1 by omega, y3]; exact h1
          · rw [if_neg (c := what = 0) (by omega), if_pos hc] at h1
            rw [hc, show xi_ 0 i + 215 + 4 * s + 1 + 1 = xi_ 0 i + 215 + 4 * s + 2 by omega, y4]; exact h1
          · rw [if_neg (c := what = 0) (by omega), if_neg (c := what = 1) (by omega), if_pos hc] at h1
            rw [hc, show xi_ 0 i + 215 + 4 * s + 1 + 2 = xi_ 0 i + 215 + 4 * s + 3 by omega, y5]; exact h1
      · have ih := ih c (by omega)
        have e4 := e.2.2.2 q q0 c
        have hd := (r2 q q0 c).2
        rw [nf_entryAt ⟨by omega, by omega⟩ ⟨by omega, by omega⟩, e4.2.2.1, mm_w_id (x := q + 1) (by omega)]
        refine ⟨by omega, fun y => ?_, fun y => ?_⟩
        · rw [mm_w_id (by omega), show k + min (xs_0 (aTX_ (zT_ Z) i) (run + 1)) q + 0 = k + min (xs_0 (aTX_ (zT_ Z) i) (run + 1)) (q + 1) by omega]
          exact ih
        · rw [mm_w_id (by omega), show k + min (xs_0 (aTX_ (zT_ Z) i) (run + 1)) q + 1 = k + min (xs_0 (aTX_ (zT_ Z) i) (run + 1)) (q + 1) by omega]
          exact ih
    have := L 0 (by omega) (Int.le_refl _)
    rw [show k + min (xs_0 (aTX_ (zT_ Z) i) (run + 1)) 0 = k by omega] at this
    exact this
