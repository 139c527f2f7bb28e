/-! the Model's copies: a block shows what another shows -/
def shf_ (M M' : mm_M) (x y n : Int) : Prop := ∀ k, 0 ≤ k → k < n → nn_ri M' 408 (y + k) = nn_ri M 408 (x + k)
theorem shf_at {M M' : mm_M} {x y n : Int} (h : shf_ M M' x y n) {c d : Int} (k : Int) (hc : c = x + k) (hd : d = y + k) (k0 : 0 ≤ k) (k1 : k < n) : nn_ri M' 408 d = nn_ri M 408 c := by
  rw [hc, hd]; exact h k k0 k1
theorem shf_in {M M' : mm_M} {x y n : Int} (h : shf_ M M' x y n) {a m : Int} (h0 : 0 ≤ a) (h1 : a + m ≤ n) : shf_ M M' (x + a) (y + a) m := by
  intro k k0 k1
  rw [show y + a + k = y + (a + k) by omega, show x + a + k = x + (a + k) by omega]
  exact h _ (by omega) (by omega)
theorem rlM_sh {M M' : mm_M} {x y : Int} {u : ab_U} (h : shf_ M M' x y 855) (k : rlM_ M x u) : rlM_ M' y u := by
  obtain ⟨h1, h2, h3, h4⟩ := k
  have hu := h1.1
  have fo : ∀ f, 0 ≤ f → f ≤ 2 * u.2.2 → 9 ≤ fo_ f ∧ fo_ f + 5 ≤ 47 := by
    intro f f0 f1
    unfold fo_
    split
    · omega
    · split <;> omega
  refine ⟨h1, (shf_at h 8 rfl rfl (by omega) (by omega)).trans h2, fun f f0 f1 => ?_, fun a a0 a1 => ?_⟩
  · have := fo f f0 f1
    obtain ⟨p, q⟩ := h3 f f0 f1
    exact ⟨(shf_at h (fo_ f) rfl rfl (by omega) (by omega)).trans p, fun c c0 c1 => (shf_at h (fo_ f + 1 + c) (by omega) (by omega) (by omega) (by omega)).trans (q c c0 c1)⟩
  · rw [shf_at h (c := x + 14 + 11 * a + 5) (14 + 11 * a + 5) (by omega) (by omega) (by omega) (by omega)]
    exact h4 a a0 a1
theorem kL_sh {M M' : mm_M} {x y j : Int} {K : Int → Prop} (h : shf_ M M' x y 855) (hj : j ≤ 32) (k : kL_ M x j K) : kL_ M' y j K := by
  obtain ⟨e, h1, h2, h3⟩ := k
  refine ⟨e, fun i i0 i1 => ?_, h2, h3⟩
  obtain ⟨v, a, b, c⟩ := h1 i i0 i1
  exact ⟨v, (shf_at h (47 + 3 * i) (by omega) (by omega) (by omega) (by omega)).trans a, (shf_at h (47 + 3 * i + 1) (by omega) (by omega) (by omega) (by omega)).trans b, (shf_at h (47 + 3 * i + 2) (by omega) (by omega) (by omega) (by omega)).trans c⟩
theorem hM_sh {M M' : mm_M} {x y n : Int} {g : Int → ab_P} (h : shf_ M M' x y 855) (k : hM_ M x n g) : hM_ M' y n g := by
  obtain ⟨h1, h2, h3, h4⟩ := k
  refine ⟨(shf_at h 5 rfl rfl (by omega) (by omega)).trans h1, h2, h3, fun r r0 r1 => ?_⟩
  obtain ⟨p, q, s⟩ := h4 r r0 r1
  exact ⟨(shf_at h (143 + 3 * r) (by omega) (by omega) (by omega) (by omega)).trans p, (shf_at h (143 + 3 * r + 1) (by omega) (by omega) (by omega) (by omega)).trans q, (shf_at h (143 + 3 * r + 2) (by omega) (by omega) (by omega) (by omega)).trans s⟩
theorem eM_sh {M M' : mm_M} {x y m : Int} {E : Int → Int} (h : shf_ M M' x y 855) (k : eM_ M x m E) : eM_ M' y m E := by
  obtain ⟨h1, h2, h3, h4⟩ := k
  refine ⟨(shf_at h 6 rfl rfl (by omega) (by omega)).trans h1, h2, h3, fun e e0 e1 => ?_⟩
  exact e4_cg (h4 e e0 e1) (shf_at h (215 + 4 * e) (by omega) (by omega) (by omega) (by omega)) (shf_at h (215 + 4 * e + 1) (by omega) (by omega) (by omega) (by omega)) (shf_at h (215 + 4 * e + 2) (by omega) (by omega) (by omega) (by omega)) (shf_at h (215 + 4 * e + 3) (by omega) (by omega) (by omega) (by omega))
theorem mX_sh {M M' : mm_M} {x y : Int} {X : ab_X} (h : shf_ M M' x y 855) (k : mX_ M x X) : mX_ M' y X := by
  obtain ⟨h0, h1⟩ := k
  refine ⟨(shf_at h 0 (by omega) (by omega) (by omega) (by omega)).trans h0, fun hh => ?_⟩
  obtain ⟨⟨a1, a2, a3, a4, a5, a6, a7⟩, b, c, d, k, E, e, f⟩ := h1 hh
  exact ⟨⟨(shf_at h 1 rfl rfl (by omega) (by omega)).trans a1, (shf_at h 2 rfl rfl (by omega) (by omega)).trans a2, (shf_at h 3 rfl rfl (by omega) (by omega)).trans a3, fun z => (shf_at h 4 rfl rfl (by omega) (by omega)).trans (a4 z), (shf_at h 7 rfl rfl (by omega) (by omega)).trans a5, a6, a7⟩, rlM_sh h b, kL_sh h a7 c, hM_sh h d, k, E, eM_sh h e, f⟩
theorem tM_sh {M M' : mm_M} {b c n : Int} {mem : ab_V} {q : Int → ab_R} (h : shf_ M M' b c 5474) (t : tM_ M b mem n q) : tM_ M' c mem n q := by
  obtain ⟨t1, t2, ⟨t3, n0, n22⟩, t4⟩ := t
  refine ⟨?_, fun k k0 k1 => ?_, ⟨(shf_at h 5 rfl rfl (by omega) (by omega)).trans t3, n0, n22⟩, fun r r0 r1 => ?_⟩
  · rw [← t1]
    exact mv_cg (fun j j0 j1 => shf_at h (24 + j) (by omega) (by omega) (by omega) (by omega))
  · rw [shf_at h (c := b + 24 + k) (24 + k) (by omega) (by omega) (by omega) (by omega)]
    exact t2 k k0 k1
  · obtain ⟨r1', r2, r3, r4, r5, r6⟩ := t4 r r0 r1
    refine ⟨(shf_at h (288 + 68 * r) (by omega) (by omega) (by omega) (by omega)).trans r1', (shf_at h (288 + 68 * r + 1) (by omega) (by omega) (by omega) (by omega)).trans r2, (shf_at h (288 + 68 * r + 2) (by omega) (by omega) (by omega) (by omega)).trans r3, (shf_at h (288 + 68 * r + 3) (by omega) (by omega) (by omega) (by omega)).trans r4, ?_, fun k k0 k1 => ?_⟩
    · rw [← r5]
      exact mv_cg (fun j j0 j1 => shf_at h (288 + 68 * r + 4 + j) (by omega) (by omega) (by omega) (by omega))
    · rw [shf_at h (c := b + 288 + 68 * r + 4 + k) (288 + 68 * r + 4 + k) (by omega) (by omega) (by omega) (by omega)]
      exact r6 k k0 k1
theorem mC_sh {M M' : mm_M} {y z : Int} {D : ab_D} (h : shf_ M M' y z 90) (hm : D.1.2.1 ≤ 32) (hh : D.1.2.2.2.2.1 ≤ 48) (k : mC_ M y D) : mC_ M' z D := by
  obtain ⟨k1, k2, k3, k4, k5, k6⟩ := k
  exact ⟨(shf_at h 0 (by omega) (by omega) (by omega) (by omega)).trans k1, (shf_at h 1 rfl rfl (by omega) (by omega)).trans k2, (shf_at h 2 rfl rfl (by omega) (by omega)).trans k3, fun i i0 i1 => (shf_at h (3 + i) (by omega) (by omega) (by omega) (by omega)).trans (k4 i i0 i1), (shf_at h 35 rfl rfl (by omega) (by omega)).trans k5, fun i i0 i1 => (shf_at h (36 + i) (by omega) (by omega) (by omega) (by omega)).trans (k6 i i0 i1)⟩
theorem mY_sh {M M' : mm_M} {b c bd bd' : Int} {Z : ab_Z} (h : shf_ M M' b c 5474) (j : jZ_ bd' Z) (k : mY_ bd M b Z) : mY_ bd M' c Z := by
  obtain ⟨⟨⟨kt, ⟨k0, k1, k2, k8⟩, kX⟩, ⟨r1, r2, r3⟩⟩, g0, g1⟩ := k
  have hl := j.2.1.2.2.2.2.1.2
  refine ⟨⟨⟨tM_sh h kt, ⟨(shf_at h 0 (by omega) (by omega) (by omega) (by omega)).trans k0, (shf_at h 1 rfl rfl (by omega) (by omega)).trans k1, fun z => (shf_at h 2 rfl rfl (by omega) (by omega)).trans (k2 z), (shf_at h 8 rfl rfl (by omega) (by omega)).trans k8⟩, fun i i0 i1 => ?_⟩, ⟨fun q hq => ?_, fun i i0 i1 => ?_, fun i i0 i1 => ?_⟩⟩, ?_, ?_⟩
  · have kx := kX i i0 i1
    have hh : shf_ M M' (xi_ b i) (xi_ c i) 855 := by
      have := shf_in h (a := 1784 + 855 * i) (m := 855) (by omega) (by omega)
      unfold xi_
      rw [show b + 1784 + 855 * i = b + (1784 + 855 * i) by omega, show c + 1784 + 855 * i = c + (1784 + 855 * i) by omega]
      exact this
    exact mX_sh hh kx
  · exact (shf_at h q rfl rfl (by unfold hd_ at hq; omega) (by unfold hd_ at hq; omega)).trans (r1 q hq)
  · exact (shf_at h (88 + i) (by omega) (by omega) (by omega) (by omega)).trans (r2 i i0 i1)
  · have := j.2.2 i i0 i1
    have hh : shf_ M M' (b + 5204 + 90 * i) (c + 5204 + 90 * i) 90 := by
      have := shf_in h (a := 5204 + 90 * i) (m := 90) (by omega) (by omega)
      rw [show b + 5204 + 90 * i = b + (5204 + 90 * i) by omega, show c + 5204 + 90 * i = c + (5204 + 90 * i) by omega]
      exact this
    exact mC_sh hh this.2.1.2 this.2.2.2.2 (r3 i i0 i1)
  · rw [shf_at h (c := b + 23) 23 rfl rfl (by omega) (by omega)]; exact g0
  · rw [shf_at h (c := b + 23) 23 rfl rfl (by omega) (by omega)]; exact g1
theorem ct_M_copies {b c : Int} {M : mm_M} {R : mm_M → Prop} (hb : bk_ b) (hc : bk_ c) (hd : b + 5474 ≤ c ∨ c + 5474 ≤ b) (h : ∀ M', fr_ (mz_ c) M M' → shf_ M M' b c 5474 → R M') : nr_M_copies b c M R := by
  unfold bk_ at hb hc
  refine ng_M_copies _ _ _ _ ?_
  have L : ∀ k : Int, k ≤ 5474 → 0 ≤ k → ∀ M1, fr_ (mz_ c) M M1 → shf_ M M1 b c k → nk_M_copies_2 b c k M1 R := by
    refine lp_up (fun k hk ih k0 M1 f1 s1 => ?_)
    refine ng_M_copies_2 _ _ _ _ _ ⟨fun d => ?_, fun d => ?_⟩
    · refine h M1 f1 ?_
      rw [show (5474 : Int) = k by omega]; exact s1
    rw [mm_w_id (x := b + k) (by omega), mm_w_id (x := c + k) (by omega), mm_w_id (x := k + 1) (by omega)]
    refine ⟨by omega, by omega, ?_⟩
    intro M2 e2
    refine ih d (by omega) M2 (by rw [e2]; exact fr_ui f1 ⟨rfl, by omega, by omega⟩) (fun q q0 q1 => ?_)
    have hv : nn_ri M1 408 (b + k) = nn_ri M 408 (b + k) := fr_ri f1 (fun y => by have := y.2; omega)
    rw [e2, rd_ii]
    by_cases z : q = k
    · rw [if_pos ⟨rfl, by omega⟩, z]; exact hv
    · rw [if_neg (by omega)]; exact s1 q q0 (by omega)
  exact L 0 (by omega) (Int.le_refl _) M (fr_refl M) (fun q q0 q1 => by omega)
