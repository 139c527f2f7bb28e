/-! the Model's tokens -/
theorem and_255 {x : Int} (h : 0 ≤ x ∧ x ≤ 255) : mm_and x 255 = x := by
  have key : ∀ n : Nat, n < 256 → mm_and (n : Int) 255 = (n : Int) := by decide +kernel
  have := key x.toNat (by omega)
  rw [show ((x.toNat : Nat) : Int) = x by omega] at this
  exact this
def wdv_ (f : Int → Int) (p : Int) : Nat → Int
  | 0 => 0
  | k + 1 => if k < 7 then 27 * wdv_ f p k + f (p + (k : Int)) - 97 + 1 else wdv_ f p k
def dg_ (f : Int → Int) (p : Int) : Nat → Int
  | 0 => 0
  | k + 1 => if k < 2 then 10 * dg_ f p k + f (p + (k : Int)) - 48 else dg_ f p k
theorem wdv_s {f : Int → Int} {p : Int} {k : Nat} (h : k < 7) : wdv_ f p (k + 1) = 27 * wdv_ f p k + f (p + (k : Int)) - 97 + 1 := if_pos h
theorem wdv_c {f : Int → Int} {p : Int} : ∀ {k : Nat}, 7 ≤ k → wdv_ f p k = wdv_ f p 7
  | 0, h => by omega
  | k + 1, h => by
    by_cases z : k + 1 = 7
    · rw [z]
    · have e : wdv_ f p (k + 1) = wdv_ f p k := if_neg (by omega)
      rw [e, wdv_c (by omega)]
theorem dg_s {f : Int → Int} {p : Int} {k : Nat} (h : k < 2) : dg_ f p (k + 1) = 10 * dg_ f p k + f (p + (k : Int)) - 48 := if_pos h
theorem wdv_b {f : Int → Int} {p : Int} {m : Nat} (h : ∀ i : Int, 0 ≤ i → i < m → 97 ≤ f (p + i) ∧ f (p + i) ≤ 122) : ∀ k : Nat, k ≤ m → 0 ≤ wdv_ f p k ∧ wdv_ f p k < 10460353203
  | k, hk => by
    have key : ∀ k : Nat, k ≤ m → k ≤ 7 → 0 ≤ wdv_ f p k ∧ wdv_ f p k < ((27 ^ k : Nat) : Int) := by
      intro k
      induction k with
      | zero => intro _ _; exact ⟨Int.le_refl _, by show (0 : Int) < 1; decide⟩
      | succ k ih =>
        intro h1 h2
        have ih := ih (by omega) (by omega)
        have hd := h (k : Int) (by omega) (by omega)
        rw [wdv_s (by omega), Nat.pow_succ]
        omega
    by_cases z : k ≤ 7
    · have h1 := key k hk z
      have h2 : 27 ^ k ≤ 27 ^ 7 := Nat.pow_le_pow_right (by decide) z
      have h3 : 27 ^ 7 = 10460353203 := by decide
      omega
    · have h1 := key 7 (by omega) (Nat.le_refl _)
      rw [wdv_c (by omega)]
      have h3 : 27 ^ 7 = 10460353203 := by decide
      omega
def mtk_ (f : Int → Int) (n p : Int) : Int := if n ≤ p then 0 else if sb_ (f p) = 1 then 1 else if sb_ (f p) = 2 then (if te_ f n p - p > 2 then 4 else 2) else if f p = 43 ∨ f p = 42 ∨ f p = 60 ∨ f p = 61 ∨ f p = 62 then 3 else 4
def mvl_ (f : Int → Int) (n p : Int) : Int := if n ≤ p then 0 else if sb_ (f p) = 1 then wdv_ f p (te_ f n p - p).toNat else if sb_ (f p) = 2 then dg_ f p (te_ f n p - p).toNat else f p
def mnx_ (f : Int → Int) (n p : Int) : Int := if n ≤ p then p else te_ f n p
/-- what a token is, the same on both sides -/
def tk5_ (tok val K N : Int) : Prop := (tok = 0 ↔ K = 0) ∧ (tok = 2 ↔ K = 1) ∧ (K = 1 → val = N) ∧ ((tok = 1 ∧ 1 ≤ val ∧ val ≤ 4) ↔ K = 2) ∧ (K = 2 → val = N + 1) ∧ ((tok = 1 ∧ val = 79) ↔ K = 3) ∧ ((tok = 1 ∧ val = 12384743) ↔ K = 4) ∧ ((tok = 1 ∧ val = 1111) ↔ K = 5) ∧ ((tok = 1 ∧ val = 308957333) ↔ K = 6) ∧ ((tok = 1 ∧ val = 7017481) ↔ K = 7) ∧ ((tok = 3 ∧ val = 43) ↔ K = 8) ∧ ((tok = 3 ∧ val = 42) ↔ K = 9) ∧ ((tok = 3 ∧ val = 60) ↔ K = 10) ∧ ((tok = 3 ∧ val = 61) ↔ K = 11) ∧ ((tok = 3 ∧ val = 62) ↔ K = 12)
theorem wm_0 {f : Int → Int} {p e : Int} : wmb_ f p e (mm_strs.getD 0 []) = true ↔ e - p = 2 ∧ f (p + 0) = 98 ∧ f (p + 1) = 121 := by
  rw [wmb_t]
  constructor
  · rintro ⟨h1, h2⟩
    exact ⟨h1, h2 0 (by decide) (by decide), h2 1 (by decide) (by decide)⟩
  · rintro ⟨h1, c0, c1⟩
    refine ⟨h1, fun i i0 i1 => ?_⟩
    have i1 : i < 2 := i1
    have hi : i = 0 ∨ i = 1 := by omega
    rcases hi with z | z <;> rw [z]
    · exact c0
    · exact c1
theorem wm_1 {f : Int → Int} {p e : Int} : wmb_ f p e (mm_strs.getD 1 []) = true ↔ e - p = 5 ∧ f (p + 0) = 119 ∧ f (p + 1) = 104 ∧ f (p + 2) = 101 ∧ f (p + 3) = 114 ∧ f (p + 4) = 101 := by
  rw [wmb_t]
  constructor
  · rintro ⟨h1, h2⟩
    exact ⟨h1, h2 0 (by decide) (by decide), h2 1 (by decide) (by decide), h2 2 (by decide) (by decide), h2 3 (by decide) (by decide), h2 4 (by decide) (by decide)⟩
  · rintro ⟨h1, c0, c1, c2, c3, c4⟩
    refine ⟨h1, fun i i0 i1 => ?_⟩
    have i1 : i < 5 := i1
    have hi : i = 0 ∨ i = 1 ∨ i = 2 ∨ i = 3 ∨ i = 4 := by omega
    rcases hi with z | z | z | z | z <;> rw [z]
    · exact c0
    · exact c1
    · exact c2
    · exact c3
    · exact c4
theorem wm_2 {f : Int → Int} {p e : Int} : wmb_ f p e (mm_strs.getD 2 []) = true ↔ e - p = 3 ∧ f (p + 0) = 97 ∧ f (p + 1) = 110 ∧ f (p + 2) = 100 := by
  rw [wmb_t]
  constructor
  · rintro ⟨h1, h2⟩
    exact ⟨h1, h2 0 (by decide) (by decide), h2 1 (by decide) (by decide), h2 2 (by decide) (by decide)⟩
  · rintro ⟨h1, c0, c1, c2⟩
    refine ⟨h1, fun i i0 i1 => ?_⟩
    have i1 : i < 3 := i1
    have hi : i = 0 ∨ i = 1 ∨ i = 2 := by omega
    rcases hi with z | z | z <;> rw [z]
    · exact c0
    · exact c1
    · exact c2
theorem wm_3 {f : Int → Int} {p e : Int} : wmb_ f p e (mm_strs.getD 3 []) = true ↔ e - p = 6 ∧ f (p + 0) = 117 ∧ f (p + 1) = 110 ∧ f (p + 2) = 105 ∧ f (p + 3) = 113 ∧ f (p + 4) = 117 ∧ f (p + 5) = 101 := by
  rw [wmb_t]
  constructor
  · rintro ⟨h1, h2⟩
    exact ⟨h1, h2 0 (by decide) (by decide), h2 1 (by decide) (by decide), h2 2 (by decide) (by decide), h2 3 (by decide) (by decide), h2 4 (by decide) (by decide), h2 5 (by decide) (by decide)⟩
  · rintro ⟨h1, c0, c1, c2, c3, c4, c5⟩
    refine ⟨h1, fun i i0 i1 => ?_⟩
    have i1 : i < 6 := i1
    have hi : i = 0 ∨ i = 1 ∨ i = 2 ∨ i = 3 ∨ i = 4 ∨ i = 5 := by omega
    rcases hi with z | z | z | z | z | z <;> rw [z]
    · exact c0
    · exact c1
    · exact c2
    · exact c3
    · exact c4
    · exact c5
theorem wm_4 {f : Int → Int} {p e : Int} : wmb_ f p e (mm_strs.getD 4 []) = true ↔ e - p = 5 ∧ f (p + 0) = 109 ∧ f (p + 1) = 101 ∧ f (p + 2) = 110 ∧ f (p + 3) = 100 ∧ f (p + 4) = 115 := by
  rw [wmb_t]
  constructor
  · rintro ⟨h1, h2⟩
    exact ⟨h1, h2 0 (by decide) (by decide), h2 1 (by decide) (by decide), h2 2 (by decide) (by decide), h2 3 (by decide) (by decide), h2 4 (by decide) (by decide)⟩
  · rintro ⟨h1, c0, c1, c2, c3, c4⟩
    refine ⟨h1, fun i i0 i1 => ?_⟩
    have i1 : i < 5 := i1
    have hi : i = 0 ∨ i = 1 ∨ i = 2 ∨ i = 3 ∨ i = 4 := by omega
    rcases hi with z | z | z | z | z <;> rw [z]
    · exact c0
    · exact c1
    · exact c2
    · exact c3
    · exact c4
theorem wm_wv {f : Int → Int} {p e : Int} (h0 : 1 ≤ e - p) (h : ∀ i : Int, 0 ≤ i → i < e - p → 97 ≤ f (p + i) ∧ f (p + i) ≤ 122) : (wmb_ f p e (mm_strs.getD 0 []) = true ↔ wdv_ f p (e - p).toNat = 79) ∧ (wmb_ f p e (mm_strs.getD 1 []) = true ↔ wdv_ f p (e - p).toNat = 12384743) ∧ (wmb_ f p e (mm_strs.getD 2 []) = true ↔ wdv_ f p (e - p).toNat = 1111) ∧ (wmb_ f p e (mm_strs.getD 3 []) = true ↔ wdv_ f p (e - p).toNat = 308957333) ∧ (wmb_ f p e (mm_strs.getD 4 []) = true ↔ wdv_ f p (e - p).toNat = 7017481) ∧ ((e - p = 1 ∧ f p - 97 < 4) ↔ (1 ≤ wdv_ f p (e - p).toNat ∧ wdv_ f p (e - p).toNat ≤ 4)) := by
  rw [wm_0, wm_1, wm_2, wm_3, wm_4]
  have z0 : wdv_ f p 0 = 0 := rfl
  have s0 := wdv_s (f := f) (p := p) (k := 0) (by decide)
  have s1 := wdv_s (f := f) (p := p) (k := 1) (by decide)
  have s2 := wdv_s (f := f) (p := p) (k := 2) (by decide)
  have s3 := wdv_s (f := f) (p := p) (k := 3) (by decide)
  have s4 := wdv_s (f := f) (p := p) (k := 4) (by decide)
  have s5 := wdv_s (f := f) (p := p) (k := 5) (by decide)
  have s6 := wdv_s (f := f) (p := p) (k := 6) (by decide)
  have d0 := h 0 (by omega) (by omega)
  have ep : f (p + 0) = f p := by rw [Int.add_zero]
  have s0 : wdv_ f p 1 = 27 * wdv_ f p 0 + f (p + 0) - 97 + 1 := s0
  have s1 : wdv_ f p 2 = 27 * wdv_ f p 1 + f (p + 1) - 97 + 1 := s1
  have s2 : wdv_ f p 3 = 27 * wdv_ f p 2 + f (p + 2) - 97 + 1 := s2
  have s3 : wdv_ f p 4 = 27 * wdv_ f p 3 + f (p + 3) - 97 + 1 := s3
  have s4 : wdv_ f p 5 = 27 * wdv_ f p 4 + f (p + 4) - 97 + 1 := s4
  have s5 : wdv_ f p 6 = 27 * wdv_ f p 5 + f (p + 5) - 97 + 1 := s5
  have s6 : wdv_ f p 7 = 27 * wdv_ f p 6 + f (p + 6) - 97 + 1 := s6
  rw [ep] at d0 s0 ⊢
  by_cases m1 : e - p = 1
  · rw [show (e - p).toNat = 1 by omega]
    clear h
    refine ⟨⟨fun y => by omega, fun y => by omega⟩, ⟨fun y => by omega, fun y => by omega⟩, ⟨fun y => by omega, fun y => by omega⟩, ⟨fun y => by omega, fun y => by omega⟩, ⟨fun y => by omega, fun y => by omega⟩, ⟨fun y => by omega, fun y => by omega⟩⟩
  by_cases m2 : e - p = 2
  · rw [show (e - p).toNat = 2 by omega]
    have d1 := h 1 (by omega) (by omega)
    clear h
    refine ⟨⟨fun y => by omega, fun y => ?_⟩, ⟨fun y => by omega, fun y => by omega⟩, ⟨fun y => by omega, fun y => by omega⟩, ⟨fun y => by omega, fun y => by omega⟩, ⟨fun y => by omega, fun y => by omega⟩, ⟨fun y => by omega, fun y => by omega⟩⟩
    · have q2 : wdv_ f p 2 = 79 := y
      have q1 : wdv_ f p 1 = 2 := by omega
      exact ⟨m2, by omega, by omega⟩
  by_cases m3 : e - p = 3
  · rw [show (e - p).toNat = 3 by omega]
    have d1 := h 1 (by omega) (by omega)
    have d2 := h 2 (by omega) (by omega)
    clear h
    refine ⟨⟨fun y => by omega, fun y => by omega⟩, ⟨fun y => by omega, fun y => by omega⟩, ⟨fun y => by omega, fun y => ?_⟩, ⟨fun y => by omega, fun y => by omega⟩, ⟨fun y => by omega, fun y => by omega⟩, ⟨fun y => by omega, fun y => by omega⟩⟩
    · have q3 : wdv_ f p 3 = 1111 := y
      have q2 : wdv_ f p 2 = 41 := by omega
      have q1 : wdv_ f p 1 = 1 := by omega
      exact ⟨m3, by omega, by omega, by omega⟩
  by_cases m4 : e - p = 4
  · rw [show (e - p).toNat = 4 by omega]
    have d1 := h 1 (by omega) (by omega)
    have d2 := h 2 (by omega) (by omega)
    have d3 := h 3 (by omega) (by omega)
    clear h
    refine ⟨⟨fun y => by omega, fun y => by omega⟩, ⟨fun y => by omega, fun y => by omega⟩, ⟨fun y => by omega, fun y => by omega⟩, ⟨fun y => by omega, fun y => by omega⟩, ⟨fun y => by omega, fun y => by omega⟩, ⟨fun y => by omega, fun y => by omega⟩⟩
  by_cases m5 : e - p = 5
  · rw [show (e - p).toNat = 5 by omega]
    have d1 := h 1 (by omega) (by omega)
    have d2 := h 2 (by omega) (by omega)
    have d3 := h 3 (by omega) (by omega)
    have d4 := h 4 (by omega) (by omega)
    clear h
    refine ⟨⟨fun y => by omega, fun y => by omega⟩, ⟨fun y => by omega, fun y => ?_⟩, ⟨fun y => by omega, fun y => by omega⟩, ⟨fun y => by omega, fun y => by omega⟩, ⟨fun y => by omega, fun y => ?_⟩, ⟨fun y => by omega, fun y => by omega⟩⟩
    · have q5 : wdv_ f p 5 = 12384743 := y
      have q4 : wdv_ f p 4 = 458694 := by omega
      have q3 : wdv_ f p 3 = 16988 := by omega
      have q2 : wdv_ f p 2 = 629 := by omega
      have q1 : wdv_ f p 1 = 23 := by omega
      exact ⟨m5, by omega, by omega, by omega, by omega, by omega⟩
    · have q5 : wdv_ f p 5 = 7017481 := y
      have q4 : wdv_ f p 4 = 259906 := by omega
      have q3 : wdv_ f p 3 = 9626 := by omega
      have q2 : wdv_ f p 2 = 356 := by omega
      have q1 : wdv_ f p 1 = 13 := by omega
      exact ⟨m5, by omega, by omega, by omega, by omega, by omega⟩
  by_cases m6 : e - p = 6
  · rw [show (e - p).toNat = 6 by omega]
    have d1 := h 1 (by omega) (by omega)
    have d2 := h 2 (by omega) (by omega)
    have d3 := h 3 (by omega) (by omega)
    have d4 := h 4 (by omega) (by omega)
    have d5 := h 5 (by omega) (by omega)
    clear h
    refine ⟨⟨fun y => by omega, fun y => by omega⟩, ⟨fun y => by omega, fun y => by omega⟩, ⟨fun y => by omega, fun y => by omega⟩, ⟨fun y => by omega, fun y => ?_⟩, ⟨fun y => by omega, fun y => by omega⟩, ⟨fun y => by omega, fun y => by omega⟩⟩
    · have q6 : wdv_ f p 6 = 308957333 := y
      have q5 : wdv_ f p 5 = 11442864 := by omega
      have q4 : wdv_ f p 4 = 423809 := by omega
      have q3 : wdv_ f p 3 = 15696 := by omega
      have q2 : wdv_ f p 2 = 581 := by omega
      have q1 : wdv_ f p 1 = 21 := by omega
      exact ⟨m6, by omega, by omega, by omega, by omega, by omega, by omega⟩
  have c7 := wdv_c (f := f) (p := p) (k := (e - p).toNat) (by omega)
  rw [c7]
  have d1 := h 1 (by omega) (by omega)
  have d2 := h 2 (by omega) (by omega)
  have d3 := h 3 (by omega) (by omega)
  have d4 := h 4 (by omega) (by omega)
  have d5 := h 5 (by omega) (by omega)
  have d6 := h 6 (by omega) (by omega)
  clear h
  refine ⟨⟨fun y => by omega, fun y => by omega⟩, ⟨fun y => by omega, fun y => by omega⟩, ⟨fun y => by omega, fun y => by omega⟩, ⟨fun y => by omega, fun y => by omega⟩, ⟨fun y => by omega, fun y => by omega⟩, ⟨fun y => by omega, fun y => by omega⟩⟩
theorem dg_2 {f : Int → Int} {p : Int} : dg_ f p 1 = f p - 48 ∧ dg_ f p 2 = 10 * (f p - 48) + (f (p + 1) - 48) := by
  have h1 : dg_ f p 1 = 10 * 0 + f (p + ((0 : Nat) : Int)) - 48 := rfl
  have h2 : dg_ f p 2 = 10 * dg_ f p 1 + f (p + ((1 : Nat) : Int)) - 48 := rfl
  rw [show ((0 : Nat) : Int) = 0 from rfl, Int.add_zero] at h1
  rw [show ((1 : Nat) : Int) = 1 from rfl] at h2
  omega
/-- both sides' tokens -/
theorem tk5_of {f : Int → Int} {n p : Int} (hp : p < n → sb_ (f p) ≠ 0) : tk5_ (mtk_ f n p) (mvl_ f n p) (kd_ f n p) (nb_ f n p) := by
  unfold mtk_ mvl_ kd_ nb_ tk5_
  by_cases a : n ≤ p
  · rw [if_pos a, if_pos a, if_pos a]
    omega
  rw [if_neg a, if_neg a, if_neg a]
  have hp := hp (by omega)
  obtain ⟨e0, e1, e2, e3⟩ := te_in (f := f) (show p < n by omega)
  by_cases b : sb_ (f p) = 1
  · rw [if_pos b, if_pos b, if_pos b, if_pos b]
    have hl : ∀ i : Int, 0 ≤ i → i < te_ f n p - p → 97 ≤ f (p + i) ∧ f (p + i) ≤ 122 := by
      intro i i0 i1
      have e4 : sb_ (f (p + i)) = 1 := by
        by_cases z : i = 0
        · rw [z, Int.add_zero]; exact b
        · rw [(e2 (p + i) (by omega) (by omega)).1]; exact b
      have := sb_c (f (p + i))
      omega
    obtain ⟨w0, w1, w2, w3, w4, w5⟩ := wm_wv (f := f) (p := p) (e := te_ f n p) (by omega) hl
    have h0 := hl 0 (by omega) (by omega)
    have l0 : te_ f n p - p = 1 → wdv_ f p (te_ f n p - p).toNat = f p - 96 := by
      intro y
      rw [y]
      have : wdv_ f p 1 = 27 * 0 + f (p + ((0 : Nat) : Int)) - 97 + 1 := rfl
      rw [show ((0 : Nat) : Int) = 0 from rfl, Int.add_zero] at this
      show wdv_ f p 1 = f p - 96
      omega
    generalize wdv_ f p (te_ f n p - p).toNat = v at *
    unfold wkd_
    by_cases y : te_ f n p - p = 1 ∧ f p - 97 < 4
    · rw [if_pos y]
      have := w5.mp y
      have := l0 y.1
      omega
    rw [if_neg y]
    have y5 : ¬ (1 ≤ v ∧ v ≤ 4) := fun q => y (w5.mpr q)
    by_cases y0 : wmb_ f p (te_ f n p) (mm_strs.getD 0 []) = true
    · rw [if_pos y0]; have := w0.mp y0; omega
    rw [if_neg y0]
    have y0 : v ≠ 79 := fun q => y0 (w0.mpr q)
    by_cases y1 : wmb_ f p (te_ f n p) (mm_strs.getD 1 []) = true
    · rw [if_pos y1]; have := w1.mp y1; omega
    rw [if_neg y1]
    have y1 : v ≠ 12384743 := fun q => y1 (w1.mpr q)
    by_cases y2 : wmb_ f p (te_ f n p) (mm_strs.getD 2 []) = true
    · rw [if_pos y2]; have := w2.mp y2; omega
    rw [if_neg y2]
    have y2 : v ≠ 1111 := fun q => y2 (w2.mpr q)
    by_cases y3 : wmb_ f p (te_ f n p) (mm_strs.getD 3 []) = true
    · rw [if_pos y3]; have := w3.mp y3; omega
    rw [if_neg y3]
    have y3 : v ≠ 308957333 := fun q => y3 (w3.mpr q)
    by_cases y4 : wmb_ f p (te_ f n p) (mm_strs.getD 4 []) = true
    · rw [if_pos y4]; have := w4.mp y4; omega
    rw [if_neg y4]
    have y4 : v ≠ 7017481 := fun q => y4 (w4.mpr q)
    omega
  rw [if_neg b, if_neg b, if_neg b, if_neg b]
  by_cases c : sb_ (f p) = 3
  · rw [if_pos c, if_pos c, if_neg (show ¬ sb_ (f p) = 2 by omega), if_neg (show ¬ sb_ (f p) = 2 by omega)]
    unfold nf_Reader_sign
    by_cases c1 : f p = 42
    · rw [if_pos (by omega), if_pos c1]; omega
    by_cases c2 : f p = 43
    · rw [if_pos (by omega), if_neg c1, if_pos c2]; omega
    by_cases c3 : f p = 60
    · rw [if_pos (by omega), if_neg c1, if_neg c2, if_pos c3]; omega
    by_cases c4 : f p = 61
    · rw [if_pos (by omega), if_neg c1, if_neg c2, if_neg c3, if_pos c4]; omega
    by_cases c5 : f p = 62
    · rw [if_pos (by omega), if_neg c1, if_neg c2, if_neg c3, if_neg c4, if_pos c5]; omega
    rw [if_neg (by omega), if_neg c1, if_neg c2, if_neg c3, if_neg c4, if_neg c5]; omega
  have d : sb_ (f p) = 2 := by
    have := sb_c (f p)
    omega
  rw [if_neg c, if_neg c, if_pos d, if_pos d]
  obtain ⟨g1, g2⟩ := dg_2 (f := f) (p := p)
  by_cases m : te_ f n p - p > 2
  · rw [if_pos m, if_pos m, if_pos m]; omega
  rw [if_neg m, if_neg m, if_neg m]
  by_cases m1 : te_ f n p - p = 1
  · rw [if_pos m1, m1]
    show _ ∧ _ ∧ (_ → dg_ f p 1 = _) ∧ ((_ ∧ 1 ≤ dg_ f p 1 ∧ dg_ f p 1 ≤ 4) ↔ _) ∧ (_ → dg_ f p 1 = _) ∧ _
    rw [g1]
    have e : dg_ f p ((1 : Int).toNat) = f p - 48 := g1
    omega
  · rw [if_neg m1, show te_ f n p - p = 2 by omega]
    have e : dg_ f p ((2 : Int).toNat) = 10 * (f p - 48) + (f (p + 1) - 48) := g2
    omega
