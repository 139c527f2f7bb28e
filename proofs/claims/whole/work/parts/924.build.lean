/-! a build: what is kept aside, clashes, the end; the class's side -/
def wk_ (X : ab_X) (l : Int) (K : Int → Prop) (j : Int) : ab_X := ((X.1.1, X.1.2.1, X.1.2.2.1, X.1.2.2.2.1, l), X.2.1, X.2.2.1, K, j, X.2.2.2.2.2)
def kp1_ (lat : ab_V) (X : ab_X) : ab_X := if xv_ lat X (xl_ X) = -1 then wk_ X (xl_ X + 1) (xK_ X) (xj_ X) else wk_ X (xl_ X + 1) (fun y => y = en_ (xv_ lat X (xl_ X)) (xl_ X) (sp_ (lat (xl_ X).toNat)) ∨ xK_ X y) (xj_ X + 1)
def kpn_ (lat : ab_V) : Nat → ab_X → ab_X
  | 0, X => X
  | k + 1, X => kp1_ lat (kpn_ lat k X)
theorem kp1_same {lat : ab_V} {X : ab_X} : xh_ (kp1_ lat X) = xh_ X ∧ xq_ (kp1_ lat X) = xq_ X ∧ xm_ (kp1_ lat X) = xm_ X ∧ xb_ (kp1_ lat X) = xb_ X ∧ xl_ (kp1_ lat X) = xl_ X + 1 ∧ xu_ (kp1_ lat X) = xu_ X ∧ xA_ (kp1_ lat X) = xA_ X ∧ xn_ (kp1_ lat X) = xn_ X ∧ xg_ (kp1_ lat X) = xg_ X := by
  unfold kp1_
  by_cases z : xv_ lat X (xl_ X) = -1
  · rw [if_pos z]; exact ⟨rfl, rfl, rfl, rfl, rfl, rfl, rfl, rfl, rfl⟩
  · rw [if_neg z]; exact ⟨rfl, rfl, rfl, rfl, rfl, rfl, rfl, rfl, rfl⟩
theorem kpn_same {lat : ab_V} {X : ab_X} : ∀ k : Nat, xh_ (kpn_ lat k X) = xh_ X ∧ xq_ (kpn_ lat k X) = xq_ X ∧ xm_ (kpn_ lat k X) = xm_ X ∧ xb_ (kpn_ lat k X) = xb_ X ∧ xl_ (kpn_ lat k X) = xl_ X + k ∧ xu_ (kpn_ lat k X) = xu_ X ∧ xA_ (kpn_ lat k X) = xA_ X ∧ xn_ (kpn_ lat k X) = xn_ X ∧ xg_ (kpn_ lat k X) = xg_ X
  | 0 => ⟨rfl, rfl, rfl, rfl, by show xl_ X = xl_ X + ((0 : Nat) : Int); omega, rfl, rfl, rfl, rfl⟩
  | k + 1 => by
    obtain ⟨a1, a2, a3, a4, a5, a6, a7, a8, a9⟩ := kpn_same (lat := lat) (X := X) k
    obtain ⟨b1, b2, b3, b4, b5, b6, b7, b8, b9⟩ := kp1_same (lat := lat) (X := kpn_ lat k X)
    exact ⟨b1.trans a1, b2.trans a2, b3.trans a3, b4.trans a4, (show xl_ (kp1_ lat (kpn_ lat k X)) = _ by rw [b5, a5]; omega), b6.trans a6, b7.trans a7, b8.trans a8, b9.trans a9⟩
/-- what is so of what is kept aside -/
def kq_ (st : Int) (lat : ab_V) (X : ab_X) : Prop := (0 ≤ xj_ X ∧ xj_ X ≤ xl_ X ∧ xl_ X ≤ 32) ∧ ∀ y, xK_ X y → ek_ y < xl_ X ∧ jy_ st lat (xu_ X) y
theorem xv_in {st n : Int} {mem : ab_V} {q : Int → ab_R} {X : ab_X} (d : dT_ st mem n q) (hb : rb_ (xu_ X)) (k : Int) : -1 ≤ xv_ (lk_ mem n q) X k ∧ xv_ (lk_ mem n q) X k ≤ 6000 ∧ (xv_ (lk_ mem n q) X k ≠ -1 → ∃ p, lk_ mem n q k.toNat = some p ∧ p.2 ≠ -1 ∧ (0 ≤ p.2 ∧ p.2 < 65536) ∧ 0 < p.1 ∧ p.1 ≤ st ∧ vk_ (xu_ X) (some p) = xv_ (lk_ mem n q) X k) := by
  unfold xv_
  have hr := lk_rows d k.toNat
  cases h : lk_ mem n q k.toNat with
  | none => exact ⟨by show (-1 : Int) ≤ -1; omega, by show (-1 : Int) ≤ 6000; omega, fun z => absurd rfl z⟩
  | some p =>
    have hp := hr p h
    have hv := va_in hb p.2
    by_cases z : p.2 = -1
    · have e : vk_ (xu_ X) (some p) = -1 := if_pos z
      rw [e]
      exact ⟨by omega, by omega, fun y => absurd rfl y⟩
    · have e : vk_ (xu_ X) (some p) = va_ (xu_ X) p.2 := if_neg z
      refine ⟨by rw [e]; exact hv.1, by rw [e]; exact hv.2, fun _ => ⟨p, rfl, z, hp.1.resolve_left z, hp.2.1, hp.2.2, rfl⟩⟩
theorem kq_kp1 {st n : Int} {mem : ab_V} {q : Int → ab_R} {X : ab_X} (hst : st < 2000000000) (d : dT_ st mem n q) (hb : rb_ (xu_ X)) (hl : 0 ≤ xl_ X ∧ xl_ X < 32) (k : kq_ st (lk_ mem n q) X) : kq_ st (lk_ mem n q) (kp1_ (lk_ mem n q) X) := by
  obtain ⟨⟨k1, k2, k3⟩, k4⟩ := k
  obtain ⟨v1, v2, v3⟩ := xv_in d hb (xl_ X)
  unfold kp1_
  by_cases z : xv_ (lk_ mem n q) X (xl_ X) = -1
  · rw [if_pos z]
    exact ⟨⟨k1, by show xj_ X ≤ xl_ X + 1; omega, by show xl_ X + 1 ≤ 32; omega⟩, fun y hy => ⟨by have := (k4 y hy).1; show ek_ y < xl_ X + 1; omega, (k4 y hy).2⟩⟩
  · rw [if_neg z]
    refine ⟨⟨by show 0 ≤ xj_ X + 1; omega, by show xj_ X + 1 ≤ xl_ X + 1; omega, by show xl_ X + 1 ≤ 32; omega⟩, fun y hy => ?_⟩
    have hy : y = en_ (xv_ (lk_ mem n q) X (xl_ X)) (xl_ X) (sp_ (lk_ mem n q (xl_ X).toNat)) ∨ xK_ X y := hy
    rcases hy with hy | hy
    · obtain ⟨p, p1, p2, p3, p4, p5, p6⟩ := v3 z
      rw [p1] at hy
      have hy : y = en_ (xv_ (lk_ mem n q) X (xl_ X)) (xl_ X) p.1 := hy
      obtain ⟨n1, n2, n3, n4⟩ := en_parts (v := xv_ (lk_ mem n q) X (xl_ X)) (k := xl_ X) (s := p.1) (by omega) hl (by omega)
      rw [hy]
      refine ⟨by rw [n3]; show xl_ X < xl_ X + 1; omega, n1, by rw [n4]; exact ⟨p4, p5⟩, fun p' hp' => ?_⟩
      rw [n3, p1] at hp'
      have hp' := Option.some.inj hp'
      rw [n4, n2, ← hp']
      exact ⟨Int.le_refl _, fun _ => p6.symm⟩
    · exact ⟨by have := (k4 y hy).1; show ek_ y < xl_ X + 1; omega, (k4 y hy).2⟩
theorem kq_kpn {st n : Int} {mem : ab_V} {q : Int → ab_R} {X : ab_X} (hst : st < 2000000000) (d : dT_ st mem n q) (hb : rb_ (xu_ X)) (hl : 0 ≤ xl_ X) (k : kq_ st (lk_ mem n q) X) : ∀ t : Nat, xl_ X + t ≤ 32 → kq_ st (lk_ mem n q) (kpn_ (lk_ mem n q) t X)
  | 0, _ => k
  | t + 1, ht => by
    have hs := kpn_same (lat := lk_ mem n q) (X := X) t
    exact kq_kp1 hst d (by rw [hs.2.2.2.2.2.1]; exact hb) (by rw [hs.2.2.2.2.1]; omega) (kq_kpn hst d hb hl k t (by omega))
/-! clashes -/
theorem cl_char (vv : Int → Int) : ∀ n : Nat, (cl_ vv n = -1 ∧ ∀ k : Int, 0 ≤ k → k < n → vv k ≠ -1 → an_ vv (vv k) k = -1) ∨ (cl_ vv n ≠ -1 ∧ (∃ k : Int, 0 ≤ k ∧ k < n ∧ vv k = cl_ vv n ∧ an_ vv (vv k) k ≠ -1) ∧ ∀ k : Int, 0 ≤ k → k < n → vv k ≠ -1 → an_ vv (vv k) k ≠ -1 → cl_ vv n ≤ vv k)
  | 0 => Or.inl ⟨rfl, fun k h0 h1 => by omega⟩
  | n + 1 => by
    unfold cl_
    rcases cl_char vv n with ⟨e, h⟩ | ⟨e, ⟨k, k0, k1, k2, k3⟩, h⟩
    · by_cases z : (vv n ≠ -1 ∧ (cl_ vv n = -1 ∨ vv n < cl_ vv n)) ∧ an_ vv (vv n) n ≠ -1
      · rw [if_pos z]
        refine Or.inr ⟨z.1.1, ⟨n, by omega, by omega, rfl, z.2⟩, fun k k0 k1 k2 k3 => ?_⟩
        by_cases y : k = (n : Int)
        · rw [y]; exact Int.le_refl _
        · exact absurd (h k k0 (by omega) k2) k3
      · rw [if_neg z]
        refine Or.inl ⟨e, fun k k0 k1 k2 => ?_⟩
        by_cases y : k = (n : Int)
        · rw [y] at k2 ⊢
          by_cases w : an_ vv (vv n) n = -1
          · exact w
          · exact absurd ⟨⟨k2, Or.inl e⟩, w⟩ z
        · exact h k k0 (by omega) k2
    · by_cases z : (vv n ≠ -1 ∧ (cl_ vv n = -1 ∨ vv n < cl_ vv n)) ∧ an_ vv (vv n) n ≠ -1
      · rw [if_pos z]
        refine Or.inr ⟨z.1.1, ⟨n, by omega, by omega, rfl, z.2⟩, fun q q0 q1 q2 q3 => ?_⟩
        by_cases y : q = (n : Int)
        · rw [y]; exact Int.le_refl _
        · have := h q q0 (by omega) q2 q3
          have := z.1.2.resolve_left e
          omega
      · rw [if_neg z]
        refine Or.inr ⟨e, ⟨k, k0, by omega, k2, k3⟩, fun q q0 q1 q2 q3 => ?_⟩
        by_cases y : q = (n : Int)
        · rw [y] at q2 q3 ⊢
          by_cases w : vv n < cl_ vv n
          · exact absurd ⟨⟨q2, Or.inr w⟩, q3⟩ z
          · omega
        · exact h q q0 (by omega) q2 q3
/-- as the Model looks for one -/
def cm_ (vv : Int → Int) : Nat → Int × Int
  | 0 => (-1, -1)
  | k + 1 => if vv k ≠ -1 ∧ (0 ≤ an_ vv (vv k) k ∧ an_ vv (vv k) k ≤ k) ∧ ((cm_ vv k).1 = -1 ∨ vv k < (cm_ vv k).1) then (vv k, (k : Int)) else cm_ vv k
theorem cm_char (vv : Int → Int) : ∀ n : Nat, (cm_ vv n = (-1, -1) ∧ ∀ k : Int, 0 ≤ k → k < n → vv k ≠ -1 → ¬ (0 ≤ an_ vv (vv k) k ∧ an_ vv (vv k) k ≤ k)) ∨ ((cm_ vv n).1 ≠ -1 ∧ (0 ≤ (cm_ vv n).2 ∧ (cm_ vv n).2 < n) ∧ vv (cm_ vv n).2 = (cm_ vv n).1 ∧ (0 ≤ an_ vv (cm_ vv n).1 (cm_ vv n).2 ∧ an_ vv (cm_ vv n).1 (cm_ vv n).2 ≤ (cm_ vv n).2) ∧ ∀ k : Int, 0 ≤ k → k < n → vv k ≠ -1 → (0 ≤ an_ vv (vv k) k ∧ an_ vv (vv k) k ≤ k) → (cm_ vv n).1 ≤ vv k ∧ (vv k = (cm_ vv n).1 → (cm_ vv n).2 ≤ k))
  | 0 => Or.inl ⟨rfl, fun k h0 h1 => by omega⟩
  | n + 1 => by
    unfold cm_
    rcases cm_char vv n with ⟨e, h⟩ | ⟨e, k0, k1, k2, h⟩
    · by_cases z : vv n ≠ -1 ∧ (0 ≤ an_ vv (vv n) n ∧ an_ vv (vv n) n ≤ n) ∧ ((cm_ vv n).1 = -1 ∨ vv n < (cm_ vv n).1)
      · rw [if_pos z]
        refine Or.inr ⟨z.1, ⟨by show (0 : Int) ≤ (n : Int); omega, by show (n : Int) < ((n + 1 : Nat) : Int); omega⟩, rfl, z.2.1, fun q q0 q1 q2 q3 => ?_⟩
        by_cases y : q = (n : Int)
        · rw [y]; exact ⟨Int.le_refl _, fun _ => Int.le_refl _⟩
        · exact absurd q3 (h q q0 (by omega) q2)
      · rw [if_neg z]
        refine Or.inl ⟨e, fun q q0 q1 q2 => ?_⟩
        by_cases y : q = (n : Int)
        · rw [y] at q2 ⊢
          intro w
          exact z ⟨q2, w, Or.inl (by rw [e])⟩
        · exact h q q0 (by omega) q2
    · by_cases z : vv n ≠ -1 ∧ (0 ≤ an_ vv (vv n) n ∧ an_ vv (vv n) n ≤ n) ∧ ((cm_ vv n).1 = -1 ∨ vv n < (cm_ vv n).1)
      · rw [if_pos z]
        refine Or.inr ⟨z.1, ⟨by show (0 : Int) ≤ (n : Int); omega, by show (n : Int) < ((n + 1 : Nat) : Int); omega⟩, rfl, z.2.1, fun q q0 q1 q2 q3 => ?_⟩
        by_cases y : q = (n : Int)
        · rw [y]; exact ⟨Int.le_refl _, fun _ => Int.le_refl _⟩
        · have h1 := h q q0 (by omega) q2 q3
          have h2 := z.2.2.resolve_left e
          exact ⟨by show vv n ≤ vv q; omega, fun w => by have w : vv q = vv n := w; omega⟩
      · rw [if_neg z]
        refine Or.inr ⟨e, ⟨k0.1, by omega⟩, k1, k2, fun q q0 q1 q2 q3 => ?_⟩
        by_cases y : q = (n : Int)
        · rw [y] at q2 q3 ⊢
          by_cases w : vv n < (cm_ vv n).1
          · exact absurd ⟨q2, q3, Or.inr w⟩ z
          · exact ⟨by omega, fun _ => by omega⟩
        · exact h q q0 (by omega) q2 q3
theorem cl_cm (vv : Int → Int) : (cm_ vv 32).1 = cl_ vv 32 ∧ (cl_ vv 32 = -1 → (cm_ vv 32).2 = -1) ∧ (cl_ vv 32 ≠ -1 → (0 ≤ (cm_ vv 32).2 ∧ (cm_ vv 32).2 < 32) ∧ (0 ≤ an_ vv (cl_ vv 32) (-1) ∧ an_ vv (cl_ vv 32) (-1) < 32 ∧ vv (an_ vv (cl_ vv 32) (-1)) = cl_ vv 32) ∧ (cm_ vv 32).2 = an_ vv (cl_ vv 32) (an_ vv (cl_ vv 32) (-1)) ∧ an_ vv (cl_ vv 32) (cm_ vv 32).2 = an_ vv (cl_ vv 32) (-1)) := by
  have cl := cl_char vv 32
  have cm := cm_char vv 32
  rcases cm with ⟨e, h⟩ | ⟨e, k0, k1, k2, h⟩
  · have c0 : cl_ vv 32 = -1 := by
      rcases cl with ⟨c, _⟩ | ⟨c, ⟨k, q0, q1, q2, q3⟩, _⟩
      · exact c
      · exfalso
        have hk : vv k ≠ -1 := by rw [q2]; exact c
        rcases an_spec vv (vv k) k with ⟨w, _⟩ | ⟨w0, w1, w2, w3, w4⟩
        · exact q3 w
        · by_cases y : an_ vv (vv k) k ≤ k
          · exact h k q0 q1 hk ⟨w0, y⟩
          · have hv : vv (an_ vv (vv k) k) ≠ -1 := by rw [w3]; exact hk
            refine h (an_ vv (vv k) k) w0 w1 hv ?_
            rw [w3]
            rcases an_spec vv (vv k) (an_ vv (vv k) k) with ⟨_, u⟩ | ⟨u0, u1, u2, u3, u4⟩
            · exact absurd rfl (u k q0 q1 (by omega))
            · refine ⟨u0, ?_⟩
              by_cases t : k < an_ vv (vv k) (an_ vv (vv k) k)
              · exact absurd rfl (u4 k q0 t (by omega))
              · omega
    rw [e, c0]
    exact ⟨rfl, fun _ => rfl, fun z => absurd rfl z⟩
  · have hk2 : vv (cm_ vv 32).2 ≠ -1 := by rw [k1]; exact e
    have hc : cl_ vv 32 = (cm_ vv 32).1 := by
      rcases cl with ⟨c, g⟩ | ⟨c, ⟨k, q0, q1, q2, q3⟩, g⟩
      · have := g _ k0.1 k0.2 hk2
        rw [k1] at this
        omega
      · have g1 := g _ k0.1 k0.2 hk2 (by rw [k1]; omega)
        rw [k1] at g1
        have hk : vv k ≠ -1 := by rw [q2]; exact c
        have g2 : (cm_ vv 32).1 ≤ vv k := by
          rcases an_spec vv (vv k) k with ⟨w, _⟩ | ⟨w0, w1, w2, w3, w4⟩
          · exact absurd w q3
          · by_cases y : an_ vv (vv k) k ≤ k
            · exact (h k q0 q1 hk ⟨w0, y⟩).1
            · have hv : vv (an_ vv (vv k) k) ≠ -1 := by rw [w3]; exact hk
              have := (h (an_ vv (vv k) k) w0 w1 hv (by
                rw [w3]
                rcases an_spec vv (vv k) (an_ vv (vv k) k) with ⟨_, u⟩ | ⟨u0, u1, u2, u3, u4⟩
                · exact absurd rfl (u k q0 q1 (by omega))
                · refine ⟨u0, ?_⟩
                  by_cases t : k < an_ vv (vv k) (an_ vv (vv k) k)
                  · exact absurd rfl (u4 k q0 t (by omega))
                  · omega)).1
              rw [w3] at this
              exact this
        omega
    rw [hc]
    refine ⟨rfl, fun z => absurd z e, fun _ => ⟨k0, ?_⟩⟩
    -- the first, the second
    rcases an_spec vv (cm_ vv 32).1 (cm_ vv 32).2 with ⟨w, _⟩ | ⟨w0, w1, w2, w3, w4⟩
    · omega
    have hlt : an_ vv (cm_ vv 32).1 (cm_ vv 32).2 < (cm_ vv 32).2 := by omega
    rcases an_spec vv (cm_ vv 32).1 (-1) with ⟨_, u⟩ | ⟨a0, a1, a2, a3, a4⟩
    · exact absurd k1 (u _ k0.1 k0.2 (by omega))
    have hao : an_ vv (cm_ vv 32).1 (-1) = an_ vv (cm_ vv 32).1 (cm_ vv 32).2 := by
      have h1 : ¬ an_ vv (cm_ vv 32).1 (cm_ vv 32).2 < an_ vv (cm_ vv 32).1 (-1) := fun t => absurd w3 (a4 _ w0 t (by omega))
      have h2 : ¬ an_ vv (cm_ vv 32).1 (-1) < an_ vv (cm_ vv 32).1 (cm_ vv 32).2 := fun t => absurd a3 (w4 _ a0 t (by omega))
      omega
    refine ⟨⟨a0, a1, a3⟩, ?_, hao.symm⟩
    rcases an_spec vv (cm_ vv 32).1 (an_ vv (cm_ vv 32).1 (-1)) with ⟨_, u⟩ | ⟨s0, s1, s2, s3, s4⟩
    · exact absurd k1 (u _ k0.1 k0.2 (by omega))
    have h1 : ¬ (cm_ vv 32).2 < an_ vv (cm_ vv 32).1 (an_ vv (cm_ vv 32).1 (-1)) := fun t => absurd k1 (s4 _ k0.1 t (by omega))
    by_cases h2 : an_ vv (cm_ vv 32).1 (an_ vv (cm_ vv 32).1 (-1)) < (cm_ vv 32).2
    · exfalso
      have sv : vv (an_ vv (cm_ vv 32).1 (an_ vv (cm_ vv 32).1 (-1))) ≠ -1 := by rw [s3]; exact e
      have sa : an_ vv (cm_ vv 32).1 (-1) < an_ vv (cm_ vv 32).1 (an_ vv (cm_ vv 32).1 (-1)) := by
        have : ¬ an_ vv (cm_ vv 32).1 (an_ vv (cm_ vv 32).1 (-1)) < an_ vv (cm_ vv 32).1 (-1) := fun t => absurd s3 (a4 _ s0 t (by omega))
        omega
      have hh := h _ s0 s1 sv (by
        rw [s3]
        rcases an_spec vv (cm_ vv 32).1 (an_ vv (cm_ vv 32).1 (an_ vv (cm_ vv 32).1 (-1))) with ⟨_, u⟩ | ⟨u0, u1, u2, u3, u4⟩
        · exact absurd a3 (u _ a0 a1 (by omega))
        · refine ⟨u0, ?_⟩
          by_cases t : an_ vv (cm_ vv 32).1 (-1) < an_ vv (cm_ vv 32).1 (an_ vv (cm_ vv 32).1 (an_ vv (cm_ vv 32).1 (-1)))
          · exact absurd a3 (u4 _ a0 t (by omega))
          · omega)
      have := hh.2 s3
      omega
    · omega
/-- the end of a build -/
noncomputable def fin_ (c : Int × Int) (X : ab_X) : (Int × Int) × ab_X := @ite _ (∃ y, xK_ X y) (Classical.propDecidable _) ((c.1 + 1, c.2 + 1), ((2, X.1.2.1, X.1.2.2.1, X.1.2.2.2.1, X.1.2.2.2.2), X.2.1, X.2.2.1, (fun _ => False), 0, xn_ X + 1, inP_ (xn_ X) (c.1 + 1, c.2 + 1, hi_ (plv_ (xg_ X)) 0 (xn_ X).toNat + 1, xb_ X, xK_ X) (xg_ X))) ((c.1 + 1, c.2), ((2, X.1.2.1, X.1.2.2.1, X.1.2.2.2.1, X.1.2.2.2.2), X.2.1, X.2.2.1, (fun _ => False), 0, xn_ X, xg_ X))
theorem fin_1 {c : Int × Int} {X : ab_X} (h : ∃ y, xK_ X y) : fin_ c X = ((c.1 + 1, c.2 + 1), ((2, X.1.2.1, X.1.2.2.1, X.1.2.2.2.1, X.1.2.2.2.2), X.2.1, X.2.2.1, (fun _ => False), 0, xn_ X + 1, inP_ (xn_ X) (c.1 + 1, c.2 + 1, hi_ (plv_ (xg_ X)) 0 (xn_ X).toNat + 1, xb_ X, xK_ X) (xg_ X))) := @if_pos _ (Classical.propDecidable _) h _ _ _
theorem fin_0 {c : Int × Int} {X : ab_X} (h : ¬ ∃ y, xK_ X y) : fin_ c X = ((c.1 + 1, c.2), ((2, X.1.2.1, X.1.2.2.1, X.1.2.2.2.1, X.1.2.2.2.2), X.2.1, X.2.2.1, (fun _ => False), 0, xn_ X, xg_ X)) := @if_neg _ (Classical.propDecidable _) h _ _ _
def stp_ (n : Int) (X : ab_X) : Int := min 32 (xl_ X + n)
noncomputable def bld_ (i n : Int) (Z : ab_Z) : ab_Z :=
  if stp_ n (aTX_ (zT_ Z) i) < 32 then (zs_ Z, setX_ i (kpn_ (aTl_ (zT_ Z)) (stp_ n (aTX_ (zT_ Z) i) - xl_ (aTX_ (zT_ Z) i)).toNat (aTX_ (zT_ Z) i)) (zT_ Z), zC_ Z, zf_ Z)
  else if xq_ (aTX_ (zT_ Z) i) = 0 ∨ cl_ (xv_ (aTl_ (zT_ Z)) (aTX_ (zT_ Z) i)) 32 = -1 then (zs_ Z, setC_ i (fin_ (aTc_ (zT_ Z)) (kpn_ (aTl_ (zT_ Z)) (stp_ n (aTX_ (zT_ Z) i) - xl_ (aTX_ (zT_ Z) i)).toNat (aTX_ (zT_ Z) i))) (zT_ Z), zC_ Z, zf_ Z)
  else (why_ (in1_ 7 (zs_ Z)) 2 (an_ (xv_ (aTl_ (zT_ Z)) (aTX_ (zT_ Z) i)) (cl_ (xv_ (aTl_ (zT_ Z)) (aTX_ (zT_ Z) i)) 32) (an_ (xv_ (aTl_ (zT_ Z)) (aTX_ (zT_ Z) i)) (cl_ (xv_ (aTl_ (zT_ Z)) (aTX_ (zT_ Z) i)) 32) (-1))) i (cl_ (xv_ (aTl_ (zT_ Z)) (aTX_ (zT_ Z) i)) 32) (an_ (xv_ (aTl_ (zT_ Z)) (aTX_ (zT_ Z) i)) (cl_ (xv_ (aTl_ (zT_ Z)) (aTX_ (zT_ Z) i)) 32) (-1)) (sp_ (aTl_ (zT_ Z) (an_ (xv_ (aTl_ (zT_ Z)) (aTX_ (zT_ Z) i)) (cl_ (xv_ (aTl_ (zT_ Z)) (aTX_ (zT_ Z) i)) 32) (-1)).toNat)), setX_ i (wd_ (kpn_ (aTl_ (zT_ Z)) (stp_ n (aTX_ (zT_ Z) i) - xl_ (aTX_ (zT_ Z) i)).toNat (aTX_ (zT_ Z) i))) (zT_ Z), zC_ Z, zf_ Z)
def blda_ (i n : Int) (Z : ab_Z) : Int := if stp_ n (aTX_ (zT_ Z) i) < 32 then 32 - stp_ n (aTX_ (zT_ Z) i) else if xq_ (aTX_ (zT_ Z) i) = 0 ∨ cl_ (xv_ (aTl_ (zT_ Z)) (aTX_ (zT_ Z) i)) 32 = -1 then 0 else -2
