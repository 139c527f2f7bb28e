/-! a build: what stays so; the class -/
def kz_ (X : ab_X) : Prop := 0 ≤ xj_ X ∧ cz_ (xK_ X) ≤ xj_ X
theorem kz_kp1 {lat : ab_V} {X : ab_X} (k : kz_ X) : kz_ (kp1_ lat X) := by
  obtain ⟨k1, k2⟩ := k
  unfold kp1_
  by_cases z : xv_ lat X (xl_ X) = -1
  · rw [if_pos z]; exact ⟨k1, k2⟩
  · rw [if_neg z]
    have h1 := cz_or (S := fun y => y = en_ (xv_ lat X (xl_ X)) (xl_ X) (sp_ (lat (xl_ X).toNat)) ∨ xK_ X y) (T := fun y => y = en_ (xv_ lat X (xl_ X)) (xl_ X) (sp_ (lat (xl_ X).toNat))) (U := xK_ X) (fun y w => w)
    have h2 := cz_one (S := fun y => y = en_ (xv_ lat X (xl_ X)) (xl_ X) (sp_ (lat (xl_ X).toNat))) (a := en_ (xv_ lat X (xl_ X)) (xl_ X) (sp_ (lat (xl_ X).toNat))) (fun y w => w)
    refine ⟨by show 0 ≤ xj_ X + 1; omega, ?_⟩
    show cz_ (fun y => y = en_ (xv_ lat X (xl_ X)) (xl_ X) (sp_ (lat (xl_ X).toNat)) ∨ xK_ X y) ≤ xj_ X + 1
    omega
theorem kz_kpn {lat : ab_V} {X : ab_X} (k : kz_ X) : ∀ t : Nat, kz_ (kpn_ lat t X)
  | 0 => k
  | t + 1 => kz_kp1 (kz_kpn k t)
theorem kq_of {st since lvb sb nb : Int} {mem lat : ab_V} {X : ab_X} (h1 : xh_ X = 1) (hz : 0 ≤ xj_ X) (k : jX_ st since lvb sb nb mem lat X) : kq_ st lat X := by
  obtain ⟨⟨_, _, _, _, a5, _⟩, b, c, d, e, f, g, i, j⟩ := k (by rw [h1]; decide)
  have a5 := a5 h1
  exact ⟨⟨hz, (f.2 h1).1, by omega⟩, fun y hy => ⟨(f.2 h1).2 y hy, d y (Or.inr (Or.inl hy))⟩⟩
theorem jX_kpn {st since lvb sb nb n : Int} {mem : ab_V} {q : Int → ab_R} {X : ab_X} (hst : st < 2000000000) (dd : dT_ st mem n q) (h1 : xh_ X = 1) (hz : 0 ≤ xj_ X) (k : jX_ st since lvb sb nb mem (lk_ mem n q) X) (t : Nat) (ht : xl_ X + t < 32) : jX_ st since lvb sb nb mem (lk_ mem n q) (kpn_ (lk_ mem n q) t X) := by
  have kq := kq_of h1 hz k
  obtain ⟨⟨a1, a2, a3, a4, a5, a6⟩, b, c, d, e, f, g, i, j⟩ := k (by rw [h1]; decide)
  have kq' := kq_kpn hst dd b.1 (a5 h1).1 kq t (by omega)
  obtain ⟨s1, s2, s3, s4, s5, s6, s7, s8, s9⟩ := kpn_same (lat := lk_ mem n q) (X := X) t
  generalize kpn_ (lk_ mem n q) t X = Y at *
  obtain ⟨⟨y1, y2, y3, y4, y5⟩, yu, yA, yK, yj, yn, yg⟩ := Y
  have s1 : y1 = xh_ X := s1
  have s2 : y2 = xq_ X := s2
  have s3 : y3 = xm_ X := s3
  have s4 : y4 = xb_ X := s4
  have s5 : y5 = xl_ X + t := s5
  have s6 : yu = xu_ X := s6
  have s7 : yA = xA_ X := s7
  have s8 : yn = xn_ X := s8
  have s9 : yg = xg_ X := s9
  subst s1 s2 s3 s4 s6 s7 s8 s9
  have a5 := a5 h1
  intro _
  refine ⟨⟨a1, a2, a3, a4, fun _ => by show 0 ≤ y5 ∧ y5 < 32; omega, fun w => ?_⟩, b, c, fun y hy => ?_, e, ⟨fun w => ?_, fun _ => ⟨kq'.1.2.1, fun y hy => (kq'.2 y hy).1⟩⟩, g, i, j⟩
  · have w : xh_ X = 2 := w
    omega
  · have hy : xA_ X y ∨ yK y ∨ ∃ r, 0 ≤ r ∧ r < xn_ X ∧ (xg_ X r).2.2.2.2 y := hy
    rcases hy with hy | hy | hy
    · exact d y (Or.inl hy)
    · exact (kq'.2 y hy).2
    · exact d y (Or.inr (Or.inr hy))
  · have w : xh_ X = 2 := w
    omega
theorem inP_lo {n : Int} {x : ab_P} {g : Int → ab_P} {r : Int} (h : r < n) : inP_ n x g r = g r := if_pos h
theorem inP_at {n : Int} {x : ab_P} {g : Int → ab_P} : inP_ n x g n = x := by
  unfold inP_
  rw [if_neg (by omega), if_pos rfl]
theorem sm_end {ν : ab_P → Int} {n : Int} {x : ab_P} {g : Int → ab_P} (hn : 0 ≤ n) : sm_ (fun r => ν (inP_ n x g r)) (n + 1).toNat = sm_ (fun r => ν (g r)) n.toNat + ν x := by
  rw [show (n + 1).toNat = n.toNat + 1 by omega]
  show sm_ (fun r => ν (inP_ n x g r)) n.toNat + ν (inP_ n x g ((n.toNat : Nat) : Int)) = _
  rw [show ((n.toNat : Nat) : Int) = n by omega, inP_at, sm_cg (st := fun r => ν (inP_ n x g r)) (su := fun r => ν (g r)) (fun r r0 r1 => by show ν (inP_ n x g r) = ν (g r); rw [inP_lo (by omega)])]
theorem jX_fin {st since lvb sb nb n : Int} {mem : ab_V} {q : Int → ab_R} {c : Int × Int} {X : ab_X} (hst : 0 ≤ st ∧ st < 2000000000) (hl : 0 ≤ lvb) (dd : dT_ st mem n q) (h1 : xh_ X = 1) (hz : kz_ X) (k : jX_ st since lvb sb nb mem (lk_ mem n q) X) (t : Nat) (ht : xl_ X + t = 32) : jX_ st since (lvb + 1) sb nb mem (lk_ mem n q) (fin_ c (kpn_ (lk_ mem n q) t X)).2 := by
  have kq := kq_of h1 hz.1 k
  obtain ⟨⟨a1, a2, a3, a4, a5, a6⟩, b, ⟨c1, c2⟩, d, e, f, g, i, j⟩ := k (by rw [h1]; decide)
  have kq' := kq_kpn hst.2 dd b.1 (a5 h1).1 kq t (by omega)
  have kz' := kz_kpn (lat := lk_ mem n q) hz t
  obtain ⟨s1, s2, s3, s4, s5, s6, s7, s8, s9⟩ := kpn_same (lat := lk_ mem n q) (X := X) t
  generalize kpn_ (lk_ mem n q) t X = Y at *
  obtain ⟨⟨y1, y2, y3, y4, y5⟩, yu, yA, yK, yj, yn, yg⟩ := Y
  have s1 : y1 = xh_ X := s1
  have s2 : y2 = xq_ X := s2
  have s3 : y3 = xm_ X := s3
  have s4 : y4 = xb_ X := s4
  have s5 : y5 = xl_ X + t := s5
  have s6 : yu = xu_ X := s6
  have s7 : yA = xA_ X := s7
  have s8 : yn = xn_ X := s8
  have s9 : yg = xg_ X := s9
  subst s1 s2 s3 s4 s6 s7 s8 s9
  have a5 := a5 h1
  have c2' : ∀ r, 0 ≤ r → r < xn_ X → (0 ≤ (xg_ X r).2.2.2.1 ∧ (xg_ X r).2.2.2.1 ≤ st) ∧ -1 ≤ (xg_ X r).2.2.1 ∧ (xg_ X r).2.2.1 ≤ lvb + 1 := fun r r0 r1 => ⟨(c2 r r0 r1).1, (c2 r r0 r1).2.1, by have := (c2 r r0 r1).2.2; omega⟩
  have hj : yj ≤ 32 := by have := kq'.1; have h : yj ≤ y5 ∧ y5 ≤ 32 := this.2; omega
  have hcz : cz_ yK ≤ 32 := by have h : cz_ yK ≤ yj := kz'.2; omega
  unfold sz_ at j
  by_cases y : ∃ y, yK y
  · rw [fin_1 y]
    have hlv : -1 ≤ hi_ (plv_ (xg_ X)) 0 (xn_ X).toNat ∧ hi_ (plv_ (xg_ X)) 0 (xn_ X).toNat ≤ lvb := hi_le (by omega) (fun r r0 r1 => (c2 r (by omega) (by omega)).2.2)
    intro _
    refine ⟨⟨Or.inr rfl, a2, a3, a4, fun w => by have w : (2 : Int) = 1 := w; omega, fun _ => by show y5 = 32; omega⟩, b, ⟨⟨by show 0 ≤ xn_ X + 1; omega, by show xn_ X + 1 ≤ nb + 2; omega⟩, fun r r0 r1 => ?_⟩, fun y hy => ?_, e, ⟨fun _ => ⟨fun y w => w, rfl⟩, fun w => by have w : (2 : Int) = 1 := w; omega⟩, fun y => ?_, i, ?_⟩
    · have r1 : r < xn_ X + 1 := r1
      show (0 ≤ (inP_ (xn_ X) _ (xg_ X) r).2.2.2.1 ∧ (inP_ (xn_ X) _ (xg_ X) r).2.2.2.1 ≤ st) ∧ -1 ≤ (inP_ (xn_ X) _ (xg_ X) r).2.2.1 ∧ (inP_ (xn_ X) _ (xg_ X) r).2.2.1 ≤ lvb + 1
      by_cases w : r < xn_ X
      · rw [inP_lo w]; exact c2' r r0 w
      · rw [show r = xn_ X by omega, inP_at]
        exact ⟨a4, by show -1 ≤ hi_ (plv_ (xg_ X)) 0 (xn_ X).toNat + 1; omega, by show hi_ (plv_ (xg_ X)) 0 (xn_ X).toNat + 1 ≤ lvb + 1; omega⟩
    · have hy : xA_ X y ∨ False ∨ ∃ r, 0 ≤ r ∧ r < xn_ X + 1 ∧ (inP_ (xn_ X) (c.1 + 1, c.2 + 1, hi_ (plv_ (xg_ X)) 0 (xn_ X).toNat + 1, xb_ X, yK) (xg_ X) r).2.2.2.2 y := hy
      rcases hy with hy | hy | ⟨r, r0, r1, hy⟩
      · exact d y (Or.inl hy)
      · exact hy.elim
      · by_cases w : r < xn_ X
        · rw [inP_lo w] at hy; exact d y (Or.inr (Or.inr ⟨r, r0, w, hy⟩))
        · rw [show r = xn_ X by omega, inP_at] at hy
          exact (kq'.2 y hy).2
    · have h2 := g y
      unfold mu_ at h2
      show id1_ (xA_ X y) + sm_ (fun r => (fun p : ab_P => id1_ (p.2.2.2.2 y)) (inP_ (xn_ X) (c.1 + 1, c.2 + 1, hi_ (plv_ (xg_ X)) 0 (xn_ X).toNat + 1, xb_ X, yK) (xg_ X) r)) (xn_ X + 1).toNat ≤ 2
      rw [sm_end (ν := fun p : ab_P => id1_ (p.2.2.2.2 y)) c1.1]
      have h3 := (id1_in (yK y)).2
      show id1_ (xA_ X y) + (sm_ (fun r => id1_ ((xg_ X r).2.2.2.2 y)) (xn_ X).toNat + id1_ (yK y)) ≤ 2
      omega
    · unfold sz_ pz_
      unfold pz_ at j
      show cz_ (xA_ X) + sm_ (fun r => (fun p : ab_P => cz_ p.2.2.2.2) (inP_ (xn_ X) (c.1 + 1, c.2 + 1, hi_ (plv_ (xg_ X)) 0 (xn_ X).toNat + 1, xb_ X, yK) (xg_ X) r)) (xn_ X + 1).toNat ≤ sb + 32 * 2
      rw [sm_end (ν := fun p : ab_P => cz_ p.2.2.2.2) c1.1]
      show cz_ (xA_ X) + (sm_ (fun r => cz_ (xg_ X r).2.2.2.2) (xn_ X).toNat + cz_ yK) ≤ sb + 32 * 2
      rw [h1] at j
      omega
  · rw [fin_0 y]
    intro _
    refine ⟨⟨Or.inr rfl, a2, a3, a4, fun w => by have w : (2 : Int) = 1 := w; omega, fun _ => by show y5 = 32; omega⟩, b, ⟨⟨by show 0 ≤ xn_ X; omega, by show xn_ X ≤ nb + 2; omega⟩, c2'⟩, fun y hy => ?_, e, ⟨fun _ => ⟨fun y w => w, rfl⟩, fun w => by have w : (2 : Int) = 1 := w; omega⟩, fun y => ?_, i, ?_⟩
    · have hy : xA_ X y ∨ False ∨ ∃ r, 0 ≤ r ∧ r < xn_ X ∧ (xg_ X r).2.2.2.2 y := hy
      rcases hy with hy | hy | hy
      · exact d y (Or.inl hy)
      · exact hy.elim
      · exact d y (Or.inr (Or.inr hy))
    · have h2 := g y
      unfold mu_ at h2
      show id1_ (xA_ X y) + sm_ (fun r => id1_ ((xg_ X r).2.2.2.2 y)) (xn_ X).toNat ≤ 2
      omega
    · show cz_ (xA_ X) + pz_ (xg_ X) (xn_ X) ≤ sb + 32 * 2
      rw [h1] at j
      omega
def bok_ (i n : Int) (Z : ab_Z) : Prop := ((0 ≤ i ∧ i < 4) ∧ xh_ (aTX_ (zT_ Z) i) = 1) ∧ 1 ≤ n ∧ n ≤ 32
theorem jZ_whyG {bd : Int} {Z : ab_Z} {k0 a0 a1 a2 a3 a4 a5 : Int} (hk : k0 = 6 ∨ k0 = 7) (k : jZ_ bd Z) : jZ_ (bd + 1) (why_ (in1_ k0 (zs_ Z)) a0 a1 a2 a3 a4 a5, zT_ Z, zC_ Z, zf_ Z) := by
  rcases hk with e | e
  · rw [e]; exact jZ_why k
  · rw [e]
    obtain ⟨a, ⟨b1, b2, b3, b4, b5, b6⟩, c⟩ := k
    refine ⟨jT_up (by omega) (Int.le_refl _) (Int.le_refl _) a, ?_, c⟩
    show (2 ≤ why_ (in1_ 7 (zs_ Z)) a0 a1 a2 a3 a4 a5 3 ∧ why_ (in1_ 7 (zs_ Z)) a0 a1 a2 a3 a4 a5 3 ≤ 12) ∧ (2 ≤ why_ (in1_ 7 (zs_ Z)) a0 a1 a2 a3 a4 a5 4 ∧ why_ (in1_ 7 (zs_ Z)) a0 a1 a2 a3 a4 a5 4 ≤ 4) ∧ (0 ≤ why_ (in1_ 7 (zs_ Z)) a0 a1 a2 a3 a4 a5 6 ∧ why_ (in1_ 7 (zs_ Z)) a0 a1 a2 a3 a4 a5 6 ≤ bd + 1) ∧ (0 ≤ why_ (in1_ 7 (zs_ Z)) a0 a1 a2 a3 a4 a5 7 ∧ why_ (in1_ 7 (zs_ Z)) a0 a1 a2 a3 a4 a5 7 ≤ bd + 1) ∧ (0 ≤ why_ (in1_ 7 (zs_ Z)) a0 a1 a2 a3 a4 a5 20 ∧ why_ (in1_ 7 (zs_ Z)) a0 a1 a2 a3 a4 a5 20 ≤ 200) ∧ (why_ (in1_ 7 (zs_ Z)) a0 a1 a2 a3 a4 a5 15 = 0 ∨ why_ (in1_ 7 (zs_ Z)) a0 a1 a2 a3 a4 a5 15 = 1)
    rw [why_o (k := 3) (by omega), why_o (k := 4) (by omega), why_o (k := 6) (by omega), why_o (k := 7) (by omega), why_o (k := 20) (by omega), why_o (k := 15) (by omega), in1_o (k := 3) (by omega), in1_o (k := 4) (by omega), in1_s, in1_o (k := 6) (by omega), in1_o (k := 20) (by omega), in1_o (k := 15) (by omega)]
    exact ⟨b1, b2, by omega, by omega, b5, b6⟩
theorem fin_c {c : Int × Int} {X : ab_X} : (fin_ c X).1.1 = c.1 + 1 ∧ c.2 ≤ (fin_ c X).1.2 ∧ (fin_ c X).1.2 ≤ c.2 + 1 := by
  by_cases y : ∃ y, xK_ X y
  · rw [fin_1 y]; exact ⟨rfl, by show c.2 ≤ c.2 + 1; omega, Int.le_refl _⟩
  · rw [fin_0 y]; exact ⟨rfl, Int.le_refl _, by show c.2 ≤ c.2 + 1; omega⟩
theorem jZ_bld {bd i n : Int} {Z : ab_Z} (hbd : bd < 900000000) (ho : bok_ i n Z) (hz : kz_ (aTX_ (zT_ Z) i)) (j : jZ_ bd Z) : jZ_ (bd + 1) (bld_ i n Z) := by
  obtain ⟨⟨hi, h1⟩, hn⟩ := ho
  have jt := j.1
  obtain ⟨dd, _, ⟨⟨c1, c1b⟩, _, ⟨c3, c3b⟩, c4, c4b⟩, _, je⟩ := j.1
  have jx := je i hi.1 hi.2
  obtain ⟨⟨_, _, _, _, a5, _⟩, _⟩ := jx (by rw [h1]; decide)
  have a5 := a5 h1
  unfold bld_
  by_cases z : stp_ n (aTX_ (zT_ Z) i) < 32
  · rw [if_pos z]
    unfold stp_ at z ⊢
    refine jZ_up (by omega) (jZ_T (Int.le_refl _) j (jT_setX jt (jX_kpn (by omega) dd h1 hz.1 jx _ (by omega))))
  · rw [if_neg z]
    unfold stp_ at z ⊢
    by_cases w : xq_ (aTX_ (zT_ Z) i) = 0 ∨ cl_ (xv_ (aTl_ (zT_ Z)) (aTX_ (zT_ Z) i)) 32 = -1
    · rw [if_pos w]
      obtain ⟨f1, f2, f3⟩ := fin_c (c := aTc_ (zT_ Z)) (X := kpn_ (aTl_ (zT_ Z)) (min 32 (xl_ (aTX_ (zT_ Z) i) + n) - xl_ (aTX_ (zT_ Z) i)).toNat (aTX_ (zT_ Z) i))
      refine jZ_T (by omega) j (jT_setC (by omega) ⟨by rw [f1]; omega, by omega, by omega⟩ jt (jX_fin ⟨c1, by omega⟩ (by omega) dd h1 hz jx _ (by omega)))
    · rw [if_neg w]
      have j2 : jZ_ bd (zs_ Z, setX_ i (wd_ (kpn_ (aTl_ (zT_ Z)) (min 32 (xl_ (aTX_ (zT_ Z) i) + n) - xl_ (aTX_ (zT_ Z) i)).toNat (aTX_ (zT_ Z) i))) (zT_ Z), zC_ Z, zf_ Z) := jZ_T (Int.le_refl _) j (jT_setX jt (jX_0 rfl))
      exact jZ_whyG (Or.inr rfl) j2
