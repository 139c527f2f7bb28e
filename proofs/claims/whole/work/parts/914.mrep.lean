/-! the Model: how many entries; a repair -/
theorem cn_blocks {p : Nat → Bool} {V : Nat} : ∀ a : Nat, ((cn_ p (a * V) : Nat) : Int) = sm_ (fun r => ((cn_ (fun j => p (r.toNat * V + j)) V : Nat) : Int)) a
  | 0 => by rw [Nat.zero_mul]; rfl
  | a + 1 => by
    have ih := cn_blocks (p := p) (V := V) a
    rw [Nat.succ_mul, cn_add]
    unfold sm_
    rw [← ih, show ((a : Int)).toNat = a by omega]
    omega
theorem pb2_cg {S T : Int → Prop} {j k : Nat} (h : S (j : Int) ↔ T (k : Int)) : pb2_ S j = pb2_ T k := by
  cases h1 : pb2_ S j with
  | true => exact (pb2_t.mpr (h.mp (pb2_t.mp h1))).symm
  | false =>
    cases h2 : pb2_ T k with
    | false => rfl
    | true =>
      have := pb2_t.mpr (h.mpr (pb2_t.mp h2))
      rw [this] at h1
      cases h1
/-- the row of entries is as long as its sets are great -/
theorem iE_cnt {M : mm_M} {x k n : Int} {E : Int → Int} {g : Int → ab_P} {A : Int → Prop} (e : eM_ M x k E) (I : iE_ k E n g A) (hn : 0 ≤ n) (hA : ∀ y, A y → ve_ y) (hv : vl_ n g) : k = cz_ A + pz_ g n := by
  obtain ⟨e1, e2, e3, e4⟩ := e
  obtain ⟨I1, I2, I3, I4⟩ := I
  have hV : (ven_ : Int) = 4503599627370496 := by rw [ven_eq]; rfl
  have rp : rp_ k E (sg_ E 0 k) := ⟨fun i i0 i1 => ⟨i, i0, i1, rfl⟩, fun y hy => hy, fun i j i0 ij j1 => I1 i j i0 ij j1⟩
  have hrng : ∀ y, sg_ E 0 k y → 0 ≤ y ∧ y < (((n.toNat + 1) * ven_ : Nat) : Int) := by
    rintro y ⟨i, i0, i1, rfl⟩
    have h1 := (e4 i i0 i1).1
    have h2 := I2 i i0 i1
    rw [Int.natCast_mul, hV, Int.natCast_add]
    omega
  have hk := rp_cn e2 rp hrng
  rw [hk, cn_blocks, show n.toNat + 1 = 1 + n.toNat by omega, sm_add]
  have b0 : sm_ (fun r => ((cn_ (fun j => pb2_ (sg_ E 0 k) (r.toNat * ven_ + j)) ven_ : Nat) : Int)) 1 = cz_ A := by
    show 0 + ((cn_ (fun j => pb2_ (sg_ E 0 k) (0 * ven_ + j)) ven_ : Nat) : Int) = _
    have : cn_ (fun j => pb2_ (sg_ E 0 k) (0 * ven_ + j)) ven_ = cn_ (pb2_ A) ven_ := cn_cg (fun j hj => pb2_cg (by
      rw [show 0 * ven_ + j = j by omega]
      constructor
      · rintro ⟨i, i0, i1, i2⟩
        have h1 := (e4 i i0 i1).2.1
        have hj2 : (j : Int) < ven_ := by omega
        rw [hV] at hj2
        have h3 : E i % 4503599627370496 = (j : Int) := by omega
        rw [h3] at h1
        exact (I3 _ h1).mp ⟨i, i0, i1, i2⟩
      · intro z
        exact (I3 _ (hA _ z)).mpr z))
    rw [this]
    unfold cz_
    omega
  have b1 : sm_ (fun j => (fun r => ((cn_ (fun j => pb2_ (sg_ E 0 k) (r.toNat * ven_ + j)) ven_ : Nat) : Int)) (((1 : Nat) : Int) + j)) n.toNat = pz_ g n := by
    refine sm_cg (fun r r0 r1 => ?_)
    show ((cn_ (fun j => pb2_ (sg_ E 0 k) ((((1 : Nat) : Int) + r).toNat * ven_ + j)) ven_ : Nat) : Int) = cz_ (g r).2.2.2.2
    have : cn_ (fun j => pb2_ (sg_ E 0 k) ((((1 : Nat) : Int) + r).toNat * ven_ + j)) ven_ = cn_ (pb2_ (g r).2.2.2.2) ven_ := cn_cg (fun j hj => pb2_cg (by
      have ec : (((((1 : Nat) : Int) + r).toNat * ven_ + j : Nat) : Int) = (r + 1) * 4503599627370496 + (j : Int) := by
        rw [Int.natCast_add, Int.natCast_mul, hV, show (((((1 : Nat) : Int) + r).toNat : Nat) : Int) = r + 1 by omega]
      rw [ec]
      have hj2 : (j : Int) < ven_ := by omega
      rw [hV] at hj2
      constructor
      · rintro ⟨i, i0, i1, i2⟩
        have h1 := (e4 i i0 i1).2.1
        have h3 : E i % 4503599627370496 = (j : Int) := by omega
        rw [h3] at h1
        exact (I4 r r0 (by omega) _ h1).mp ⟨i, i0, i1, i2⟩
      · intro z
        exact (I4 r r0 (by omega) _ (hv r r0 (by omega) _ z)).mpr z))
    rw [this]
    rfl
  rw [b0, b1]
theorem cuP_stP (r : Int) (z : ab_P) (g : Int → ab_P) : cuP_ r 1 (stP_ r z g) = cuP_ r 1 g := by
  funext i
  unfold cuP_ stP_
  by_cases h : i < r
  · rw [if_pos h, if_pos h, if_neg (by omega)]
  · rw [if_neg h, if_neg h, if_neg (by omega)]
theorem vl_rp1 {lat : ab_V} {st r : Int} {w : ab_W} (hr : 0 ≤ r ∧ r < w.1) (h : vl_ w.1 w.2.2.2) : vl_ (rp1_ lat st r w).1 (rp1_ lat st r w).2.2.2 := by
  intro j j0 j1 y hy
  rcases rp1_from hr j0 j1 with ⟨_, _, e1⟩ | ⟨i, i0, i1, _, e1, _⟩
  · rw [e1] at hy; exact h r hr.1 hr.2 y hy.1
  · rw [e1] at hy; exact h i i0 i1 y hy
/-- runs up to r still to be labelled: their fresh ones stand there -/
def gs_ (lat : ab_V) (r : Int) (g : Int → ab_P) : Int → ab_P := fun j => if j ≤ r then ((g j).1, (g j).2.1, (g j).2.2.1, (g j).2.2.2.1, fr2_ g j lat) else g j
theorem gs_stP {lat : ab_V} {r s y : Int} {x : ab_P} {g : Int → ab_P} (hx : x.2.2.2.2 = fr2_ g r lat) : (gs_ lat (r - 1) (stP_ r x g) s).2.2.2.2 y ↔ (if s ≤ r then fr2_ g s lat else (g s).2.2.2.2) y := by
  unfold gs_
  by_cases z1 : s ≤ r - 1
  · rw [if_pos z1, if_pos (c := s ≤ r) (by omega)]
    have e : stP_ r x g s = g s := if_neg (by omega)
    show (stP_ r x g s).2.2.2.2 y ∧ fs_ lat y = true ↔ (g s).2.2.2.2 y ∧ fs_ lat y = true
    rw [e]
  · rw [if_neg z1]
    by_cases z2 : s = r
    · rw [if_pos (c := s ≤ r) (by omega), z2]
      have e : stP_ r x g r = x := if_pos rfl
      rw [e, hx]
    · rw [if_neg (c := s ≤ r) (by omega)]
      have e : stP_ r x g s = g s := if_neg z2
      rw [e]
theorem ct_M_repX {b i st nT : Int} {mem : ab_V} {q : Int → ab_R} {c : Int × Int} {X : ab_X} {M : mm_M} {R : Int → mm_M → Prop} (hb : bk_ b) (hi : 0 ≤ i ∧ i < 4) (h0 : xh_ X ≠ 0) (t : tM_ M b mem nT q) (k : mX_ M (xi_ b i) X) (hA : ∀ y, xA_ X y → ve_ y) (hv : vl_ (xn_ X) (xg_ X)) (hst : nn_ri M 408 b = st) (h8 : nn_ri M 408 (b + 8) = c.2) (hc : 0 ≤ c.2 ∧ c.2 < 1000000000)
    (h : ∀ M', fr_ (mxi_ b (xi_ b i)) M M' → nn_ri M' 408 (b + 8) = (rpX_ st (lk_ mem nT q) c X).1.2 → mX_ M' (xi_ b i) (rpX_ st (lk_ mem nT q) c X).2 → R (pz_ (xg_ X) (xn_ X) - pz_ (xg_ (rpX_ st (lk_ mem nT q) c X).2) (xn_ (rpX_ st (lk_ mem nT q) c X).2)) M') : nr_M_repairs b i M R := by
  have hb' := hb
  unfold bk_ at hb'
  have n22 := t.2.2.1.2.2
  have hx : b + 1784 ≤ xi_ b i ∧ xi_ b i + 855 ≤ 32844 := by unfold xi_; omega
  have hat : nf_M_at b i = xi_ b i := nf_at hb hi
  generalize xi_ b i = x at hx k h hat
  obtain ⟨⟨a1, a2, a3, a4, a5, a6⟩, b1, c1, d, n, E, e, I⟩ := k.2 h0
  have hcnt := iE_cnt e I d.2.1 hA hv
  obtain ⟨I1, I2, I3, I4⟩ := I
  obtain ⟨e1, e2, e3, e4⟩ := e
  refine ng_M_repairs _ _ _ _ ?_
  rw [hat, mm_w_id (x := x + 6) (by omega), e1, mm_w_id (x := n - 1) (by omega)]
  refine ⟨by omega, ?_⟩
  intro y4 ey4
  rw [ey4]
  refine ⟨by omega, ?_⟩
  rintro _ rfl
  have lat_out : ∀ y, ek_ y < 32 ∧ 0 ≤ ek_ y := fun y => ⟨(ek_in y).2, (ek_in y).1⟩
  -- labels, from the oldest run down
  have L2 : ∀ r : Int, -1 ≤ r → r < 24 → ∀ M1 (w : ab_W) k1 E1, fr_ (mxi_ b x) M M1 → hM_ M1 x w.1 w.2.2.2 → eM_ M1 x k1 E1 → iE_ k1 E1 w.1 (gs_ (lk_ mem nT q) r w.2.2.2) (xA_ X) → r < w.1 → vl_ w.1 w.2.2.2 → nn_ri M1 408 (b + 8) = w.2.2.1 → 0 ≤ w.2.2.1 → w.2.2.1 + r < 1000000100 → rpn_ (lk_ mem nT q) st (r + 1).toNat w = rpn_ (lk_ mem nT q) st (xn_ X).toNat (xn_ X, c.1, c.2, xg_ X) → nk_M_repairs_88 b x n r M1 R := by
    refine lp_dn (fun r hr ih r24 M1 w k1 E1 f1 d1 q1 i1 rw1 hvw g8 g0 g1 he => ?_)
    have ro : ∀ c, b ≤ c → c < x + 143 → c ≠ b + 8 → c ≠ x + 5 → c ≠ x + 6 → nn_ri M1 408 c = nn_ri M 408 c := fun c z0 z1 z2 z3 z4 => fr_ri f1 (fun y => by have := y.2; omega)
    refine ng_M_repairs_88 _ _ _ _ _ _ ⟨fun z => ?_, fun z => ?_⟩
    · have rz : r = -1 := by omega
      subst rz
      have he : w = rpn_ (lk_ mem nT q) st (xn_ X).toNat (xn_ X, c.1, c.2, xg_ X) := he
      have gsz : gs_ (lk_ mem nT q) (-1) w.2.2.2 = fun j => if j ≤ -1 then ((w.2.2.2 j).1, (w.2.2.2 j).2.1, (w.2.2.2 j).2.2.1, (w.2.2.2 j).2.2.2.1, fr2_ w.2.2.2 j (lk_ mem nT q)) else w.2.2.2 j := rfl
      have i2 : iE_ k1 E1 w.1 w.2.2.2 (xA_ X) := by
        obtain ⟨j1, j2, j3, j4⟩ := i1
        refine ⟨j1, j2, j3, fun s s0 s1 y hy => ?_⟩
        have := j4 s s0 s1 y hy
        rw [gsz] at this
        dsimp only at this
        rw [if_neg (by omega)] at this
        exact this
      have hw : (rpX_ st (lk_ mem nT q) c X) = ((w.2.1, w.2.2.1), (X.1, X.2.1, X.2.2.1, X.2.2.2.1, X.2.2.2.2.1, w.1, w.2.2.2)) := by rw [he]; rfl
      rw [hw] at h
      have hc2 := iE_cnt q1 i2 d1.2.1 hA hvw
      have := q1.2.1
      have := q1.2.2.1
      rw [mm_w_id (x := x + 6) (by omega), q1.1, mm_w_id (x := n - k1) (by omega)]
      refine ⟨by omega, ?_⟩
      have hans : n - k1 = pz_ (xg_ X) (xn_ X) - pz_ w.2.2.2 w.1 := by omega
      rw [hans]
      exact h M1 f1 g8 (mX_part (A := xA_ X) k (fun c z0 z1 z2 z3 => ro c (by omega) z1 (by omega) z2 z3) d1 ⟨k1, E1, q1, i2⟩)
    · have n23 := d1.2.2.1
      obtain ⟨u1, u2, u3⟩ := d1.2.2.2 r z rw1
      rw [nf_head ⟨by omega, by omega⟩ ⟨by omega, by omega⟩, mm_w_id (x := x + 143 + 3 * r + 1) (by omega), mm_w_id (x := b + 0) (by omega), show b + 0 = b by omega, u2, ro b (by omega) (by omega) (by omega) (by omega) (by omega), hst, mm_w_id (x := r + 1) (by omega), mm_w_id (x := r + -1) (by omega), show r + -1 = r - 1 by omega]
      refine ⟨by omega, by omega, ?_⟩
      refine ct_M_lays (w.2.1 + 1) (fr2_ w.2.2.2 r (lk_ mem nT q)) hb ⟨by omega, hx.2⟩ d1 ⟨z, rw1⟩ (by rw [g8]; omega) (fun M2 f2 v8 d2 => ?_)
      rw [g8] at v8 d2
      have q2 : eM_ M2 x k1 E1 := eM_cg (fun i z0 z1 => fr_ri f2 (fun y => by have := y.2; omega)) (fr_ri f2 (fun y => by have := y.2; omega)) q1
      have f2' : fr_ (mxi_ b x) M1 M2 := fr_mono f2 (fun o c z => ⟨z.1, by have := z.2; omega⟩)
      refine ct_M_entriesOf ⟨by omega, hx.2⟩ q2 ?_
      have enext : rpn_ (lk_ mem nT q) st (r + 1).toNat w = rpn_ (lk_ mem nT q) st r.toNat (rp1_ (lk_ mem nT q) st r w) := by
        rw [show (r + 1).toNat = r.toNat + 1 by omega]
        show rpn_ (lk_ mem nT q) st r.toNat (rp1_ (lk_ mem nT q) st (r.toNat : Int) w) = _
        rw [show ((r.toNat : Nat) : Int) = r by omega]
      have gsr : ∀ j, (gs_ (lk_ mem nT q) r w.2.2.2 j).2.2.2.2 = if j ≤ r then fr2_ w.2.2.2 j (lk_ mem nT q) else (w.2.2.2 j).2.2.2.2 := by
        intro j
        unfold gs_
        by_cases zz : j ≤ r
        · rw [if_pos zz, if_pos zz]
        · rw [if_neg zz, if_neg zz]
      obtain ⟨j1, j2, j3, j4⟩ := i1
      have hvn := vl_rp1 (lat := lk_ mem nT q) (st := st) ⟨z, rw1⟩ hvw
      by_cases hy : ∃ y, fr2_ w.2.2.2 r (lk_ mem nT q) y
      · have e1' : (rp1_ (lk_ mem nT q) st r w) = (w.1, w.2.1 + 1, w.2.2.1 + 1, stP_ r (w.2.1 + 1, w.2.2.1 + 1, (w.2.2.2 r).2.2.1, st, fr2_ w.2.2.2 r (lk_ mem nT q)) w.2.2.2) := by
          unfold rp1_
          rw [pk_1 hy, if_pos rfl, show w.1 - (1 - 1) = w.1 by omega]
        have pos : ct_ (fun e => E1 e / 4503599627370496 == r + 1) 0 k1.toNat ≠ 0 := by
          obtain ⟨y, hy⟩ := hy
          have hve : ve_ y := hvw r z rw1 y hy.1
          have := (j4 r z rw1 y hve)
          rw [gsr, if_pos (Int.le_refl _)] at this
          obtain ⟨a, a0, a1, a2⟩ := this.mpr hy
          have := ct_pos (p := fun e => E1 e / 4503599627370496 == r + 1) (s := 0) (m := k1.toNat) (i := a) a0 (by omega) (by
            show (E1 a / 4503599627370496 == r + 1) = true
            rw [a2, beq_iff_eq]
            exact (ve_V hve).1)
          omega
        refine ⟨fun _ => ?_, fun zz => absurd zz pos⟩
        rw [enext, e1'] at he
        refine ih (by omega) (by omega) M2 (w.1, w.2.1 + 1, w.2.2.1 + 1, stP_ r (w.2.1 + 1, w.2.2.1 + 1, (w.2.2.2 r).2.2.1, st, fr2_ w.2.2.2 r (lk_ mem nT q)) w.2.2.2) k1 E1 (fr_trans f1 f2') d2 q2 ⟨j1, j2, j3, fun s s0 s1 y hy2 => ?_⟩ (by show r - 1 < w.1; omega) (by rw [e1'] at hvn; exact hvn) v8 (by show 0 ≤ w.2.2.1 + 1; omega) (by show w.2.2.1 + 1 + (r - 1) < _; omega) (by rw [show r - 1 + 1 = r by omega]; exact he)
        rw [j4 s s0 s1 y hy2, gsr]
        exact (gs_stP (x := (w.2.1 + 1, w.2.2.1 + 1, (w.2.2.2 r).2.2.1, st, fr2_ w.2.2.2 r (lk_ mem nT q))) (g := w.2.2.2) rfl).symm
      · have e1' : (rp1_ (lk_ mem nT q) st r w) = (w.1 - 1, w.2.1 + 1, w.2.2.1 + 1, cuP_ r 1 w.2.2.2) := by
          unfold rp1_
          rw [pk_0 hy, if_neg (by decide), show w.1 - (1 - 0) = w.1 - 1 by omega]
        have none_r : ∀ a, 0 ≤ a → a < k1 → E1 a / 4503599627370496 ≠ r + 1 := by
          intro a a0 a1 zz
          have va := (q2.2.2.2 a a0 a1).2.1
          have := (j4 r z rw1 (E1 a % 4503599627370496) va).mp ⟨a, a0, a1, by omega⟩
          rw [gsr, if_pos (Int.le_refl _)] at this
          exact hy ⟨_, this⟩
        have nul : ct_ (fun e => E1 e / 4503599627370496 == r + 1) 0 k1.toNat = 0 := ct_0 (fun a a0 a1 => by
          show (E1 a / 4503599627370496 == r + 1) = false
          rw [beq_eq_false_iff_ne]
          exact none_r a a0 (by omega))
        refine ⟨fun zz => absurd nul zz, fun _ => ?_⟩
        refine ct_M_runGoes ⟨by omega, hx.2⟩ d2 q2 ⟨z, rw1⟩ (fun a a0 a1 => by have := j2 a a0 a1; omega) (fun M3 f3 d3 q3 => ?_)
        rw [cuP_stP] at d3
        have f3' : fr_ (mxi_ b x) M2 M3 := fr_mono f3 (fun o c z => ⟨z.1, by have := z.2; omega⟩)
        have v83 : nn_ri M3 408 (b + 8) = w.2.2.1 + 1 := (fr_ri f3 (fun y => by have := y.2; omega)).trans v8
        rw [enext, e1'] at he
        have gocase : ∀ a, 0 ≤ a → a < k1 → (E1 a / 4503599627370496 ≤ r ∧ go_ r (E1 a) = E1 a) ∨ (r + 1 < E1 a / 4503599627370496 ∧ go_ r (E1 a) = E1 a - 4503599627370496) := by
          intro a a0 a1
          have := none_r a a0 a1
          unfold go_
          by_cases zz : r + 1 < E1 a / 4503599627370496
          · rw [if_pos zz]; exact Or.inr ⟨zz, rfl⟩
          · rw [if_neg zz]; exact Or.inl ⟨by omega, rfl⟩
        refine ih (by omega) (by omega) M3 (w.1 - 1, w.2.1 + 1, w.2.2.1 + 1, cuP_ r 1 w.2.2.2) k1 _ (fr_trans f1 (fr_trans f2' f3')) d3 q3 ⟨fun a c' a0 ac c1 => ?_, fun a a0 a1 => ?_, fun y hy2 => ?_, fun s s0 s1 y hy2 => ?_⟩ (by show r - 1 < w.1 - 1; omega) (by rw [e1'] at hvn; exact hvn) v83 (by show 0 ≤ w.2.2.1 + 1; omega) (by show w.2.2.1 + 1 + (r - 1) < _; omega) (by rw [show r - 1 + 1 = r by omega]; exact he)
        · have := j1 a c' a0 ac c1
          show go_ r (E1 a) < go_ r (E1 c')
          rcases gocase a a0 (by omega) with ⟨p1, p2⟩ | ⟨p1, p2⟩ <;> rcases gocase c' (by omega) c1 with ⟨p3, p4⟩ | ⟨p3, p4⟩ <;> omega
        · have := j2 a a0 a1
          show go_ r (E1 a) / 4503599627370496 ≤ w.1 - 1
          rcases gocase a a0 a1 with ⟨p1, p2⟩ | ⟨p1, p2⟩ <;> omega
        · rw [← j3 y hy2]
          have := hy2.1
          have := hy2.2.1
          constructor
          · rintro ⟨a, a0, a1, a2⟩
            have a2 : go_ r (E1 a) = y := a2
            refine ⟨a, a0, a1, ?_⟩
            rcases gocase a a0 a1 with ⟨p1, p2⟩ | ⟨p1, p2⟩ <;> omega
          · rintro ⟨a, a0, a1, a2⟩
            refine ⟨a, a0, a1, ?_⟩
            show go_ r (E1 a) = y
            rcases gocase a a0 a1 with ⟨p1, p2⟩ | ⟨p1, p2⟩ <;> omega
        · have s1 : s < w.1 - 1 := s1
          have hve := ve_V (r := s + 1) hy2
          have hve2 := ve_V (r := s + 1 + 1) hy2
          by_cases z1 : s < r
          · have e5 : (gs_ (lk_ mem nT q) (r - 1) (cuP_ r 1 w.2.2.2) s).2.2.2.2 = (gs_ (lk_ mem nT q) r w.2.2.2 s).2.2.2.2 := by
              unfold gs_ fr2_ cuP_
              rw [if_pos (c := s ≤ r - 1) (by omega), if_pos (c := s ≤ r) (by omega), if_pos (c := s < r) z1]
            show _ ↔ (gs_ (lk_ mem nT q) (r - 1) (cuP_ r 1 w.2.2.2) s).2.2.2.2 y
            rw [e5, ← j4 s s0 (by omega) y hy2]
            constructor
            · rintro ⟨a, a0, a1, a2⟩
              have a2 : go_ r (E1 a) = (s + 1) * 4503599627370496 + y := a2
              refine ⟨a, a0, a1, ?_⟩
              rcases gocase a a0 a1 with ⟨p1, p2⟩ | ⟨p1, p2⟩ <;> omega
            · rintro ⟨a, a0, a1, a2⟩
              refine ⟨a, a0, a1, ?_⟩
              show go_ r (E1 a) = (s + 1) * 4503599627370496 + y
              rcases gocase a a0 a1 with ⟨p1, p2⟩ | ⟨p1, p2⟩ <;> omega
          · have e5 : (gs_ (lk_ mem nT q) (r - 1) (cuP_ r 1 w.2.2.2) s).2.2.2.2 = (gs_ (lk_ mem nT q) r w.2.2.2 (s + 1)).2.2.2.2 := by
              unfold gs_ cuP_
              rw [if_neg (c := s ≤ r - 1) (by omega), if_neg (c := s + 1 ≤ r) (by omega), if_neg (c := s < r) z1]
            show _ ↔ (gs_ (lk_ mem nT q) (r - 1) (cuP_ r 1 w.2.2.2) s).2.2.2.2 y
            rw [e5, ← j4 (s + 1) (by omega) (by omega) y hy2]
            constructor
            · rintro ⟨a, a0, a1, a2⟩
              have a2 : go_ r (E1 a) = (s + 1) * 4503599627370496 + y := a2
              refine ⟨a, a0, a1, ?_⟩
              rcases gocase a a0 a1 with ⟨p1, p2⟩ | ⟨p1, p2⟩ <;> omega
            · rintro ⟨a, a0, a1, a2⟩
              refine ⟨a, a0, a1, ?_⟩
              show go_ r (E1 a) = (s + 1) * 4503599627370496 + y
              rcases gocase a a0 a1 with ⟨p1, p2⟩ | ⟨p1, p2⟩ <;> omega
  -- the stale ones of runs go
  have L : ∀ j : Int, -1 ≤ j → ∀ M1 m1 E1, fr_ (fun o c => o = 408 ∧ ((c : Int) = x + 6 ∨ (x + 215 ≤ (c : Int) ∧ (c : Int) < x + 855))) M M1 → eM_ M1 x m1 E1 → bp_ n E (fun y => y / 4503599627370496 ≠ 0 → fs_ (lk_ mem nT q) (y % 4503599627370496) = true) j m1 E1 → nk_M_repairs_30 b x n j M1 R := by
    refine lp_dn (fun j hj ih M1 m1 E1 f1 q1 hbp => ?_)
    have t1 : tM_ M1 b mem nT q := tM_fr f1 hb (fun c' hc z2 => by have := z2.2; omega) t
    have rd1 : ∀ c, 0 ≤ c → c < x + 215 → c ≠ x + 6 → nn_ri M1 408 c = nn_ri M 408 c := fun c z0 z1 z2 => fr_ri f1 (fun y => by have := y.2; omega)
    by_cases jz : j = -1
    · subst jz
      obtain ⟨m0, mn, ss, sg⟩ := bp_end hbp
      have d1 : hM_ M1 x (xn_ X) (xg_ X) := hM_cg (fun i i0 i1 => rd1 i (by omega) (by omega) (by omega)) (rd1 _ (by omega) (by omega) (by omega)) d
      refine ng_M_repairs_30 _ _ _ _ _ _ ⟨fun _ => ?_, fun z => by omega⟩
      have n0 := d1.2.1
      have n23 := d1.2.2.1
      rw [mm_w_id (x := x + 5) (by omega), d1.1, mm_w_id (x := xn_ X - 1) (by omega)]
      refine ⟨by omega, ?_⟩
      rintro _ rfl
      refine L2 (xn_ X - 1) (by omega) (by omega) M1 (xn_ X, c.1, c.2, xg_ X) m1 E1 (fr_mono f1 (fun o c z => ⟨z.1, by have := z.2; omega⟩)) d1 q1 ⟨ss, fun a a0 a1 => ?_, fun y hy => ?_, fun s s0 s1 y hy => ?_⟩ (by show xn_ X - 1 < xn_ X; omega) hv ((rd1 _ (by omega) (by omega) (by omega)).trans h8) hc.1 (by show c.2 + (xn_ X - 1) < _; omega) (by rw [show (xn_ X - 1 + 1).toNat = (xn_ X).toNat by omega])
      · obtain ⟨⟨u, u0, u1, u2⟩, _⟩ := (sg (E1 a)).mp ⟨a, a0, a1, rfl⟩
        rw [← u2]
        exact I2 u u0 u1
      · rw [sg y, I3 y hy]
        have := hy.1
        have := hy.2.1
        exact ⟨fun z => z.1, fun z => ⟨z, fun w => absurd (by omega) w⟩⟩
      · have s1 : s < xn_ X := s1
        rw [sg, I4 s s0 s1 y hy, (ve_V hy).1, (ve_V hy).2]
        unfold gs_
        rw [if_pos (by omega)]
        exact ⟨fun z => ⟨z.1, z.2 (by omega)⟩, fun z => ⟨z.1, fun _ => z.2⟩⟩
    have j0 : 0 ≤ j := by omega
    have jm : j < m1 := by have := hbp.1.1; omega
    have nx := ih (by omega)
    have ej : E1 j = E j := hbp.2.2.1 j j0 (Int.le_refl _)
    have m160 := q1.2.2.1
    have yj := q1.2.2.2 j j0 jm
    rw [ej] at yj
    have prun := yj.2.2.1
    have y0 := yj.1
    refine ng_M_repairs_30 _ _ _ _ _ _ ⟨fun z => by omega, fun _ => ?_⟩
    rw [nf_entryAt ⟨by omega, by omega⟩ ⟨by omega, by omega⟩, prun, mm_w_id (x := j + -1) (by omega), show j + -1 = j - 1 by omega]
    refine ⟨by omega, fun z => ?_, fun z => ?_⟩
    · exact nx M1 m1 E1 f1 q1 (bp_keep j0 hbp (fun w => absurd (by omega) w))
    · refine ct_M_isStale hb (by omega) t1 yj ?_
      by_cases hf : fs_ (lk_ mem nT q) (E j % 4503599627370496) = true
      · rw [if_pos hf]
        exact ⟨fun _ => nx M1 m1 E1 f1 q1 (bp_keep j0 hbp (fun _ => hf)), fun w => absurd rfl w⟩
      · rw [if_neg hf]
        refine ⟨fun w => absurd w (by decide), fun _ => ?_⟩
        refine ct_M_drops ⟨by omega, hx.2⟩ q1 ⟨j0, jm⟩ (fun M2 f2 q2 => ?_)
        exact nx M2 (m1 - 1) _ (fr_trans f1 (fr_mono f2 (fun o c z => ⟨z.1, by have := z.2; omega⟩))) q2 (bp_drop j0 hbp (fun w => hf (w (by omega))))
  exact L (n - 1) (by omega) M n E (fr_refl M) ⟨e1, e2, e3, e4⟩ (bp_0 I1)
