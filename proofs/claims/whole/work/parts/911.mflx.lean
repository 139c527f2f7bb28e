/-! the Model: a flush of an index whole -/
/-- a pass from behind, some go: what is left -/
def bp_ (n : Int) (E : Int → Int) (K : Int → Prop) (j m1 : Int) (E1 : Int → Int) : Prop := (j + 1 ≤ m1 ∧ m1 ≤ n) ∧ ss_ E1 0 m1 ∧ (∀ a, 0 ≤ a → a ≤ j → E1 a = E a) ∧ ∀ y, sg_ E1 (j + 1) m1 y ↔ (sg_ E (j + 1) n y ∧ K y)
theorem bp_0 {n : Int} {E : Int → Int} {K : Int → Prop} (h : ss_ E 0 n) : bp_ n E K (n - 1) n E := by
  refine ⟨⟨by omega, Int.le_refl _⟩, h, fun a _ _ => rfl, fun y => ⟨?_, ?_⟩⟩
  · rintro ⟨a, a0, a1, a2⟩; omega
  · rintro ⟨⟨a, a0, a1, a2⟩, _⟩; omega
theorem bp_end {n m1 : Int} {E E1 : Int → Int} {K : Int → Prop} (h : bp_ n E K (-1) m1 E1) : 0 ≤ m1 ∧ m1 ≤ n ∧ ss_ E1 0 m1 ∧ ∀ y, sg_ E1 0 m1 y ↔ (sg_ E 0 n y ∧ K y) := ⟨by have := h.1; omega, h.1.2, h.2.1, h.2.2.2⟩
theorem bp_keep {n j m1 : Int} {E E1 : Int → Int} {K : Int → Prop} (j0 : 0 ≤ j) (h : bp_ n E K j m1 E1) (hk : K (E j)) : bp_ n E K (j - 1) m1 E1 := by
  obtain ⟨⟨h1, h2⟩, h3, h4, h5⟩ := h
  have ej := h4 j j0 (Int.le_refl _)
  refine ⟨⟨by omega, h2⟩, h3, fun a a0 a1 => h4 a a0 (by omega), fun y => ?_⟩
  rw [show j - 1 + 1 = j by omega]
  constructor
  · rintro ⟨a, a0, a1, a2⟩
    by_cases z : a = j
    · rw [z, ej] at a2
      exact ⟨⟨j, Int.le_refl _, by omega, a2⟩, a2 ▸ hk⟩
    · obtain ⟨⟨u, u0, u1, u2⟩, v⟩ := (h5 y).mp ⟨a, by omega, a1, a2⟩
      exact ⟨⟨u, by omega, u1, u2⟩, v⟩
  · rintro ⟨⟨a, a0, a1, a2⟩, v⟩
    by_cases z : a = j
    · rw [z] at a2
      exact ⟨j, Int.le_refl _, by omega, ej.trans a2⟩
    · obtain ⟨u, u0, u1, u2⟩ := (h5 y).mpr ⟨⟨a, by omega, a1, a2⟩, v⟩
      exact ⟨u, by omega, u1, u2⟩
theorem bp_drop {n j m1 : Int} {E E1 : Int → Int} {K : Int → Prop} (j0 : 0 ≤ j) (h : bp_ n E K j m1 E1) (hk : ¬ K (E j)) : bp_ n E K (j - 1) (m1 - 1) (fun i => if i < j then E1 i else E1 (i + 1)) := by
  obtain ⟨⟨h1, h2⟩, h3, h4, h5⟩ := h
  refine ⟨⟨by omega, by omega⟩, fun a c a0 ac c1 => ?_, fun a a0 a1 => ?_, fun y => ?_⟩
  · show (if a < j then E1 a else E1 (a + 1)) < if c < j then E1 c else E1 (c + 1)
    by_cases z : a < j
    · rw [if_pos z]
      by_cases w : c < j
      · rw [if_pos w]; exact h3 a c a0 ac (by omega)
      · rw [if_neg w]; exact h3 a (c + 1) a0 (by omega) (by omega)
    · rw [if_neg z, if_neg (by omega)]
      exact h3 (a + 1) (c + 1) (by omega) (by omega) (by omega)
  · show (if a < j then E1 a else E1 (a + 1)) = E a
    rw [if_pos (by omega)]
    exact h4 a a0 (by omega)
  · rw [show j - 1 + 1 = j by omega]
    have mid : sg_ (fun i => if i < j then E1 i else E1 (i + 1)) j (m1 - 1) y ↔ sg_ E1 (j + 1) m1 y := by
      constructor
      · rintro ⟨a, a0, a1, a2⟩
        have a2 : (if a < j then E1 a else E1 (a + 1)) = y := a2
        rw [if_neg (by omega)] at a2
        exact ⟨a + 1, by omega, by omega, a2⟩
      · rintro ⟨a, a0, a1, a2⟩
        refine ⟨a - 1, by omega, by omega, ?_⟩
        show (if a - 1 < j then E1 (a - 1) else E1 (a - 1 + 1)) = y
        rw [if_neg (by omega), show a - 1 + 1 = a by omega]
        exact a2
    rw [mid]
    constructor
    · intro w
      obtain ⟨⟨u, u0, u1, u2⟩, v⟩ := (h5 y).mp w
      exact ⟨⟨u, by omega, u1, u2⟩, v⟩
    · rintro ⟨⟨a, a0, a1, a2⟩, v⟩
      by_cases z : a = j
      · rw [z] at a2
        rw [← a2] at v
        exact absurd v hk
      · exact (h5 y).mpr ⟨⟨a, by omega, a1, a2⟩, v⟩
/-- what MEMORY has of a key, as it lies there -/
theorem mv_raw {M : mm_M} {b : Int} {mem : ab_V} (hm : mv_ M (b + 24) = mem) {k : Int} (hk : 0 ≤ k ∧ k < 32) {p : Int × Int} (hp : mem k.toNat = some p) : nn_ri M 408 (b + 24 + k) = p.1 ∧ nn_ri M 408 (b + 24 + 32 + k) = p.2 := by
  rw [← hm] at hp
  unfold mv_ at hp
  rw [show ((k.toNat : Nat) : Int) = k by omega] at hp
  by_cases z : k.toNat < 32 ∧ 0 < nn_ri M 408 (b + 24 + k)
  · rw [if_pos z] at hp
    have := Option.some.inj hp
    rw [← this]
    exact ⟨rfl, rfl⟩
  · rw [if_neg z] at hp; cases hp
theorem stP_inP (z y : ab_P) (g : Int → ab_P) : stP_ 0 z (inP_ 0 y g) = inP_ 0 z g := by
  funext r
  unfold stP_ inP_
  by_cases h : r = 0
  · rw [if_pos h, if_neg (by omega), if_pos h]
  · rw [if_neg h]
    by_cases h2 : r < 0
    · rw [if_pos h2, if_pos h2]
    · rw [if_neg h2, if_neg h, if_neg h2, if_neg h]
/-- of the Model's index' picture: its scalars, its rule and what is kept aside -/
theorem mX_part {M M' : mm_M} {x n : Int} {X : ab_X} {A : Int → Prop} {g : Int → ab_P} (k : mX_ M x X) (h : ∀ c, x ≤ c → c < x + 143 → c ≠ x + 5 → c ≠ x + 6 → nn_ri M' 408 c = nn_ri M 408 c) (hh : hM_ M' x n g) (he : ∃ k E, eM_ M' x k E ∧ iE_ k E n g A) : mX_ M' x (X.1, X.2.1, A, X.2.2.2.1, X.2.2.2.2.1, n, g) := by
  obtain ⟨h0, h1⟩ := k
  refine ⟨(h _ (by omega) (by omega) (by omega) (by omega)).trans h0, fun z => ?_⟩
  obtain ⟨⟨a1, a2, a3, a4, a5, a6⟩, b1, c1, d, e⟩ := h1 z
  exact ⟨⟨(h _ (by omega) (by omega) (by omega) (by omega)).trans a1, (h _ (by omega) (by omega) (by omega) (by omega)).trans a2, (h _ (by omega) (by omega) (by omega) (by omega)).trans a3, fun y => (h _ (by omega) (by omega) (by omega) (by omega)).trans (a4 y), (h _ (by omega) (by omega) (by omega) (by omega)).trans a5, a6⟩, rlM_cg (fun i i0 i1 => h i (by omega) (by omega) (by omega) (by omega)) b1, kL_cg (fun i i0 i1 => h i (by omega) (by omega) (by omega) (by omega)) a6.2 c1, hh, he⟩
theorem ve_V {r y : Int} (hy : ve_ y) : (r * 4503599627370496 + y) / 4503599627370496 = r ∧ (r * 4503599627370496 + y) % 4503599627370496 = y := by
  have := hy.1
  have := hy.2.1
  omega
theorem ct_M_flX {b i st nT : Int} {mem : ab_V} {q : Int → ab_R} {c : Int × Int} {X : ab_X} {M : mm_M} {R : mm_M → Prop} (hb : bk_ b) (hi : 0 ≤ i ∧ i < 4) (h0 : xh_ X ≠ 0) (t : tM_ M b mem nT q) (k : mX_ M (xi_ b i) X) (hA : ∀ y, xA_ X y → ve_ y ∧ ∃ p, mem (ek_ y).toNat = some p ∧ et_ y ≤ p.1) (hst : nn_ri M 408 b = st) (h8 : nn_ri M 408 (b + 8) = c.2) (hc : 0 ≤ c.2 ∧ c.2 < 2000000000) (hn : xn_ X ≤ 22)
    (h : ∀ M', fr_ (mxi_ b (xi_ b i)) M M' → nn_ri M' 408 (b + 8) = (lay_ st mem c X).1.2 → mX_ M' (xi_ b i) (lay_ st mem c X).2 → R M') : nr_M_flushesIndex b i M R := by
  have hb' := hb
  unfold bk_ at hb'
  have hx : b + 1784 ≤ xi_ b i ∧ xi_ b i + 855 ≤ 32844 := by unfold xi_; omega
  have hat : nf_M_at b i = xi_ b i := nf_at hb hi
  generalize xi_ b i = x at hx k h hat
  obtain ⟨⟨a1, a2, a3, a4, a5, a6⟩, b1, c1, d, n, E, e, I1, I2, I3, I4⟩ := k.2 h0
  obtain ⟨e1, e2, e3, e4⟩ := e
  refine ng_M_flushesIndex _ _ _ _ ?_
  rw [hat, mm_w_id (x := x + 6) (by omega), e1, mm_w_id (x := n - 1) (by omega)]
  refine ⟨by omega, ?_⟩
  rintro _ rfl
  -- the end
  have fin : ∀ M1 m1 E1, fr_ (fun o c => o = 408 ∧ ((c : Int) = x + 6 ∨ (x + 215 ≤ (c : Int) ∧ (c : Int) < x + 855))) M M1 → eM_ M1 x m1 E1 → bp_ n E (fun y => y / 4503599627370496 = 0 → fs_ mem (y % 4503599627370496) = true) (-1) m1 E1 → nk_M_flushesIndex_19 b x (-1) M1 R := by
    intro M1 m1 E1 f1 q1 hbp
    obtain ⟨m0, mn, ss, sg⟩ := bp_end hbp
    have rd1 : ∀ c, 0 ≤ c → c < x + 215 → c ≠ x + 6 → nn_ri M1 408 c = nn_ri M 408 c := fun c z0 z1 z2 => fr_ri f1 (fun y => by have := y.2; omega)
    have d1 : hM_ M1 x (xn_ X) (xg_ X) := hM_cg (fun i i0 i1 => rd1 i (by omega) (by omega) (by omega)) (rd1 _ (by omega) (by omega) (by omega)) d
    refine ng_M_flushesIndex_19 _ _ _ _ _ ⟨fun _ => ?_, fun z => by omega⟩
    refine ct_M_entriesOf ⟨by omega, hx.2⟩ q1 ?_
    have fresh : ∀ y, ve_ y → (sg_ E1 0 m1 y ↔ (xA_ X y ∧ fs_ mem y = true)) := by
      intro y hy
      rw [sg y, I3 y hy]
      have e : y / 4503599627370496 = 0 ∧ y % 4503599627370496 = y := by have := hy.1; have := hy.2.1; omega
      rw [e.1, e.2]
      exact ⟨fun z => ⟨z.1, z.2 rfl⟩, fun z => ⟨z.1, fun _ => z.2⟩⟩
    have older : ∀ r, 0 ≤ r → r < xn_ X → ∀ y, ve_ y → (sg_ E1 0 m1 ((r + 1) * 4503599627370496 + y) ↔ (xg_ X r).2.2.2.2 y) := by
      intro r r0 r1 y hy
      rw [sg, I4 r r0 r1 y hy, (ve_V hy).1]
      exact ⟨fun z => z.1, fun z => ⟨z, fun w => by omega⟩⟩
    have runs : ∀ e, 0 ≤ e → e < m1 → E1 e / 4503599627370496 ≤ xn_ X ∧ 0 ≤ E1 e ∧ ve_ (E1 e % 4503599627370496) := by
      intro e e0 e1
      obtain ⟨⟨a, a0, a1, a2⟩, _⟩ := (sg (E1 e)).mp ⟨e, e0, e1, rfl⟩
      have := q1.2.2.2 e e0 e1
      exact ⟨by rw [← a2]; exact I2 a a0 a1, this.1, this.2.1⟩
    by_cases hy : ∃ y, xA_ X y ∧ fs_ mem y = true
    · rw [lay_1 h0 hy] at h
      have pos : ct_ (fun e => E1 e / 4503599627370496 == 0) 0 m1.toNat ≠ 0 := by
        obtain ⟨y, y1, y2⟩ := hy
        have vy := (hA y y1).1
        obtain ⟨a, a0, a1, a2⟩ := (fresh y vy).mpr ⟨y1, y2⟩
        have := ct_pos (p := fun e => E1 e / 4503599627370496 == 0) (s := 0) (m := m1.toNat) (i := a) a0 (by omega) (by
          show (E1 a / 4503599627370496 == 0) = true
          rw [a2, beq_iff_eq]
          have := vy.1; have := vy.2.1; omega)
        omega
      refine ⟨fun _ => ?_, fun z => absurd z pos⟩
      rw [mm_w_id (x := x + 5) (by omega), d1.1, nf_head ⟨by omega, by omega⟩ ⟨by have := d1.2.1; omega, by have := d1.2.2.1; omega⟩, mm_w_id (x := x + 143 + 3 * xn_ X - 1) (by have := d1.2.1; have := d1.2.2.1; omega)]
      refine ⟨by omega, ?_⟩
      rintro _ rfl
      refine ct_M_flHeads ⟨by omega, hx.2⟩ d1 hn (fun M2 f2 d2 => ?_)
      have rd2 : ∀ c, 0 ≤ c → c ≠ x + 5 → c < x + 146 ∨ x + 215 ≤ c → nn_ri M2 408 c = nn_ri M1 408 c := fun c z0 z1 z2 => fr_ri f2 (fun y => by have := y.2; omega)
      have q2 : eM_ M2 x m1 E1 := eM_cg (fun i i0 i1 => rd2 i (by omega) (by omega) (by omega)) (rd2 _ (by omega) (by omega) (by omega)) q1
      have g8 : nn_ri M2 408 (b + 8) = c.2 := (rd2 _ (by omega) (by omega) (by omega)).trans ((rd1 _ (by omega) (by omega) (by omega)).trans h8)
      have g0 : nn_ri M2 408 b = st := (rd2 _ (by omega) (by omega) (by omega)).trans ((rd1 _ (by omega) (by omega) (by omega)).trans hst)
      refine ct_M_flLast (c.1 + 1) (fun y => xA_ X y ∧ fs_ mem y = true) hb hx d2 (by have := d1.2.1; omega) q2 (fun e e0 e1 => by have := (runs e e0 e1).1; omega) (by omega) (fun M3 f3 v8 d3 q3 => ?_)
      rw [g8] at v8 d3
      rw [g0, stP_inP] at d3
      have rd3 : ∀ c, 0 ≤ c → c ≠ b + 8 → c < x + 143 → nn_ri M3 408 c = nn_ri M2 408 c := fun c z0 z1 z2 => fr_ri f3 (fun y => by have := y.2; omega)
      refine h M3 (fr_trans (fr_mono f1 (fun o c z => ⟨z.1, by have := z.2; omega⟩)) (fr_trans (fr_mono f2 (fun o c z => ⟨z.1, by have := z.2; omega⟩)) (fr_mono f3 (fun o c z => ⟨z.1, by have := z.2; omega⟩)))) v8 ?_
      refine mX_part (A := fun _ => False) k (fun c z0 z1 z2 z3 => (rd3 c (by omega) (by omega) (by omega)).trans ((rd2 c (by omega) (by omega) (by omega)).trans (rd1 c (by omega) (by omega) (by omega)))) d3 ⟨m1, _, q3, ?_⟩
      refine ⟨fun a c a0 ac c1 => by have := ss a c a0 ac c1; show E1 a + 4503599627370496 < E1 c + 4503599627370496; omega, fun e e0 e1 => by have := (runs e e0 e1).1; show (E1 e + 4503599627370496) / 4503599627370496 ≤ xn_ X + 1; omega, fun y hy => ⟨?_, fun z => z.elim⟩, fun r r0 r1 y hy => ?_⟩
      · rintro ⟨a, a0, a1, a2⟩
        have a2 : E1 a + 4503599627370496 = y := a2
        have := (runs a a0 a1).2.1
        have := hy.2.1
        omega
      · have sh : sg_ (fun e => E1 e + 4503599627370496) 0 m1 ((r + 1) * 4503599627370496 + y) ↔ sg_ E1 0 m1 (r * 4503599627370496 + y) := by
          constructor
          · rintro ⟨a, a0, a1, a2⟩
            have a2 : E1 a + 4503599627370496 = (r + 1) * 4503599627370496 + y := a2
            exact ⟨a, a0, a1, by omega⟩
          · rintro ⟨a, a0, a1, a2⟩
            exact ⟨a, a0, a1, by show E1 a + 4503599627370496 = (r + 1) * 4503599627370496 + y; omega⟩
        rw [sh]
        unfold inP_
        rw [if_neg (by omega)]
        by_cases z : r = 0
        · rw [if_pos z, z, show (0 : Int) * 4503599627370496 + y = y by omega]
          exact fresh y hy
        · rw [if_neg z]
          have := older (r - 1) (by omega) (by omega) y hy
          rw [show r - 1 + 1 = r by omega] at this
          exact this
    · rw [lay_2 h0 hy] at h
      have nul : ct_ (fun e => E1 e / 4503599627370496 == 0) 0 m1.toNat = 0 := ct_0 (fun a a0 a1 => by
        show (E1 a / 4503599627370496 == 0) = false
        rw [beq_eq_false_iff_ne]
        intro z
        have hr := runs a a0 (by omega)
        have e2 : E1 a % 4503599627370496 = E1 a := by omega
        rw [e2] at hr
        exact hy ⟨E1 a, (fresh _ hr.2.2).mp ⟨a, a0, by omega, rfl⟩⟩)
      refine ⟨fun z => absurd nul z, fun _ => ?_⟩
      refine h M1 (fr_mono f1 (fun o c z => ⟨z.1, by have := z.2; omega⟩)) ((rd1 _ (by omega) (by omega) (by omega)).trans h8) ?_
      refine mX_part (A := fun _ => False) k (fun c z0 z1 z2 z3 => rd1 c (by omega) (by omega) (by omega)) d1 ⟨m1, E1, q1, ss, fun e e0 e1 => (runs e e0 e1).1, fun y vy => ⟨fun z => hy ⟨y, (fresh y vy).mp z⟩, fun z => z.elim⟩, older⟩
  -- the pass
  have L : ∀ j : Int, -1 ≤ j → ∀ M1 m1 E1, fr_ (fun o c => o = 408 ∧ ((c : Int) = x + 6 ∨ (x + 215 ≤ (c : Int) ∧ (c : Int) < x + 855))) M M1 → eM_ M1 x m1 E1 → bp_ n E (fun y => y / 4503599627370496 = 0 → fs_ mem (y % 4503599627370496) = true) j m1 E1 → nk_M_flushesIndex_19 b x j M1 R := by
    refine lp_dn (fun j hj ih M1 m1 E1 f1 q1 hbp => ?_)
    by_cases jz : j = -1
    · subst jz; exact fin M1 m1 E1 f1 q1 hbp
    have j0 : 0 ≤ j := by omega
    have jm : j < m1 := by have := hbp.1.1; omega
    have jn : j < n := by have := hbp.1.2; omega
    have nx := ih (by omega)
    have ej : E1 j = E j := hbp.2.2.1 j j0 (Int.le_refl _)
    have m160 := q1.2.2.1
    have yj := q1.2.2.2 j j0 jm
    rw [ej] at yj
    have prun := yj.2.2.1
    have rdm : ∀ c, b ≤ c → c < x → nn_ri M1 408 c = nn_ri M 408 c := fun c z0 z1 => fr_ri f1 (fun y => by have := y.2; omega)
    have hek := ek_in (E j % 4503599627370496)
    refine ng_M_flushesIndex_19 _ _ _ _ _ ⟨fun z => by omega, fun _ => ?_⟩
    rw [nf_entryAt ⟨by omega, by omega⟩ ⟨by omega, by omega⟩, mm_w_id (x := x + 215 + 4 * j + 2) (by omega), mm_w_id (x := x + 215 + 4 * j + 3) (by omega), yj.2.2.2.2.1, yj.2.2.2.2.2, prun, mm_w_id (x := b + 24) (by omega), mm_w_id (x := b + 24 + ek_ (E j % 4503599627370496)) (by omega), rdm (b + 24 + ek_ (E j % 4503599627370496)) (by omega) (by omega), mm_w_id (x := j + -1) (by omega), show j + -1 = j - 1 by omega]
    have test : E j / 4503599627370496 = 0 → (fs_ mem (E j % 4503599627370496) = true ↔ nn_ri M 408 (b + 24 + ek_ (E j % 4503599627370496)) ≤ et_ (E j % 4503599627370496)) := by
      intro z
      have e0 := yj.1
      have e2 : E j % 4503599627370496 = E j := by omega
      have vj := yj.2.1
      rw [e2] at vj ⊢
      obtain ⟨_, p, hp, hle⟩ := hA (E j) ((I3 _ vj).mp ⟨j, j0, jn, rfl⟩)
      have hraw := (mv_raw t.1 (k := ek_ (E j)) (ek_in _) hp).1
      rw [hraw]
      unfold fs_
      rw [hp]
      show (p.1 == et_ (E j)) = true ↔ _
      rw [beq_iff_eq]
      omega
    refine ⟨by omega, fun _ => by omega, fun _ => by omega, fun _ => by omega, fun z => ?_, fun z => ?_⟩
    · exact nx M1 m1 E1 f1 q1 (bp_keep j0 hbp (fun w => (test w).mpr (z.resolve_left (fun y => y w))))
    · refine ct_M_drops ⟨by omega, hx.2⟩ q1 ⟨j0, jm⟩ (fun M2 f2 q2 => ?_)
      exact nx M2 (m1 - 1) _ (fr_trans f1 (fr_mono f2 (fun o c z => ⟨z.1, by have := z.2; omega⟩))) q2 (bp_drop j0 hbp (fun w => by have := (test z.1).mp (w z.1); omega))
  exact L (n - 1) (by omega) M n E (fr_refl M) ⟨e1, e2, e3, e4⟩ (bp_0 I1)
