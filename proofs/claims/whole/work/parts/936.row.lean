/-! the row of an index' entries, one for both sides -/
def hE_ (k : Int) (E : Int → Int) : Prop := ∀ e, 0 ≤ e → e < k → 0 ≤ E e ∧ ve_ (E e % 4503599627370496)
theorem iE_cnt2 {k n : Int} {E : Int → Int} {g : Int → ab_P} {A : Int → Prop} (e2 : 0 ≤ k) (e4 : hE_ k E) (I : iE_ k E n g A) (hn : 0 ≤ n) (hA : ∀ y, A y → ve_ y) (hv : vl_ n g) : k = cz_ A + pz_ g n := by
  obtain ⟨I1, I2, I3, I4⟩ := I
  have hV : (ven_ : Int) = 4503599627370496 := by rw [ven_eq]; rfl
  have rp : rp_ k E (sg_ E 0 k) := ⟨fun i i0 i1 => ⟨i, i0, i1, rfl⟩, fun y hy => hy, fun i j i0 ij j1 => I1 i j i0 ij j1⟩
  have hrng : ∀ y, sg_ E 0 k y → 0 ≤ y ∧ y < (((n.toNat + 1) * ven_ : Nat) : Int) := by
    rintro y ⟨i, i0, i1, rfl⟩
    have h1 := (e4 i i0 i1).1
    have h2 := I2 i i0 i1
    rw [Int.natCast_mul, hV, Int.natCast_add]
    omega
  have hk := rp_cn e2 rp hrng
  rw [hk, cn_blocks, show n.toNat + 1 = 1 + n.toNat by omega, sm_add]
  have b0 : sm_ (fun r => ((cn_ (fun j => pb2_ (sg_ E 0 k) (r.toNat * ven_ + j)) ven_ : Nat) : Int)) 1 = cz_ A := by
    show 0 + ((cn_ (fun j => pb2_ (sg_ E 0 k) (0 * ven_ + j)) ven_ : Nat) : Int) = _
    have : cn_ (fun j => pb2_ (sg_ E 0 k) (0 * ven_ + j)) ven_ = cn_ (pb2_ A) ven_ := cn_cg (fun j hj => pb2_cg (by
      rw [show 0 * ven_ + j = j by omega]
      constructor
      · rintro ⟨i, i0, i1, i2⟩
        have h1 := (e4 i i0 i1).2
        have hj2 : (j : Int) < ven_ := by omega
        rw [hV] at hj2
        have h3 : E i % 4503599627370496 = (j : Int) := by omega
        rw [h3] at h1
        exact (I3 _ h1).mp ⟨i, i0, i1, i2⟩
      · intro z
        exact (I3 _ (hA _ z)).mpr z))
    rw [this]
    unfold cz_
    omega
  have b1 : sm_ (fun j => (fun r => ((cn_ (fun j => pb2_ (sg_ E 0 k) (r.toNat * ven_ + j)) ven_ : Nat) : Int)) (((1 : Nat) : Int) + j)) n.toNat = pz_ g n := by
    refine sm_cg (fun r r0 r1 => ?_)
    show ((cn_ (fun j => pb2_ (sg_ E 0 k) ((((1 : Nat) : Int) + r).toNat * ven_ + j)) ven_ : Nat) : Int) = cz_ (g r).2.2.2.2
    have : cn_ (fun j => pb2_ (sg_ E 0 k) ((((1 : Nat) : Int) + r).toNat * ven_ + j)) ven_ = cn_ (pb2_ (g r).2.2.2.2) ven_ := cn_cg (fun j hj => pb2_cg (by
      have ec : (((((1 : Nat) : Int) + r).toNat * ven_ + j : Nat) : Int) = (r + 1) * 4503599627370496 + (j : Int) := by
        rw [Int.natCast_add, Int.natCast_mul, hV, show (((((1 : Nat) : Int) + r).toNat : Nat) : Int) = r + 1 by omega]
      rw [ec]
      have hj2 : (j : Int) < ven_ := by omega
      rw [hV] at hj2
      constructor
      · rintro ⟨i, i0, i1, i2⟩
        have h1 := (e4 i i0 i1).2
        have h3 : E i % 4503599627370496 = (j : Int) := by omega
        rw [h3] at h1
        exact (I4 r r0 (by omega) _ h1).mp ⟨i, i0, i1, i2⟩
      · intro z
        exact (I4 r r0 (by omega) _ (hv r r0 (by omega) _ z)).mpr z))
    rw [this]
    rfl
  rw [b0, b1]
theorem iE_sg {k n : Int} {E : Int → Int} {g : Int → ab_P} {A : Int → Prop} (I : iE_ k E n g A) (h : hE_ k E) (y : Int) : sg_ E 0 k y ↔ (0 ≤ y ∧ ve_ (y % 4503599627370496) ∧ ((y / 4503599627370496 = 0 ∧ A (y % 4503599627370496)) ∨ (0 ≤ y / 4503599627370496 - 1 ∧ y / 4503599627370496 - 1 < n ∧ (g (y / 4503599627370496 - 1)).2.2.2.2 (y % 4503599627370496)))) := by
  obtain ⟨I1, I2, I3, I4⟩ := I
  constructor
  · rintro ⟨i, i0, i1, rfl⟩
    obtain ⟨h1, h2⟩ := h i i0 i1
    have h3 := I2 i i0 i1
    refine ⟨h1, h2, ?_⟩
    by_cases z : E i / 4503599627370496 = 0
    · refine Or.inl ⟨z, (I3 _ h2).mp ⟨i, i0, i1, by omega⟩⟩
    · refine Or.inr ⟨by omega, by omega, (I4 _ (by omega) (by omega) _ h2).mp ⟨i, i0, i1, by omega⟩⟩
  · rintro ⟨h1, h2, h3⟩
    rcases h3 with ⟨a, b⟩ | ⟨a, b, c⟩
    · have := (I3 _ h2).mpr b
      rw [show y % 4503599627370496 = y by omega] at this
      exact this
    · have := (I4 _ a b _ h2).mpr c
      rw [show (y / 4503599627370496 - 1 + 1) * 4503599627370496 + y % 4503599627370496 = y by omega] at this
      exact this
theorem iE_one {k n : Int} {E F : Int → Int} {g : Int → ab_P} {A : Int → Prop} (hk : 0 ≤ k) (I : iE_ k E n g A) (h : hE_ k E) (J : iE_ k F n g A) (h' : hE_ k F) : ∀ e, 0 ≤ e → e < k → E e = F e := by
  have r1 : rp_ k E (sg_ E 0 k) := ⟨fun i i0 i1 => ⟨i, i0, i1, rfl⟩, fun y hy => hy, fun i j i0 ij j1 => I.1 i j i0 ij j1⟩
  have r2 : rp_ k F (sg_ F 0 k) := ⟨fun i i0 i1 => ⟨i, i0, i1, rfl⟩, fun y hy => hy, fun i j i0 ij j1 => J.1 i j i0 ij j1⟩
  exact (rp_one hk hk r1 (rp_S r2 (fun y => (iE_sg J h' y).trans (iE_sg I h y).symm))).2
noncomputable def eX_ (X : ab_X) : Int → Int := Classical.epsilon (fun E => iE_ (sz_ X) E (xn_ X) (xg_ X) (xA_ X) ∧ hE_ (sz_ X) E)
theorem sz_nn (X : ab_X) : 0 ≤ sz_ X := by
  have := cz_nn (xA_ X)
  have := pz_nn (xg_ X) (xn_ X)
  unfold sz_
  omega
theorem eX_of {X : ab_X} {E : Int → Int} (I : iE_ (sz_ X) E (xn_ X) (xg_ X) (xA_ X)) (h : hE_ (sz_ X) E) : iE_ (sz_ X) (eX_ X) (xn_ X) (xg_ X) (xA_ X) ∧ hE_ (sz_ X) (eX_ X) ∧ ∀ e, 0 ≤ e → e < sz_ X → E e = eX_ X e := by
  have := Classical.epsilon_spec (p := fun E => iE_ (sz_ X) E (xn_ X) (xg_ X) (xA_ X) ∧ hE_ (sz_ X) E) ⟨E, I, h⟩
  exact ⟨this.1, this.2, iE_one (sz_nn X) I h this.1 this.2⟩
/-- where run r's entries start in the row -/
noncomputable def xt_ (X : ab_X) (r : Int) : Int := cz_ (xA_ X) + pz_ (xg_ X) r
theorem cut_ {P : Int → Prop} : ∀ k : Nat, (∀ a b, 0 ≤ a → a < b → b < (k : Int) → P b → P a) → ∃ c : Int, (0 ≤ c ∧ c ≤ k) ∧ (∀ e, 0 ≤ e → e < c → P e) ∧ ∀ e, c ≤ e → e < k → ¬ P e
  | 0, _ => ⟨0, by omega, fun e e0 e1 => by omega, fun e e0 e1 => by omega⟩
  | k + 1, h => by
    obtain ⟨c, c1, c2, c3⟩ := cut_ k (fun a b a0 ab bk => h a b a0 ab (by omega))
    by_cases z : P (k : Int)
    · refine ⟨(k : Int) + 1, by omega, fun e e0 e1 => ?_, fun e e0 e1 => by omega⟩
      by_cases y : e = (k : Int)
      · rw [y]; exact z
      · exact h e k e0 (by omega) (by omega) z
    · refine ⟨c, by omega, c2, fun e e0 e1 => ?_⟩
      by_cases y : e = (k : Int)
      · rw [y]; exact z
      · exact c3 e e0 (by omega)
theorem iE_div {k n : Int} {E : Int → Int} {g : Int → ab_P} {A : Int → Prop} (hk : 0 ≤ k) (I : iE_ k E n g A) (h : hE_ k E) (hA : ∀ y, A y → ve_ y) (hv : vl_ n g) {r : Int} (hr : 0 ≤ r ∧ r ≤ n) : (cz_ A + pz_ g r ≤ k) ∧ ∀ e, 0 ≤ e → e < k → (E e / 4503599627370496 ≤ r ↔ e < cz_ A + pz_ g r) := by
  obtain ⟨c, c1, c2, c3⟩ := cut_ (P := fun e => E e / 4503599627370496 ≤ r) k.toNat (fun a b a0 ab bk hb => by
    have h1 := I.1 a b a0 ab (by omega)
    have hb : E b / 4503599627370496 ≤ r := hb
    show E a / 4503599627370496 ≤ r
    omega)
  have Ic : iE_ c E r g A := by
    have hI := I
    obtain ⟨I1, I2, I3, I4⟩ := I
    refine ⟨fun a b a0 ab bc => I1 a b a0 ab (by omega), c2, fun y hy => ?_, fun q q0 q1 y hy => ?_⟩
    · rw [← I3 y hy]
      constructor
      · rintro ⟨i, i0, i1, i2⟩
        exact ⟨i, i0, by omega, i2⟩
      · rintro ⟨i, i0, i1, i2⟩
        refine ⟨i, i0, ?_, i2⟩
        by_cases z : i < c
        · exact z
        · have h3 : ¬ E i / 4503599627370496 ≤ r := c3 i (by omega) (by omega)
          unfold ve_ at hy
          omega
    · rw [← I4 q q0 (by omega) y hy]
      constructor
      · rintro ⟨i, i0, i1, i2⟩
        exact ⟨i, i0, by omega, i2⟩
      · rintro ⟨i, i0, i1, i2⟩
        refine ⟨i, i0, ?_, i2⟩
        by_cases z : i < c
        · exact z
        · have h3 : ¬ E i / 4503599627370496 ≤ r := c3 i (by omega) (by omega)
          unfold ve_ at hy
          omega
  have hc := iE_cnt2 c1.1 (fun e e0 e1 => h e e0 (by omega)) Ic hr.1 hA (fun q q0 q1 => hv q q0 (by omega))
  rw [← hc]
  refine ⟨by omega, fun e e0 e1 => ⟨fun z => ?_, fun z => c2 e e0 z⟩⟩
  by_cases y : e < c
  · exact y
  · exact absurd z (c3 e (by omega) (by omega))
/-- the Model's -/
theorem mX_row {M : mm_M} {x : Int} {X : ab_X} (k : mX_ M x X) (h0 : xh_ X ≠ 0) (vA : ∀ y, xA_ X y → ve_ y) (vP : vl_ (xn_ X) (xg_ X)) : eM_ M x (sz_ X) (eX_ X) ∧ iE_ (sz_ X) (eX_ X) (xn_ X) (xg_ X) (xA_ X) ∧ hE_ (sz_ X) (eX_ X) := by
  obtain ⟨_, _, _, d, kk, E, e, I⟩ := k.2 h0
  have hE : hE_ kk E := fun q q0 q1 => ⟨(e.2.2.2 q q0 q1).1, (e.2.2.2 q q0 q1).2.1⟩
  have hc : kk = sz_ X := iE_cnt2 e.2.1 hE I d.2.1 vA vP
  rw [hc] at I e hE
  obtain ⟨h1, h2, h3⟩ := eX_of I hE
  exact ⟨eM_ext (fun q q0 q1 => (h3 q q0 q1).symm) e, h1, h2⟩
/-- the class's -/
def cE_ (m : Int) (I Ent T : Int → Int) : Nat → (Int → Int)
  | 0 => I
  | r + 1 => F1_ (cE_ m I Ent T r) (fun t => Ent (T r + t)) (m + T r) r
theorem cE_at {m : Int} {I Ent T : Int → Int} : ∀ {n : Nat}, (∀ a b : Int, 0 ≤ a → a ≤ b → b ≤ n → T a ≤ T b) → (T 0 = 0) → (∀ i, i < m → cE_ m I Ent T n i = I i) ∧ ∀ r : Int, 0 ≤ r → r < n → ∀ i, m + T r ≤ i → i < m + T (r + 1) → cE_ m I Ent T n i = (r + 1) * 4503599627370496 + Ent (i - m)
  | 0, _, _ => ⟨fun i _ => rfl, fun r r0 r1 => by omega⟩
  | n + 1, hT, h0 => by
    obtain ⟨h1, h2⟩ := cE_at (m := m) (I := I) (Ent := Ent) (T := T) (n := n) (fun a b a0 ab bn => hT a b a0 ab (by omega)) h0
    have t0 := hT 0 n (Int.le_refl _) (by omega) (by omega)
    refine ⟨fun i hi => ?_, fun r r0 r1 i i0 i1 => ?_⟩
    · show (if i < m + T n then cE_ m I Ent T n i else _) = I i
      rw [if_pos (by omega)]
      exact h1 i hi
    · show (if i < m + T n then cE_ m I Ent T n i else ((n : Int) + 1) * 4503599627370496 + Ent (T n + (i - (m + T n)))) = _
      by_cases z : r = (n : Int)
      · rw [z] at i0 i1 ⊢
        rw [if_neg (by omega), show T n + (i - (m + T n)) = i - m by omega]
      · have := hT (r + 1) n (by omega) (by omega) (by omega)
        rw [if_pos (by omega)]
        exact h2 r r0 (by omega) i i0 i1
theorem cE_iE {M : mm_M} {x : Nat} {m n : Int} {A : Int → Prop} {g : Int → ab_P} (hm : 0 ≤ m) (hs : rp_ m (nn_ri M (x + 5)) A) (vA : ∀ y, A y → ve_ y) (k : pl_ M (x + 8) n g) (vP : vl_ n g) : ∀ r : Nat, (r : Int) ≤ n → iE_ (m + nn_ri M (x + 10) r) (cE_ m (nn_ri M (x + 5)) (nn_ri M (x + 9)) (nn_ri M (x + 10)) r) r g A ∧ hE_ (m + nn_ri M (x + 10) r) (cE_ m (nn_ri M (x + 5)) (nn_ri M (x + 9)) (nn_ri M (x + 10)) r)
  | 0, _ => by
    have t0 : nn_ri M (x + 10) 0 = 0 := k.2.1.1
    rw [show ((0 : Nat) : Int) = 0 from rfl, t0, show m + 0 = m by omega]
    refine ⟨⟨fun i j i0 ij j1 => hs.2.2 i j i0 ij j1, fun e e0 e1 => ?_, fun y hy => ⟨?_, fun z => hs.2.1 y z⟩, fun r r0 r1 => by omega⟩, fun e e0 e1 => ?_⟩
    · have := vA _ (hs.1 e e0 e1)
      unfold ve_ at this
      show nn_ri M (x + 5) e / 4503599627370496 ≤ 0
      omega
    · rintro ⟨i, i0, i1, i2⟩
      rw [← i2]
      exact hs.1 i i0 i1
    · have := vA _ (hs.1 e e0 e1)
      have h2 := this
      unfold ve_ at h2
      show 0 ≤ nn_ri M (x + 5) e ∧ ve_ (nn_ri M (x + 5) e % 4503599627370496)
      rw [show nn_ri M (x + 5) e % 4503599627370496 = nn_ri M (x + 5) e by omega]
      exact ⟨h2.1, this⟩
  | r + 1, hr => by
    obtain ⟨ih, ihE⟩ := cE_iE hm hs vA k vP r (by omega)
    have rs := k.2.2.2 (r : Int) (by omega) (by omega) (by omega)
    have hle := pm_le k (a := (r : Int)) (b := (r : Int) + 1) (by omega) (by omega) (by omega)
    have t0 := pm_le k (a := 0) (b := (r : Int)) (by omega) (by omega) (by omega)
    have e10 : x + 8 + 2 = x + 10 := by omega
    have e9 : x + 8 + 1 = x + 9 := by omega
    rw [e10] at hle t0 rs
    rw [e9] at rs
    have z0 : nn_ri M (x + 10) 0 = 0 := k.2.1.1
    have ve : ∀ t, 0 ≤ t → t < nn_ri M (x + 10) ((r : Int) + 1) - nn_ri M (x + 10) r → ve_ (nn_ri M (x + 9) (nn_ri M (x + 10) r + t)) := fun t t0 t1 => vP r (by omega) (by omega) _ ((rs.2 _).mp ⟨nn_ri M (x + 10) r + t, by omega, by omega, rfl⟩)
    have ec : ((r + 1 : Nat) : Int) = (r : Int) + 1 := by omega
    have em : m + nn_ri M (x + 10) ((r : Int) + 1) = m + nn_ri M (x + 10) r + (nn_ri M (x + 10) ((r : Int) + 1) - nn_ri M (x + 10) r) := by omega
    rw [ec, em]
    have hK : ∀ y, (g r).2.2.2.2 y ↔ ∃ i, 0 ≤ i ∧ i < nn_ri M (x + 10) ((r : Int) + 1) - nn_ri M (x + 10) r ∧ nn_ri M (x + 9) (nn_ri M (x + 10) r + i) = y := by
      intro y
      rw [← rs.2 y]
      constructor
      · rintro ⟨i, i0, i1, i2⟩
        exact ⟨i - nn_ri M (x + 10) r, by omega, by omega, by rw [show nn_ri M (x + 10) r + (i - nn_ri M (x + 10) r) = i by omega]; exact i2⟩
      · rintro ⟨i, i0, i1, i2⟩
        exact ⟨nn_ri M (x + 10) r + i, by omega, by omega, i2⟩
    have ss : ss_ (F1_ (cE_ m (nn_ri M (x + 5)) (nn_ri M (x + 9)) (nn_ri M (x + 10)) r) (fun t => nn_ri M (x + 9) (nn_ri M (x + 10) r + t)) (m + nn_ri M (x + 10) r) r) 0 (m + nn_ri M (x + 10) r + (nn_ri M (x + 10) ((r : Int) + 1) - nn_ri M (x + 10) r)) := by
      intro a c a0 ac c1
      unfold F1_
      by_cases z2 : c < m + nn_ri M (x + 10) r
      · rw [if_pos (by omega), if_pos z2]; exact ih.1 a c a0 ac z2
      · rw [if_neg z2]
        by_cases z1 : a < m + nn_ri M (x + 10) r
        · rw [if_pos z1]
          have h1 := ih.2.1 a a0 z1
          have h2 := ve (c - (m + nn_ri M (x + 10) r)) (by omega) (by omega)
          unfold ve_ at h2
          dsimp only
          omega
        · rw [if_neg z1]
          have := rs.1 (nn_ri M (x + 10) r + (a - (m + nn_ri M (x + 10) r))) (nn_ri M (x + 10) r + (c - (m + nn_ri M (x + 10) r))) (by omega) (by omega) (by omega)
          dsimp only
          omega
    have I := iE_F1 (x := g r) (by omega) (by omega) (by omega) ih (fun e e0 e1 => (ihE e e0 e1).1) ve hK rfl ss (fun y => Iff.rfl)
    refine ⟨⟨I.1, I.2.1, I.2.2.1, fun q q0 q1 y hy => ?_⟩, fun e e0 e1 => ?_⟩
    · have := I.2.2.2 q q0 q1 y hy
      refine this.trans ?_
      by_cases z : q < (r : Int)
      · rw [inP_lo z]
      · rw [show q = (r : Int) by omega, inP_at]
    · show 0 ≤ F1_ (cE_ m (nn_ri M (x + 5)) (nn_ri M (x + 9)) (nn_ri M (x + 10)) r) (fun t => nn_ri M (x + 9) (nn_ri M (x + 10) r + t)) (m + nn_ri M (x + 10) r) r e ∧ ve_ (F1_ (cE_ m (nn_ri M (x + 5)) (nn_ri M (x + 9)) (nn_ri M (x + 10)) r) (fun t => nn_ri M (x + 9) (nn_ri M (x + 10) r + t)) (m + nn_ri M (x + 10) r) r e % 4503599627370496)
      unfold F1_
      by_cases z : e < m + nn_ri M (x + 10) r
      · rw [if_pos z]; exact ihE e e0 z
      · rw [if_neg z]
        have h2 := ve (e - (m + nn_ri M (x + 10) r)) (by omega) (by omega)
        have h3 := h2
        unfold ve_ at h3
        dsimp only
        rw [show (((r : Int) + 1) * 4503599627370496 + nn_ri M (x + 9) (nn_ri M (x + 10) r + (e - (m + nn_ri M (x + 10) r)))) % 4503599627370496 = nn_ri M (x + 9) (nn_ri M (x + 10) r + (e - (m + nn_ri M (x + 10) r))) by omega]
        exact ⟨by omega, h2⟩
theorem cX_row {M : mm_M} {x : Nat} {lat : ab_V} {X : ab_X} (k : cX_ M x lat X) (h0 : xh_ X ≠ 0) (vA : ∀ y, xA_ X y → ve_ y) (vP : vl_ (xn_ X) (xg_ X)) : (nn_rf M (x + 4) 1 = cz_ (xA_ X) ∧ (∀ r, 0 ≤ r → r ≤ xn_ X → nn_ri M (x + 10) r = pz_ (xg_ X) r)) ∧ (iE_ (sz_ X) (eX_ X) (xn_ X) (xg_ X) (xA_ X) ∧ hE_ (sz_ X) (eX_ X)) ∧ (∀ i, 0 ≤ i → i < cz_ (xA_ X) → nn_ri M (x + 5) i = eX_ X i) ∧ ∀ r, 0 ≤ r → r < xn_ X → ∀ i, pz_ (xg_ X) r ≤ i → i < pz_ (xg_ X) (r + 1) → eX_ X (cz_ (xA_ X) + i) = (r + 1) * 4503599627370496 + nn_ri M (x + 9) i := by
  obtain ⟨_, _, e1, _, p, _⟩ := k.2.2 h0
  have hm : nn_rf M (x + 4) 1 = cz_ (xA_ X) := es_cz e1 vA
  have hT : ∀ r, 0 ≤ r → r ≤ xn_ X → nn_ri M (x + 10) r = pz_ (xg_ X) r := fun r r0 r1 => by
    have := pl_cz p vP r.toNat (by omega)
    rw [show ((r.toNat : Nat) : Int) = r by omega] at this
    exact this
  have hn := p.1.2
  have rp := e1.2.2
  rw [hm] at rp
  obtain ⟨I, hE⟩ := cE_iE (cz_nn _) rp vA p vP (xn_ X).toNat (by omega)
  rw [show (((xn_ X).toNat : Nat) : Int) = xn_ X by omega, hT _ hn.1 (Int.le_refl _)] at I hE
  obtain ⟨h1, h2, h3⟩ := eX_of (X := X) I hE
  have mono : ∀ a b : Int, 0 ≤ a → a ≤ b → b ≤ ((xn_ X).toNat : Int) → nn_ri M (x + 10) a ≤ nn_ri M (x + 10) b := fun a b a0 ab bn => (pm_le p a0 ab (by omega)).2.1
  have t0 : nn_ri M (x + 10) 0 = 0 := p.2.1.1
  obtain ⟨c1, c2⟩ := cE_at (m := cz_ (xA_ X)) (I := nn_ri M (x + 5)) (Ent := nn_ri M (x + 9)) (T := nn_ri M (x + 10)) (n := (xn_ X).toNat) mono t0
  have hz : sz_ X = cz_ (xA_ X) + pz_ (xg_ X) (xn_ X) := rfl
  refine ⟨⟨hm, hT⟩, ⟨h1, h2⟩, fun i i0 i1 => ?_, fun r r0 r1 i i0 i1 => ?_⟩
  · rw [← h3 i i0 (by have := pz_nn (xg_ X) (xn_ X); omega)]
    exact (c1 i i1).symm
  · have m1 := mono (r + 1) (xn_ X) (by omega) (by omega) (by omega)
    rw [hT _ (by omega) (by omega), hT _ (by omega) (by omega)] at m1
    have m2 := mono 0 r (by omega) (by omega) (by omega)
    rw [t0, hT _ (by omega) (by omega)] at m2
    have := cz_nn (xA_ X)
    rw [← h3 _ (by omega) (by omega), c2 r r0 (by omega) _ (by rw [hT _ (by omega) (by omega)]; omega) (by rw [hT _ (by omega) (by omega)]; omega), show cz_ (xA_ X) + i - cz_ (xA_ X) = i by omega]
