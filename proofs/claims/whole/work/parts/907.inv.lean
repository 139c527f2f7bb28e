/-! what is so of an index at all times, and that each step keeps it -/
def xs_ (X : ab_X) (y : Int) : Prop := xA_ X y ∨ xK_ X y ∨ ∃ r, 0 ≤ r ∧ r < xn_ X ∧ (xg_ X r).2.2.2.2 y
def jy_ (st : Int) (lat : ab_V) (u : ab_U) (y : Int) : Prop := ve_ y ∧ (0 < et_ y ∧ et_ y ≤ st) ∧ ∀ p, lat (ek_ y).toNat = some p → et_ y ≤ p.1 ∧ (et_ y = p.1 → ev_ y = vk_ u (some p))
noncomputable def mu_ (X : ab_X) (y : Int) : Int := id1_ (xA_ X y) + sm_ (fun r => id1_ ((xg_ X r).2.2.2.2 y)) (xn_ X).toNat
noncomputable def sz_ (X : ab_X) : Int := cz_ (xA_ X) + pz_ (xg_ X) (xn_ X)
/-- scalars; the rule; runs; entries; MEMORY; what is kept aside; how often one entry; how many -/
def jX_ (st since lvb sb nb : Int) (mem lat : ab_V) (X : ab_X) : Prop := xh_ X ≠ 0 →
  ((xh_ X = 1 ∨ xh_ X = 2) ∧ (xq_ X = 0 ∨ xq_ X = 1) ∧ (xm_ X = 0 ∨ xm_ X = 1) ∧ (0 ≤ xb_ X ∧ xb_ X ≤ st) ∧ (xh_ X = 1 → 0 ≤ xl_ X ∧ xl_ X < 32) ∧ (xh_ X = 2 → xl_ X = 32)) ∧
  (rb_ (xu_ X) ∧ ∀ a, 0 ≤ a → a < (xu_ X).2.2 → (xu_ X).2.1 a = 10 ∨ (xu_ X).2.1 a = 11 ∨ (xu_ X).2.1 a = 12) ∧
  ((0 ≤ xn_ X ∧ xn_ X ≤ nb + xh_ X) ∧ ∀ r, 0 ≤ r → r < xn_ X → (0 ≤ (xg_ X r).2.2.2.1 ∧ (xg_ X r).2.2.2.1 ≤ st) ∧ -1 ≤ (xg_ X r).2.2.1 ∧ (xg_ X r).2.2.1 ≤ lvb) ∧
  (∀ y, xs_ X y → jy_ st lat (xu_ X) y) ∧
  (∀ y, xA_ X y → ∃ p, mem (ek_ y).toNat = some p ∧ et_ y ≤ p.1) ∧
  ((xh_ X = 2 → (∀ y, ¬ xK_ X y) ∧ xj_ X = 0) ∧ (xh_ X = 1 → xj_ X ≤ xl_ X ∧ ∀ y, xK_ X y → ek_ y < xl_ X)) ∧
  (∀ y, mu_ X y ≤ xh_ X) ∧
  cz_ (xA_ X) ≤ since ∧ sz_ X ≤ sb + 32 * xh_ X
theorem jX_0 {st since lvb sb nb : Int} {mem lat : ab_V} {X : ab_X} (h : xh_ X = 0) : jX_ st since lvb sb nb mem lat X := fun z => absurd h z
theorem jX_up {st since lvb sb nb lvb' sb' nb' : Int} {mem lat : ab_V} {X : ab_X} (h1 : lvb ≤ lvb') (h2 : sb ≤ sb') (h3 : nb ≤ nb') (k : jX_ st since lvb sb nb mem lat X) : jX_ st since lvb' sb' nb' mem lat X := by
  intro h0
  obtain ⟨a, b, ⟨c1, c2⟩, d, e, f, g, i, j⟩ := k h0
  exact ⟨a, b, ⟨⟨c1.1, by omega⟩, fun r r0 r1 => ⟨(c2 r r0 r1).1, (c2 r r0 r1).2.1, by have := (c2 r r0 r1).2.2; omega⟩⟩, d, e, f, g, i, by omega⟩
theorem jX_vl {st since lvb sb nb : Int} {mem lat : ab_V} {X : ab_X} (k : jX_ st since lvb sb nb mem lat X) (h0 : xh_ X ≠ 0) : (∀ y, xA_ X y → ve_ y) ∧ (∀ y, xK_ X y → ve_ y) ∧ vl_ (xn_ X) (xg_ X) := by
  obtain ⟨a, b, c, d, _⟩ := k h0
  exact ⟨fun y z => (d y (Or.inl z)).1, fun y z => (d y (Or.inr (Or.inl z))).1, fun r r0 r1 y z => (d y (Or.inr (Or.inr ⟨r, r0, r1, z⟩))).1⟩
theorem jX_w {st since lvb sb nb : Int} {mem lat : ab_V} {X : ab_X} (k : jX_ st since lvb sb nb mem lat X) (hs : sb ≤ 80) : wX_ (nb + 2) lvb X := by
  intro h0
  obtain ⟨v1, v2, v3⟩ := jX_vl k h0
  obtain ⟨a, b, ⟨c1, c2⟩, d, e, f, g, i, j⟩ := k h0
  exact ⟨v1, v3, ⟨c1.1, by omega⟩, by unfold sz_ at j; omega, fun r r0 r1 => (c2 r r0 r1).2⟩
theorem jy_lz {st : Int} {lat lat' : ab_V} {u : ab_U} {y : Int} (h : ∀ k, k < 32 → lz_ (lat k) (lat' k)) (k : jy_ st lat u y) : jy_ st lat' u y := by
  refine ⟨k.1, k.2.1, fun p hp => ?_⟩
  have hk := ek_in y
  rcases h (ek_ y).toNat (by omega) with e | ⟨e, _⟩
  · rw [e] at hp; exact k.2.2 p hp
  · rw [e] at hp; cases hp
theorem jX_lz {st since lvb sb nb : Int} {mem lat lat' : ab_V} {X : ab_X} (h : ∀ k, k < 32 → lz_ (lat k) (lat' k)) (k : jX_ st since lvb sb nb mem lat X) : jX_ st since lvb sb nb mem lat' X := by
  intro h0
  obtain ⟨a, b, c, d, e⟩ := k h0
  exact ⟨a, b, c, fun y z => jy_lz h (d y z), e⟩
/-- a write comes in -/
def tk2_ (key row stamp : Int) (c : Int × Int) (X : ab_X) : (Int × Int) × ab_X := if xh_ X = 0 ∨ row = -1 ∨ va_ (xu_ X) row = -1 then (c, X) else (c, (X.1, X.2.1, (fun y => y = en_ (va_ (xu_ X) row) key stamp ∨ xA_ X y), X.2.2.2))
theorem tk2_0 {key row stamp : Int} {c : Int × Int} {X : ab_X} (h : xh_ X = 0 ∨ row = -1 ∨ va_ (xu_ X) row = -1) : tk2_ key row stamp c X = (c, X) := if_pos h
theorem tk2_1 {key row stamp : Int} {c : Int × Int} {X : ab_X} (h : ¬ (xh_ X = 0 ∨ row = -1 ∨ va_ (xu_ X) row = -1)) : tk2_ key row stamp c X = (c, (X.1, X.2.1, (fun y => y = en_ (va_ (xu_ X) row) key stamp ∨ xA_ X y), X.2.2.2)) := if_neg h
theorem jX_tak {st since lvb sb nb key row : Int} {mem lat : ab_V} {c : Int × Int} {X : ab_X} (hk : 0 ≤ key ∧ key < 32) (hst : 0 ≤ st ∧ st < 2000000000) (hrow : row = -1 ∨ (0 ≤ row ∧ row < 65536)) (k : jX_ st since lvb sb nb mem lat X) : jX_ (st + 1) (since + 1) lvb (sb + 1) nb (upd_ mem key.toNat (some (st + 1, row))) (upd_ lat key.toNat (some (st + 1, row))) (tk2_ key row (st + 1) c X).2 := by
  by_cases h0 : xh_ X = 0
  · rw [tk2_0 (Or.inl h0)]; exact jX_0 h0
  obtain ⟨⟨a1, a2, a3, a4, a5⟩, ⟨b1, b2⟩, ⟨c1, c2⟩, d, e, f, g, i, j⟩ := k h0
  have jold : ∀ y, xs_ X y → jy_ (st + 1) (upd_ lat key.toNat (some (st + 1, row))) (xu_ X) y := by
    intro y hy
    obtain ⟨w1, w2, w3⟩ := d y hy
    refine ⟨w1, ⟨w2.1, by omega⟩, fun p hp => ?_⟩
    unfold upd_ at hp
    by_cases z : (ek_ y).toNat = key.toNat
    · rw [if_pos z] at hp
      have hp := Option.some.inj hp
      rw [← hp]
      exact ⟨by show et_ y ≤ st + 1; omega, fun q => by have q : et_ y = st + 1 := q; omega⟩
    · rw [if_neg z] at hp
      exact w3 p hp
  have eold : ∀ y, xA_ X y → ∃ p, upd_ mem key.toNat (some (st + 1, row)) (ek_ y).toNat = some p ∧ et_ y ≤ p.1 := by
    intro y hy
    unfold upd_
    by_cases z : (ek_ y).toNat = key.toNat
    · rw [if_pos z]
      exact ⟨_, rfl, by have := (d y (Or.inl hy)).2.1; show et_ y ≤ st + 1; omega⟩
    · rw [if_neg z]; exact e y hy
  have c2' : ∀ r, 0 ≤ r → r < xn_ X → (0 ≤ (xg_ X r).2.2.2.1 ∧ (xg_ X r).2.2.2.1 ≤ st + 1) ∧ -1 ≤ (xg_ X r).2.2.1 ∧ (xg_ X r).2.2.1 ≤ lvb := fun r r0 r1 => ⟨⟨(c2 r r0 r1).1.1, by have := (c2 r r0 r1).1.2; omega⟩, (c2 r r0 r1).2⟩
  by_cases hz : xh_ X = 0 ∨ row = -1 ∨ va_ (xu_ X) row = -1
  · rw [tk2_0 hz]
    intro _
    exact ⟨⟨a1, a2, a3, ⟨a4.1, by show xb_ X ≤ st + 1; omega⟩, a5⟩, ⟨b1, b2⟩, ⟨c1, c2'⟩, jold, eold, f, g, by show cz_ (xA_ X) ≤ since + 1; omega, by show sz_ X ≤ sb + 1 + 32 * xh_ X; omega⟩
  · rw [tk2_1 hz]
    have hr : 0 ≤ row ∧ row < 65536 := by omega
    have hv : -1 ≤ va_ (xu_ X) row ∧ va_ (xu_ X) row ≤ 6000 := va_in b1 row
    obtain ⟨n1, n2, n3, n4⟩ := en_parts (v := va_ (xu_ X) row) (k := key) (s := st + 1) (by omega) hk (by omega)
    intro _
    have new : ∀ y, xs_ X y → y ≠ en_ (va_ (xu_ X) row) key (st + 1) := by
      intro y hy ey
      have := (d y hy).2.1.2
      rw [ey, n4] at this
      omega
    refine ⟨⟨a1, a2, a3, ⟨a4.1, by show xb_ X ≤ st + 1; omega⟩, a5⟩, ⟨b1, b2⟩, ⟨c1, c2'⟩, fun y hy => ?_, fun y hy => ?_, f, fun y => ?_, ?_, ?_⟩
    · have hy : (y = en_ (va_ (xu_ X) row) key (st + 1) ∨ xA_ X y) ∨ xK_ X y ∨ ∃ r, 0 ≤ r ∧ r < xn_ X ∧ (xg_ X r).2.2.2.2 y := hy
      rcases hy with (hy | hy) | hy
      · rw [hy]
        refine ⟨n1, by rw [n4]; omega, fun p hp => ?_⟩
        rw [n3] at hp
        have hp : upd_ lat key.toNat (some (st + 1, row)) key.toNat = some p := hp
        unfold upd_ at hp
        rw [if_pos rfl] at hp
        have hp := Option.some.inj hp
        rw [n4, n2, ← hp]
        exact ⟨Int.le_refl _, fun _ => by show va_ (xu_ X) row = if row = -1 then -1 else va_ (xu_ X) row; rw [if_neg (by omega)]⟩
      · exact jold y (Or.inl hy)
      · exact jold y (Or.inr hy)
    · have hy : y = en_ (va_ (xu_ X) row) key (st + 1) ∨ xA_ X y := hy
      rcases hy with hy | hy
      · rw [hy, n3, n4]
        unfold upd_
        rw [if_pos rfl]
        exact ⟨_, rfl, Int.le_refl _⟩
      · exact eold y hy
    · show id1_ (y = en_ (va_ (xu_ X) row) key (st + 1) ∨ xA_ X y) + sm_ (fun r => id1_ ((xg_ X r).2.2.2.2 y)) (xn_ X).toNat ≤ xh_ X
      by_cases hy : y = en_ (va_ (xu_ X) row) key (st + 1)
      · have e0 : sm_ (fun r => id1_ ((xg_ X r).2.2.2.2 y)) (xn_ X).toNat = sm_ (fun _ => 0) (xn_ X).toNat := sm_cg (fun r r0 r1 => id1_0 (fun q => new y (Or.inr (Or.inr ⟨r, r0, by omega, q⟩)) hy))
        rw [e0, sm_zero]
        have := (id1_in (y = en_ (va_ (xu_ X) row) key (st + 1) ∨ xA_ X y)).2
        omega
      · have h1 : id1_ (y = en_ (va_ (xu_ X) row) key (st + 1) ∨ xA_ X y) ≤ id1_ (xA_ X y) := id1_mono (fun q => q.resolve_left hy)
        have h2 := g y
        unfold mu_ at h2
        omega
    · have := cz_or (S := fun y => y = en_ (va_ (xu_ X) row) key (st + 1) ∨ xA_ X y) (T := fun y => y = en_ (va_ (xu_ X) row) key (st + 1)) (U := xA_ X) (fun y z => z)
      have h2 := cz_one (S := fun y => y = en_ (va_ (xu_ X) row) key (st + 1)) (a := en_ (va_ (xu_ X) row) key (st + 1)) (fun y z => z)
      show cz_ (fun y => y = en_ (va_ (xu_ X) row) key (st + 1) ∨ xA_ X y) ≤ since + 1
      omega
    · have := cz_or (S := fun y => y = en_ (va_ (xu_ X) row) key (st + 1) ∨ xA_ X y) (T := fun y => y = en_ (va_ (xu_ X) row) key (st + 1)) (U := xA_ X) (fun y z => z)
      have h2 := cz_one (S := fun y => y = en_ (va_ (xu_ X) row) key (st + 1)) (a := en_ (va_ (xu_ X) row) key (st + 1)) (fun y z => z)
      unfold sz_ at j
      show cz_ (fun y => y = en_ (va_ (xu_ X) row) key (st + 1) ∨ xA_ X y) + pz_ (xg_ X) (xn_ X) ≤ sb + 1 + 32 * xh_ X
      omega
/-- a flush of an index -/
theorem sm_in {ν : ab_P → Int} {g : Int → ab_P} {x : ab_P} : ∀ k : Nat, sm_ (fun r => ν (inP_ 0 x g r)) (k + 1) = ν x + sm_ (fun r => ν (g r)) k
  | 0 => by
    have e : inP_ 0 x g ((0 : Nat) : Int) = x := by
      unfold inP_
      rw [if_neg (by omega), if_pos (by omega)]
    show 0 + ν (inP_ 0 x g ((0 : Nat) : Int)) = ν x + 0
    rw [e]; omega
  | k + 1 => by
    have ih := sm_in (ν := ν) (g := g) (x := x) k
    show sm_ (fun r => ν (inP_ 0 x g r)) (k + 1) + ν (inP_ 0 x g ((k + 1 : Nat) : Int)) = ν x + (sm_ (fun r => ν (g r)) k + ν (g k))
    have e : inP_ 0 x g ((k + 1 : Nat) : Int) = g k := by
      unfold inP_
      rw [if_neg (by omega), if_neg (by omega), show ((k + 1 : Nat) : Int) - 1 = (k : Int) by omega]
    rw [ih, e]; omega
theorem in0_from (x : ab_P) (g : Int → ab_P) {n r : Int} (r0 : 0 ≤ r) (r1 : r < n + 1) : (r = 0 ∧ inP_ 0 x g r = x) ∨ (0 ≤ r - 1 ∧ r - 1 < n ∧ inP_ 0 x g r = g (r - 1)) := by
  unfold inP_
  rw [if_neg (by omega)]
  by_cases z : r = 0
  · rw [if_pos z]; exact Or.inl ⟨z, rfl⟩
  · rw [if_neg z]; exact Or.inr ⟨by omega, by omega, rfl⟩
theorem jX_lay {st since lvb sb nb : Int} {mem lat : ab_V} {c : Int × Int} {X : ab_X} (hst : 0 ≤ st) (hl : 0 ≤ lvb) (k : jX_ st since lvb sb nb mem lat X) : jX_ st 0 lvb sb (nb + 1) nov_ lat (lay_ st mem c X).2 := by
  by_cases h0 : xh_ X = 0
  · rw [lay_0 h0]; exact jX_0 h0
  obtain ⟨a, b, ⟨c1, c2⟩, d, e, f, g, i, j⟩ := k h0
  unfold sz_ at j
  by_cases hy : ∃ y, xA_ X y ∧ fs_ mem y = true
  · rw [lay_1 h0 hy]
    intro _
    refine ⟨a, b, ⟨⟨by show 0 ≤ xn_ X + 1; omega, by show xn_ X + 1 ≤ nb + 1 + xh_ X; omega⟩, fun r r0 r1 => ?_⟩, fun y hy => ?_, fun y z => z.elim, f, fun y => ?_, ?_, ?_⟩
    · have r1 : r < xn_ X + 1 := r1
      show (0 ≤ (inP_ 0 _ (xg_ X) r).2.2.2.1 ∧ (inP_ 0 _ (xg_ X) r).2.2.2.1 ≤ st) ∧ -1 ≤ (inP_ 0 _ (xg_ X) r).2.2.1 ∧ (inP_ 0 _ (xg_ X) r).2.2.1 ≤ lvb
      rcases in0_from (c.1 + 1, c.2 + 1, 0, st, fun y => xA_ X y ∧ fs_ mem y = true) (xg_ X) r0 r1 with ⟨_, e1⟩ | ⟨q0, q1, e1⟩
      · rw [e1]; dsimp only; omega
      · rw [e1]; exact c2 _ q0 q1
    · refine d y ?_
      have hy : False ∨ xK_ X y ∨ ∃ r, 0 ≤ r ∧ r < xn_ X + 1 ∧ (inP_ 0 (c.1 + 1, c.2 + 1, 0, st, fun y => xA_ X y ∧ fs_ mem y = true) (xg_ X) r).2.2.2.2 y := hy
      rcases hy with hy | hy | ⟨r, r0, r1, hy⟩
      · exact hy.elim
      · exact Or.inr (Or.inl hy)
      · rcases in0_from (c.1 + 1, c.2 + 1, 0, st, fun y => xA_ X y ∧ fs_ mem y = true) (xg_ X) r0 r1 with ⟨_, e1⟩ | ⟨q0, q1, e1⟩
        · rw [e1] at hy; exact Or.inl hy.1
        · rw [e1] at hy; exact Or.inr (Or.inr ⟨_, q0, q1, hy⟩)
    · have := g y
      unfold mu_ at this
      show id1_ False + sm_ (fun r => (fun p : ab_P => id1_ (p.2.2.2.2 y)) (inP_ 0 (c.1 + 1, c.2 + 1, 0, st, fun y => xA_ X y ∧ fs_ mem y = true) (xg_ X) r)) (xn_ X + 1).toNat ≤ xh_ X
      rw [show (xn_ X + 1).toNat = (xn_ X).toNat + 1 by omega, sm_in (ν := fun p : ab_P => id1_ (p.2.2.2.2 y)), id1_0 (fun z => z)]
      have h1 : id1_ (xA_ X y ∧ fs_ mem y = true) ≤ id1_ (xA_ X y) := id1_mono (fun z => z.1)
      show 0 + (id1_ (xA_ X y ∧ fs_ mem y = true) + _) ≤ _
      omega
    · show cz_ (fun _ => False) ≤ 0
      rw [cz_no (fun _ z => z)]
      exact Int.le_refl _
    · show cz_ (fun _ => False) + pz_ (inP_ 0 _ (xg_ X)) (xn_ X + 1) ≤ sb + 32 * xh_ X
      rw [pz_in c1.1, cz_no (fun _ z => z)]
      have := cz_mono (S := fun y => xA_ X y ∧ fs_ mem y = true) (T := xA_ X) (fun y z => z.1)
      show 0 + (cz_ (fun y => xA_ X y ∧ fs_ mem y = true) + pz_ (xg_ X) (xn_ X)) ≤ sb + 32 * xh_ X
      omega
  · rw [lay_2 h0 hy]
    intro _
    refine ⟨a, b, ⟨⟨c1.1, by show xn_ X ≤ nb + 1 + xh_ X; omega⟩, c2⟩, fun y hy => ?_, fun y z => z.elim, f, fun y => ?_, ?_, ?_⟩
    · refine d y ?_
      have hy : False ∨ xK_ X y ∨ ∃ r, 0 ≤ r ∧ r < xn_ X ∧ (xg_ X r).2.2.2.2 y := hy
      rcases hy with hy | hy
      · exact hy.elim
      · exact Or.inr hy
    · have := g y
      unfold mu_ at this
      show id1_ False + sm_ (fun r => id1_ ((xg_ X r).2.2.2.2 y)) (xn_ X).toNat ≤ xh_ X
      rw [id1_0 (fun z => z)]
      have := (id1_in (xA_ X y)).1
      omega
    · show cz_ (fun _ => False) ≤ 0
      rw [cz_no (fun _ z => z)]
      exact Int.le_refl _
    · show cz_ (fun _ => False) + pz_ (xg_ X) (xn_ X) ≤ sb + 32 * xh_ X
      rw [cz_no (fun _ z => z)]
      have := cz_nn (xA_ X)
      omega
