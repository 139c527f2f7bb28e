/-! the class's Store: SURE, a flush -/
def sk_ (s : Nat) : Prop := s = 2 ∨ s = 161 ∨ s = 411 ∨ s = 570 ∨ s = 729
theorem sk_x {s : Nat} (h : sk_ s) {i : Int} (h0 : 0 ≤ i) (h1 : i < 4) : xk_ (s + 90 + 15 * i.toNat) := by
  have key : ∀ j : Nat, j < 4 → xk_ (s + 90 + 15 * j) := by
    unfold sk_ at h
    unfold xk_
    rcases h with rfl | rfl | rfl | rfl | rfl <;> decide +kernel
  exact key i.toNat (by omega)
theorem sk_t {s : Nat} (h : sk_ s) : mm_kd (s + 3 + 8) = (20, 24) := by
  unfold sk_ at h
  rcases h with rfl | rfl | rfl | rfl | rfl <;> decide +kernel
/-- one index after another, with the ids handed on -/
def fd_ (F : Int × Int → ab_X → (Int × Int) × ab_X) (s : (Int × Int) × (Int → ab_X)) : Nat → (Int × Int) × (Int → ab_X)
  | 0 => s
  | k + 1 => ((F (fd_ F s k).1 ((fd_ F s k).2 k)).1, fun i => if i = (k : Int) then (F (fd_ F s k).1 ((fd_ F s k).2 k)).2 else (fd_ F s k).2 i)
theorem fd_ge (F : Int × Int → ab_X → (Int × Int) × ab_X) (s : (Int × Int) × (Int → ab_X)) : ∀ (k : Nat) (i : Int), (k : Int) ≤ i → (fd_ F s k).2 i = s.2 i
  | 0, _, _ => rfl
  | k + 1, i, h => by
    show (if i = (k : Int) then _ else (fd_ F s k).2 i) = _
    rw [if_neg (by omega), fd_ge F s k i (by omega)]
theorem fd_lt (F : Int × Int → ab_X → (Int × Int) × ab_X) (s : (Int × Int) × (Int → ab_X)) (m : Nat) : ∀ (k : Nat) (i : Int), i < (m : Int) → m ≤ k → (fd_ F s k).2 i = (fd_ F s m).2 i
  | 0, i, _, h => by rw [show m = 0 by omega]
  | k + 1, i, h, hm => by
    by_cases z : m = k + 1
    · rw [z]
    · show (if i = (k : Int) then _ else (fd_ F s k).2 i) = _
      rw [if_neg (by omega), fd_lt F s m k i h (by omega)]
/-- a property that each step keeps -/
theorem fd_all {F : Int × Int → ab_X → (Int × Int) × ab_X} {s : (Int × Int) × (Int → ab_X)} {P : ab_X → Prop} {Q : ab_X → Prop} (h : ∀ c X, P X → Q (F c X).2) (hs : ∀ i, 0 ≤ i → i < 4 → P (s.2 i)) : ∀ i, 0 ≤ i → i < 4 → Q ((fd_ F s 4).2 i) := by
  have key : ∀ k : Nat, k ≤ 4 → ∀ i : Int, 0 ≤ i → i < (k : Int) → Q ((fd_ F s k).2 i) := by
    intro k
    induction k with
    | zero => intro _ i h0 h1; omega
    | succ k ih =>
      intro hk i h0 h1
      show Q (if i = (k : Int) then _ else (fd_ F s k).2 i)
      by_cases z : i = (k : Int)
      · rw [if_pos z, fd_ge F s k _ (Int.le_refl _)]
        exact h _ _ (hs _ (by omega) (by omega))
      · rw [if_neg z]
        exact ih (by omega) i h0 (by omega)
  exact key 4 (Nat.le_refl _)
def sur_ (Xs : Int → ab_X) : Int := sr_ (fun i => if xh_ (Xs i) = 0 then -1 else os_ (xh_ (Xs i)) (xb_ (Xs i)) (xn_ (Xs i)) (xg_ (Xs i))) 4
def cXs_ (M : mm_M) (s : Nat) (lat : ab_V) (Xs : Int → ab_X) : Prop := ∀ i, 0 ≤ i → i < 4 → cX_ M (s + 90 + 15 * i.toNat) lat (Xs i)
theorem ct_S_sure {s : Nat} {M : mm_M} {R : Int → mm_M → Prop} {lat : ab_V} {Xs : Int → ab_X} (k : cXs_ M s lat Xs) (h : R (sur_ Xs) M) : nr_Store_sure s M R := by
  refine ng_Store_sure _ _ _ ?_
  have L : ∀ i : Int, i ≤ 4 → 0 ≤ i → nk_Store_sure_4 s (sr_ (fun i => if xh_ (Xs i) = 0 then -1 else os_ (xh_ (Xs i)) (xb_ (Xs i)) (xn_ (Xs i)) (xg_ (Xs i))) i.toNat) i M R := by
    refine lp_up (fun i hi ih h0 => ?_)
    refine ng_Store_sure_4 _ _ _ _ _ ⟨fun c => ?_, fun c => ?_⟩
    · rw [show i.toNat = 4 by omega]; exact h
    have nx := ih c (by omega)
    rw [show (i + 1).toNat = i.toNat + 1 by omega] at nx
    unfold sr_ at nx
    rw [show ((i.toNat : Nat) : Int) = i by omega] at nx
    obtain ⟨a, b⟩ := k i h0 c
    rw [mm_w_id (x := i + 1) (by omega), a]
    refine ⟨⟨h0, c⟩, fun z => ?_, fun z => ⟨⟨h0, c⟩, ?_⟩⟩
    · rw [if_pos z] at nx
      have e : ∀ x, ls_ x (-1) = x := by
        intro x
        unfold ls_
        split
        · omega
        · rfl
      rw [e] at nx
      cases hq : i.toNat with
      | zero => rw [hq] at nx; exact nx
      | succ k => rw [hq] at nx; exact nx
    · obtain ⟨⟨a1, a2, a3, a4⟩, b1, b2, b3, b4, b5⟩ := b.2 z
      refine ct_I_sure b4 ?_
      rw [nf_lesser, a, a3]
      rw [if_neg z] at nx
      unfold os_ at nx
      cases hq : i.toNat with
      | zero => rw [hq] at nx; exact nx
      | succ k => rw [hq] at nx; exact nx
  exact L 0 (by omega) (by omega)
/-- a flush of an index; its merges -/
noncomputable def lay_ (st : Int) (mem : ab_V) (c : Int × Int) (X : ab_X) : (Int × Int) × ab_X := if xh_ X = 0 then (c, X) else @ite _ (∃ y, xA_ X y ∧ fs_ mem y = true) (Classical.propDecidable _) ((c.1 + 1, c.2 + 1), (X.1, X.2.1, (fun _ => False), X.2.2.2.1, X.2.2.2.2.1, xn_ X + 1, inP_ 0 (c.1 + 1, c.2 + 1, 0, st, fun y => xA_ X y ∧ fs_ mem y = true) (xg_ X))) ((c.1 + 1, c.2), (X.1, X.2.1, (fun _ => False), X.2.2.2.1, X.2.2.2.2.1, xn_ X, xg_ X))
noncomputable def mrg_ (fan st : Int) (lat : ab_V) (c : Int × Int) (X : ab_X) : (Int × Int) × ab_X := if xh_ X = 0 then (c, X) else (((pmf_ fan (xm_ X) st lat (xn_ X, c.1, c.2, xg_ X)).2.1, (pmf_ fan (xm_ X) st lat (xn_ X, c.1, c.2, xg_ X)).2.2.1), (X.1, X.2.1, X.2.2.1, X.2.2.2.1, X.2.2.2.2.1, (pmf_ fan (xm_ X) st lat (xn_ X, c.1, c.2, xg_ X)).1, (pmf_ fan (xm_ X) st lat (xn_ X, c.1, c.2, xg_ X)).2.2.2))
theorem lay_0 {st : Int} {mem : ab_V} {c : Int × Int} {X : ab_X} (h : xh_ X = 0) : lay_ st mem c X = (c, X) := if_pos h
theorem lay_1 {st : Int} {mem : ab_V} {c : Int × Int} {X : ab_X} (h : xh_ X ≠ 0) (hy : ∃ y, xA_ X y ∧ fs_ mem y = true) : lay_ st mem c X = ((c.1 + 1, c.2 + 1), (X.1, X.2.1, (fun _ => False), X.2.2.2.1, X.2.2.2.2.1, xn_ X + 1, inP_ 0 (c.1 + 1, c.2 + 1, 0, st, fun y => xA_ X y ∧ fs_ mem y = true) (xg_ X))) := (if_neg h).trans (@if_pos _ (Classical.propDecidable _) hy _ _ _)
theorem lay_2 {st : Int} {mem : ab_V} {c : Int × Int} {X : ab_X} (h : xh_ X ≠ 0) (hy : ¬ ∃ y, xA_ X y ∧ fs_ mem y = true) : lay_ st mem c X = ((c.1 + 1, c.2), (X.1, X.2.1, (fun _ => False), X.2.2.2.1, X.2.2.2.2.1, xn_ X, xg_ X)) := (if_neg h).trans (@if_neg _ (Classical.propDecidable _) hy _ _ _)
theorem mrg_0 {fan st : Int} {lat : ab_V} {c : Int × Int} {X : ab_X} (h : xh_ X = 0) : mrg_ fan st lat c X = (c, X) := if_pos h
theorem mrg_1 {fan st : Int} {lat : ab_V} {c : Int × Int} {X : ab_X} (h : xh_ X ≠ 0) : mrg_ fan st lat c X = (((pmf_ fan (xm_ X) st lat (xn_ X, c.1, c.2, xg_ X)).2.1, (pmf_ fan (xm_ X) st lat (xn_ X, c.1, c.2, xg_ X)).2.2.1), (X.1, X.2.1, X.2.2.1, X.2.2.2.1, X.2.2.2.2.1, (pmf_ fan (xm_ X) st lat (xn_ X, c.1, c.2, xg_ X)).1, (pmf_ fan (xm_ X) st lat (xn_ X, c.1, c.2, xg_ X)).2.2.2)) := if_neg h
/-- what a flush wants of an index -/
def wX_ (nb bd : Int) (X : ab_X) : Prop := xh_ X ≠ 0 → (∀ y, xA_ X y → ve_ y) ∧ vl_ (xn_ X) (xg_ X) ∧ (0 ≤ xn_ X ∧ xn_ X ≤ nb) ∧ cz_ (xA_ X) + pz_ (xg_ X) (xn_ X) ≤ 144 ∧ ∀ r, 0 ≤ r → r < xn_ X → -1 ≤ plv_ (xg_ X) r ∧ plv_ (xg_ X) r ≤ bd
theorem pz_in {g : Int → ab_P} {n : Int} {x : ab_P} (hn : 0 ≤ n) : pz_ (inP_ 0 x g) (n + 1) = cz_ x.2.2.2.2 + pz_ g n := by
  have key : ∀ k : Nat, sm_ (fun r => cz_ ((inP_ 0 x g) r).2.2.2.2) (k + 1) = cz_ x.2.2.2.2 + sm_ (fun r => cz_ (g r).2.2.2.2) k := by
    intro k
    induction k with
    | zero =>
      have e : inP_ 0 x g ((0 : Nat) : Int) = x := by
        unfold inP_
        rw [if_neg (by omega), if_pos (by omega)]
      show 0 + cz_ ((inP_ 0 x g) ((0 : Nat) : Int)).2.2.2.2 = cz_ x.2.2.2.2 + 0
      rw [e]; omega
    | succ k ih =>
      show sm_ (fun r => cz_ ((inP_ 0 x g) r).2.2.2.2) (k + 1) + cz_ ((inP_ 0 x g) ((k + 1 : Nat) : Int)).2.2.2.2 = cz_ x.2.2.2.2 + (sm_ (fun r => cz_ (g r).2.2.2.2) k + cz_ (g k).2.2.2.2)
      have e : inP_ 0 x g ((k + 1 : Nat) : Int) = g k := by
        unfold inP_
        rw [if_neg (by omega), if_neg (by omega), show ((k + 1 : Nat) : Int) - 1 = (k : Int) by omega]
      rw [ih, e]; omega
  unfold pz_
  rw [show (n + 1).toNat = n.toNat + 1 by omega]
  exact key n.toNat
theorem wX_lay {nb bd st : Int} {mem : ab_V} {c : Int × Int} {X : ab_X} (hb : 0 ≤ bd) (h : wX_ nb bd X) : wX_ (nb + 1) bd (lay_ st mem c X).2 := by
  by_cases h0 : xh_ X = 0
  · rw [lay_0 h0]
    intro h1
    exact absurd h0 h1
  obtain ⟨a, b, d, e, f⟩ := h h0
  by_cases hy : ∃ y, xA_ X y ∧ fs_ mem y = true
  · rw [lay_1 h0 hy]
    intro _
    refine ⟨fun y z => z.elim, ?_, ⟨show 0 ≤ xn_ X + 1 by omega, show xn_ X + 1 ≤ nb + 1 by omega⟩, ?_, ?_⟩
    · intro r r0 r1 x hx
      have r1 : r < xn_ X + 1 := r1
      change (inP_ 0 _ (xg_ X) r).2.2.2.2 x at hx
      unfold inP_ at hx
      rw [if_neg (by omega)] at hx
      by_cases z : r = 0
      · rw [if_pos z] at hx; exact a x hx.1
      · rw [if_neg z] at hx; exact b (r - 1) (by omega) (by omega) x hx
    · show cz_ (fun _ => False) + pz_ (inP_ 0 _ (xg_ X)) (xn_ X + 1) ≤ 144
      rw [pz_in d.1, cz_no (fun _ z => z)]
      have := cz_mono (S := fun y => xA_ X y ∧ fs_ mem y = true) (T := xA_ X) (fun y z => z.1)
      show 0 + (cz_ (fun y => xA_ X y ∧ fs_ mem y = true) + pz_ (xg_ X) (xn_ X)) ≤ 144
      omega
    · intro r r0 r1
      have r1 : r < xn_ X + 1 := r1
      show -1 ≤ (inP_ 0 _ (xg_ X) r).2.2.1 ∧ (inP_ 0 _ (xg_ X) r).2.2.1 ≤ bd
      unfold inP_
      rw [if_neg (by omega)]
      by_cases z : r = 0
      · rw [if_pos z]; exact ⟨by show (-1 : Int) ≤ 0; omega, hb⟩
      · rw [if_neg z]; exact f (r - 1) (by omega) (by omega)
  · rw [lay_2 h0 hy]
    intro _
    refine ⟨fun y z => z.elim, b, ⟨d.1, show xn_ X ≤ nb + 1 by omega⟩, ?_, f⟩
    show cz_ (fun _ => False) + pz_ (xg_ X) (xn_ X) ≤ 144
    rw [cz_no (fun _ z => z)]
    have := cz_nn (xA_ X)
    omega
