/-! sums over runs: what merges and repairs do to them -/
noncomputable def id1_ (P : Prop) : Int := @ite Int P (Classical.propDecidable _) 1 0
theorem id1_1 {P : Prop} (h : P) : id1_ P = 1 := @if_pos _ (Classical.propDecidable _) h Int 1 0
theorem id1_0 {P : Prop} (h : ¬ P) : id1_ P = 0 := @if_neg _ (Classical.propDecidable _) h Int 1 0
theorem id1_in (P : Prop) : 0 ≤ id1_ P ∧ id1_ P ≤ 1 := by
  by_cases h : P
  · rw [id1_1 h]; omega
  · rw [id1_0 h]; omega
theorem id1_mono {P Q : Prop} (h : P → Q) : id1_ P ≤ id1_ Q := by
  by_cases hp : P
  · rw [id1_1 hp, id1_1 (h hp)]; omega
  · rw [id1_0 hp]; exact (id1_in Q).1
theorem sm_add (st : Int → Int) (a : Nat) : ∀ b : Nat, sm_ st (a + b) = sm_ st a + sm_ (fun j => st (a + j)) b
  | 0 => by show sm_ st a = sm_ st a + 0; omega
  | b + 1 => by
    have ih := sm_add st a b
    show sm_ st (a + b) + st ((a + b : Nat) : Int) = sm_ st a + (sm_ (fun j => st (a + j)) b + st ((a : Int) + (b : Int)))
    rw [ih, show ((a + b : Nat) : Int) = (a : Int) + (b : Int) by omega]
    omega
theorem sm_mono {st su : Int → Int} : ∀ {n : Nat}, (∀ i : Int, 0 ≤ i → i < n → st i ≤ su i) → sm_ st n ≤ sm_ su n
  | 0, _ => Int.le_refl _
  | n + 1, h => by
    unfold sm_
    have h1 := sm_mono (st := st) (su := su) (n := n) (fun i i0 i1 => h i i0 (by omega))
    have h2 := h n (by omega) (by omega)
    omega
theorem sm_le {st : Int → Int} {b : Int} : ∀ {n : Nat}, (∀ i : Int, 0 ≤ i → i < n → st i ≤ b) → sm_ st n ≤ b * n
  | 0, _ => by show (0 : Int) ≤ b * ((0 : Nat) : Int); simp
  | n + 1, h => by
    unfold sm_
    have h1 := sm_le (st := st) (b := b) (n := n) (fun i i0 i1 => h i i0 (by omega))
    have h2 := h n (by omega) (by omega)
    rw [show ((n + 1 : Nat) : Int) = (n : Int) + 1 by omega, Int.mul_add, Int.mul_one]
    omega
theorem sm_plus (st su : Int → Int) : ∀ n : Nat, sm_ (fun i => st i + su i) n = sm_ st n + sm_ su n
  | 0 => rfl
  | n + 1 => by
    have := sm_plus st su n
    show sm_ (fun i => st i + su i) n + (st n + su n) = sm_ st n + st n + (sm_ su n + su n)
    omega
theorem sm_zero : ∀ n : Nat, sm_ (fun _ => 0) n = 0
  | 0 => rfl
  | n + 1 => by show sm_ (fun _ => 0) n + 0 = 0; rw [sm_zero n]; rfl
theorem sm_swap (F : Int → Int → Int) (m : Nat) : ∀ n : Nat, sm_ (fun i => sm_ (fun j => F i j) m) n = sm_ (fun j => sm_ (fun i => F i j) n) m
  | 0 => (sm_zero m).symm
  | n + 1 => by
    show sm_ (fun i => sm_ (fun j => F i j) m) n + sm_ (fun j => F n j) m = sm_ (fun j => sm_ (fun i => F i j) n + F n j) m
    rw [sm_swap F m n, sm_plus]
theorem sm_at {st : Int → Int} : ∀ {n : Nat} {i : Int}, (∀ i : Int, 0 ≤ i → i < n → 0 ≤ st i) → 0 ≤ i → i < n → st i ≤ sm_ st n
  | 0, i, _, h0, h1 => by omega
  | n + 1, i, h, h0, h1 => by
    unfold sm_
    by_cases z : i = n
    · rw [z]
      have := sm_nn (st := st) (n := n) (fun i i0 i1 => h i i0 (by omega))
      omega
    · have := sm_at (st := st) (n := n) (i := i) (fun i i0 i1 => h i i0 (by omega)) h0 (by omega)
      have := h n (by omega) (by omega)
      omega
/-- a measure of runs that a merge does not make greater -/
theorem sm_pm1 {ν : ab_P → Int} {g : Int → ab_P} {f m level mends stamp cid mid n : Int} {lat : ab_V} (hf : 0 ≤ f) (hm : 1 ≤ m) (hn : f + m ≤ n) (hx : ν (mpx_ g f m level mends stamp lat cid mid) ≤ sm_ (fun j => ν (g (f + j))) m.toNat) (hp : ∀ r, 0 ≤ r → r < n → 0 ≤ ν (g r)) : sm_ (fun r => ν (mpg_ g f m level mends stamp lat cid mid r)) (n - (m - pk_ (mgS_ g f m mends lat))).toNat ≤ sm_ (fun r => ν (g r)) n.toNat := by
  have eg : sm_ (fun r => ν (g r)) n.toNat = sm_ (fun r => ν (g r)) f.toNat + (sm_ (fun j => ν (g (f + j))) m.toNat + sm_ (fun j => ν (g (f + m + j))) (n - f - m).toNat) := by
    rw [show n.toNat = f.toNat + (m.toNat + (n - f - m).toNat) by omega, sm_add, sm_add]
    rw [show ((f.toNat : Nat) : Int) = f by omega, show ((m.toNat : Nat) : Int) = m by omega]
    congr 2
    refine sm_cg (fun i i0 i1 => ?_)
    show ν (g (f + (m + i))) = ν (g (f + m + i))
    rw [show f + (m + i) = f + m + i by omega]
  have hs : 0 ≤ sm_ (fun j => ν (g (f + j))) m.toNat := sm_nn (fun r r0 r1 => hp _ (by omega) (by omega))
  rw [eg]
  unfold mpg_
  by_cases z : ∃ x, mgS_ g f m mends lat x
  · rw [pk_1 z, if_pos rfl, show (n - (m - 1)).toNat = f.toNat + (1 + (n - f - m).toNat) by omega, sm_add, sm_add, show ((f.toNat : Nat) : Int) = f by omega]
    have e1 : sm_ (fun r => ν (stP_ f (mpx_ g f m level mends stamp lat cid mid) (cuP_ (f + 1) (m - 1) g) r)) f.toNat = sm_ (fun r => ν (g r)) f.toNat := by
      refine sm_cg (fun i i0 i1 => ?_)
      unfold stP_ cuP_
      rw [if_neg (by omega), if_pos (by omega)]
    have e2 : sm_ (fun j => ν (stP_ f (mpx_ g f m level mends stamp lat cid mid) (cuP_ (f + 1) (m - 1) g) (f + j))) 1 = ν (mpx_ g f m level mends stamp lat cid mid) := by
      show (0 : Int) + ν (stP_ f _ _ (f + ((0 : Nat) : Int))) = _
      unfold stP_
      rw [if_pos (by omega)]
      omega
    have e3 : sm_ (fun j => (fun j => ν (stP_ f (mpx_ g f m level mends stamp lat cid mid) (cuP_ (f + 1) (m - 1) g) (f + j))) (((1 : Nat) : Int) + j)) (n - f - m).toNat = sm_ (fun j => ν (g (f + m + j))) (n - f - m).toNat := by
      refine sm_cg (fun i i0 i1 => ?_)
      show ν (stP_ f _ _ (f + (((1 : Nat) : Int) + i))) = _
      unfold stP_ cuP_
      rw [if_neg (by omega), if_neg (by omega), show f + (((1 : Nat) : Int) + i) + (m - 1) = f + m + i by omega]
    rw [e1, e2, e3]
    omega
  · rw [pk_0 z, if_neg (by decide), show (n - (m - 0)).toNat = f.toNat + (n - f - m).toNat by omega, sm_add, show ((f.toNat : Nat) : Int) = f by omega]
    have e1 : sm_ (fun r => ν (cuP_ f m g r)) f.toNat = sm_ (fun r => ν (g r)) f.toNat := by
      refine sm_cg (fun i i0 i1 => ?_)
      unfold cuP_
      rw [if_pos (by omega)]
    have e3 : sm_ (fun j => ν (cuP_ f m g (f + j))) (n - f - m).toNat = sm_ (fun j => ν (g (f + m + j))) (n - f - m).toNat := by
      refine sm_cg (fun i i0 i1 => ?_)
      unfold cuP_
      rw [if_neg (by omega), show f + i + m = f + m + i by omega]
    rw [e1, e3]
    omega
/-- what is of all runs is at most the sum -/
theorem cz_un {g : Int → ab_P} {f : Int} : ∀ {m : Nat} {S : Int → Prop}, (∀ y, S y → un_ g f m y) → cz_ S ≤ sm_ (fun j => cz_ (g (f + j)).2.2.2.2) m
  | 0, S, h => by
    rw [cz_no (fun y z => by obtain ⟨r, r0, r1, _⟩ := h y z; omega)]
    exact Int.le_refl _
  | m + 1, S, h => by
    have h1 := cz_or (S := S) (T := fun y => S y ∧ un_ g f m y) (U := (g (f + m)).2.2.2.2) (fun y z => by
      obtain ⟨r, r0, r1, r2⟩ := h y z
      by_cases e : r = f + m
      · exact Or.inr (e ▸ r2)
      · exact Or.inl ⟨z, r, r0, by omega, r2⟩)
    have h2 := cz_un (g := g) (f := f) (m := m) (S := fun y => S y ∧ un_ g f m y) (fun y z => z.2)
    unfold sm_
    omega
theorem id1_un {g : Int → ab_P} {f y : Int} : ∀ {m : Nat} {P : Prop}, (P → un_ g f m y) → id1_ P ≤ sm_ (fun j => id1_ ((g (f + j)).2.2.2.2 y)) m
  | 0, P, h => by
    rw [id1_0 (fun z => by obtain ⟨r, r0, r1, _⟩ := h z; omega)]
    exact Int.le_refl _
  | m + 1, P, h => by
    unfold sm_
    have h0 := sm_nn (st := fun j => id1_ ((g (f + j)).2.2.2.2 y)) (n := m) (fun _ _ _ => (id1_in _).1)
    by_cases z : (g (f + m)).2.2.2.2 y
    · rw [id1_1 z]
      have := (id1_in P).2
      omega
    · have h2 := id1_un (g := g) (f := f) (y := y) (m := m) (P := P) (fun p => by
        obtain ⟨r, r0, r1, r2⟩ := h p
        by_cases e : r = f + m
        · exact absurd (e ▸ r2) z
        · exact ⟨r, r0, by omega, r2⟩)
      have := (id1_in ((g (f + m)).2.2.2.2 y)).1
      omega
/-- a repair, run by run -/
theorem rpn_ind {lat : ab_V} {st : Int} {P : Nat → ab_W → Prop} (h : ∀ k w, P (k + 1) w → P k (rp1_ lat st k w)) : ∀ k w, P k w → P 0 (rpn_ lat st k w)
  | 0, _, hp => hp
  | k + 1, w, hp => rpn_ind h k _ (h k w hp)
theorem rp1_n {lat : ab_V} {st r : Int} {w : ab_W} : w.1 - 1 ≤ (rp1_ lat st r w).1 ∧ (rp1_ lat st r w).1 ≤ w.1 := by
  have := pkS_in (fr2_ w.2.2.2 r lat)
  show w.1 - 1 ≤ w.1 - (1 - pk_ (fr2_ w.2.2.2 r lat)) ∧ w.1 - (1 - pk_ (fr2_ w.2.2.2 r lat)) ≤ w.1
  omega
/-- a run behind a repair of run r is one that stood there, or the repaired one -/
theorem rp1_from {lat : ab_V} {st r : Int} {w : ab_W} (_hr : 0 ≤ r ∧ r < w.1) {j : Int} (j0 : 0 ≤ j) (j1 : j < (rp1_ lat st r w).1) : (j = r ∧ (rp1_ lat st r w).1 = w.1 ∧ (rp1_ lat st r w).2.2.2 j = (w.2.1 + 1, w.2.2.1 + 1, (w.2.2.2 r).2.2.1, st, fr2_ w.2.2.2 r lat)) ∨ ∃ i, 0 ≤ i ∧ i < w.1 ∧ i ≠ r ∧ (rp1_ lat st r w).2.2.2 j = w.2.2.2 i ∧ ((j < r ∧ i = j) ∨ (r ≤ j ∧ r < i ∧ i = j + (w.1 - (rp1_ lat st r w).1))) := by
  have e1 : (rp1_ lat st r w).1 = w.1 - (1 - pk_ (fr2_ w.2.2.2 r lat)) := rfl
  have e2 : (rp1_ lat st r w).2.2.2 = if pk_ (fr2_ w.2.2.2 r lat) = 1 then stP_ r (w.2.1 + 1, w.2.2.1 + 1, (w.2.2.2 r).2.2.1, st, fr2_ w.2.2.2 r lat) w.2.2.2 else cuP_ r 1 w.2.2.2 := rfl
  rw [e2]
  by_cases z : ∃ x, fr2_ w.2.2.2 r lat x
  · rw [e1, pk_1 z] at j1
    rw [e1, pk_1 z, if_pos rfl]
    unfold stP_
    by_cases y : j = r
    · rw [if_pos y]
      exact Or.inl ⟨y, by omega, rfl⟩
    · rw [if_neg y]
      exact Or.inr ⟨j, j0, by omega, y, rfl, by omega⟩
  · rw [e1, pk_0 z] at j1
    rw [e1, pk_0 z, if_neg (by decide)]
    unfold cuP_
    by_cases y : j < r
    · rw [if_pos y]
      exact Or.inr ⟨j, j0, by omega, by omega, rfl, by omega⟩
    · rw [if_neg y]
      exact Or.inr ⟨j + 1, by omega, by omega, by omega, rfl, by omega⟩
theorem sm_rp1 {ν : ab_P → Int} {lat : ab_V} {st r : Int} {w : ab_W} (hr : 0 ≤ r ∧ r < w.1) (hx : ν (w.2.1 + 1, w.2.2.1 + 1, (w.2.2.2 r).2.2.1, st, fr2_ w.2.2.2 r lat) ≤ ν (w.2.2.2 r)) (hp : 0 ≤ ν (w.2.2.2 r)) : sm_ (fun j => ν ((rp1_ lat st r w).2.2.2 j)) (rp1_ lat st r w).1.toNat ≤ sm_ (fun j => ν (w.2.2.2 j)) w.1.toNat := by
  have eg : sm_ (fun j => ν (w.2.2.2 j)) w.1.toNat = sm_ (fun j => ν (w.2.2.2 j)) r.toNat + (ν (w.2.2.2 r) + sm_ (fun j => ν (w.2.2.2 (r + 1 + j))) (w.1 - r - 1).toNat) := by
    rw [show w.1.toNat = r.toNat + (1 + (w.1 - r - 1).toNat) by omega, sm_add, sm_add, show ((r.toNat : Nat) : Int) = r by omega]
    congr 1
    have e0 : sm_ (fun j => ν (w.2.2.2 (r + j))) 1 = ν (w.2.2.2 r) := by
      show (0 : Int) + ν (w.2.2.2 (r + ((0 : Nat) : Int))) = _
      rw [show r + ((0 : Nat) : Int) = r by omega]; omega
    rw [e0]
    congr 1
    refine sm_cg (fun i i0 i1 => ?_)
    show ν (w.2.2.2 (r + (((1 : Nat) : Int) + i))) = _
    rw [show r + (((1 : Nat) : Int) + i) = r + 1 + i by omega]
  rw [eg]
  have e1 : (rp1_ lat st r w).1 = w.1 - (1 - pk_ (fr2_ w.2.2.2 r lat)) := rfl
  have e2 : (rp1_ lat st r w).2.2.2 = if pk_ (fr2_ w.2.2.2 r lat) = 1 then stP_ r (w.2.1 + 1, w.2.2.1 + 1, (w.2.2.2 r).2.2.1, st, fr2_ w.2.2.2 r lat) w.2.2.2 else cuP_ r 1 w.2.2.2 := rfl
  rw [e2]
  by_cases z : ∃ x, fr2_ w.2.2.2 r lat x
  · rw [e1, pk_1 z, if_pos rfl, show (w.1 - (1 - 1)).toNat = r.toNat + (1 + (w.1 - r - 1).toNat) by omega, sm_add, sm_add, show ((r.toNat : Nat) : Int) = r by omega]
    have g1 : sm_ (fun j => ν (stP_ r (w.2.1 + 1, w.2.2.1 + 1, (w.2.2.2 r).2.2.1, st, fr2_ w.2.2.2 r lat) w.2.2.2 j)) r.toNat = sm_ (fun j => ν (w.2.2.2 j)) r.toNat := sm_cg (fun i i0 i1 => by unfold stP_; rw [if_neg (by omega)])
    have g2 : sm_ (fun j => ν (stP_ r (w.2.1 + 1, w.2.2.1 + 1, (w.2.2.2 r).2.2.1, st, fr2_ w.2.2.2 r lat) w.2.2.2 (r + j))) 1 = ν (w.2.1 + 1, w.2.2.1 + 1, (w.2.2.2 r).2.2.1, st, fr2_ w.2.2.2 r lat) := by
      show (0 : Int) + ν (stP_ r _ _ (r + ((0 : Nat) : Int))) = _
      unfold stP_
      rw [if_pos (by omega)]; omega
    have g3 : sm_ (fun j => (fun j => ν (stP_ r (w.2.1 + 1, w.2.2.1 + 1, (w.2.2.2 r).2.2.1, st, fr2_ w.2.2.2 r lat) w.2.2.2 (r + j))) (((1 : Nat) : Int) + j)) (w.1 - r - 1).toNat = sm_ (fun j => ν (w.2.2.2 (r + 1 + j))) (w.1 - r - 1).toNat := sm_cg (fun i i0 i1 => by
      show ν (stP_ r _ _ (r + (((1 : Nat) : Int) + i))) = _
      unfold stP_
      rw [if_neg (by omega), show r + (((1 : Nat) : Int) + i) = r + 1 + i by omega])
    rw [g1, g2, g3]
    omega
  · rw [e1, pk_0 z, if_neg (by decide), show (w.1 - (1 - 0)).toNat = r.toNat + (w.1 - r - 1).toNat by omega, sm_add, show ((r.toNat : Nat) : Int) = r by omega]
    have g1 : sm_ (fun j => ν (cuP_ r 1 w.2.2.2 j)) r.toNat = sm_ (fun j => ν (w.2.2.2 j)) r.toNat := sm_cg (fun i i0 i1 => by unfold cuP_; rw [if_pos (by omega)])
    have g3 : sm_ (fun j => ν (cuP_ r 1 w.2.2.2 (r + j))) (w.1 - r - 1).toNat = sm_ (fun j => ν (w.2.2.2 (r + 1 + j))) (w.1 - r - 1).toNat := sm_cg (fun i i0 i1 => by
      unfold cuP_
      rw [if_neg (by omega), show r + i + 1 = r + 1 + i by omega])
    rw [g1, g3]
    omega
/-- a set of some of 32 numbers -/
theorem cz_Y {Y : Int → Int} : ∀ {K : Nat} {S : Int → Prop}, (∀ y, S y → ∃ k, 0 ≤ k ∧ k < (K : Int) ∧ y = Y k) → cz_ S ≤ sm_ (fun k => id1_ (S (Y k))) K
  | 0, S, h => by
    rw [cz_no (fun y z => by obtain ⟨k, k0, k1, _⟩ := h y z; omega)]
    exact Int.le_refl _
  | K + 1, S, h => by
    have h1 := cz_or (S := S) (T := fun y => S y ∧ y ≠ Y K) (U := fun y => S y ∧ y = Y K) (fun y z => by
      by_cases e : y = Y K
      · exact Or.inr ⟨z, e⟩
      · exact Or.inl ⟨z, e⟩)
    have h2 := cz_Y (Y := Y) (K := K) (S := fun y => S y ∧ y ≠ Y K) (fun y z => by
      obtain ⟨k, k0, k1, k2⟩ := h y z.1
      refine ⟨k, k0, ?_, k2⟩
      by_cases e : k = (K : Int)
      · rw [e] at k2; exact absurd k2 z.2
      · omega)
    have h3 : sm_ (fun k => id1_ (S (Y k) ∧ Y k ≠ Y K)) K ≤ sm_ (fun k => id1_ (S (Y k))) K := sm_mono (fun i _ _ => id1_mono (fun z => z.1))
    have h4 : cz_ (fun y => S y ∧ y = Y K) ≤ id1_ (S (Y K)) := by
      by_cases e : S (Y K)
      · rw [id1_1 e]; exact cz_one (fun y z => z.2)
      · rw [cz_no (S := fun y => S y ∧ y = Y K) (fun y z => e (by rw [← z.2]; exact z.1))]; exact (id1_in _).1
    show cz_ S ≤ sm_ (fun k => id1_ (S (Y k))) K + id1_ (S (Y K))
    omega
