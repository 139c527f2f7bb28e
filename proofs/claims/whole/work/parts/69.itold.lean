/-! the class's Index: what is stale, what is waste, the nearest; what is told; a beginning; a copy -/
def sm_ (st : Int → Int) : Nat → Int
  | 0 => 0
  | k + 1 => sm_ st k + st k
theorem sm_cg {st su : Int → Int} : ∀ {n : Nat}, (∀ i : Int, 0 ≤ i → i < n → st i = su i) → sm_ st n = sm_ su n
  | 0, _ => rfl
  | n + 1, h => by
    unfold sm_
    rw [sm_cg (n := n) (fun i i0 i1 => h i i0 (by omega)), h n (by omega) (by omega)]
theorem stl_in {M : mm_M} {p : Nat} {n : Int} {g : Int → ab_P} (k : pl_ M p n g) (lat : ab_V) {r : Int} (hr : 0 ≤ r ∧ r < n) : 0 ≤ stl_ M p lat r ∧ stl_ M p lat r ≤ nn_ri M (p + 2) (r + 1) - nn_ri M (p + 2) r := by
  have q := pm_le k hr.1 (show r ≤ r + 1 by omega) (by omega)
  have := ct_in (fun i => !fs_ lat (nn_ri M (p + 1) i)) (nn_ri M (p + 2) r) (nn_ri M (p + 2) (r + 1) - nn_ri M (p + 2) r).toNat
  unfold stl_
  omega
theorem sm_stl {M : mm_M} {p : Nat} {n : Int} {g : Int → ab_P} (k : pl_ M p n g) (lat : ab_V) : ∀ t : Nat, (t : Int) ≤ n → 0 ≤ sm_ (stl_ M p lat) t ∧ sm_ (stl_ M p lat) t ≤ nn_ri M (p + 2) t
  | 0, _ => by
    have := k.2.1.1
    unfold sm_
    rw [show ((0 : Nat) : Int) = 0 from rfl, this]
    omega
  | t + 1, h => by
    have h1 := sm_stl k lat t (by omega)
    have h2 := stl_in k lat (r := (t : Int)) ⟨by omega, by omega⟩
    unfold sm_
    rw [show ((t + 1 : Nat) : Int) = (t : Int) + 1 by omega]
    omega
/-- stale ones in a MEMORY -/
def stm_ (M : mm_M) (v : Nat) (lat : ab_V) (m : Int) : Int := ct_ (fun i => !fs_ lat (nn_ri M (v + 1) i)) 0 m.toNat
theorem ct_I_stale {x v : Nat} {n : Int} {M : mm_M} {R : Int → mm_M → Prop} {S : Int → Prop} {g : Int → ab_P} (hx : xk_ x) (hs : es_ M (x + 4) S) (hve : ∀ y, S y → ve_ y) (k : pl_ M (x + 8) n g) (hv : vl_ n g) (h : R (stm_ M (x + 4) (cv_ M v) (nn_rf M (x + 4) 1) + sm_ (stl_ M (x + 8) (cv_ M v)) n.toNat) M) : nr_Index_stale x v M R := by
  obtain ⟨z0, z1, z2⟩ := hs
  have k12 := kd12 hx
  rw [show x + 4 + 1 = x + 5 by omega] at z1 z2
  rw [k12] at z1
  obtain ⟨n0, n24⟩ := k.1.2
  have hm := ct_in (fun i => !fs_ (cv_ M v) (nn_ri M (x + 5) i)) 0 (nn_rf M (x + 4) 1).toNat
  refine ng_Index_stale _ _ _ _ ?_
  have L2 : ∀ i : Int, i ≤ n → 0 ≤ i → nk_Index_stale_47 x v (stm_ M (x + 4) (cv_ M v) (nn_rf M (x + 4) 1) + sm_ (stl_ M (x + 8) (cv_ M v)) i.toNat) i M R := by
    refine lp_up (fun i hi ih h0 => ?_)
    refine ng_Index_stale_47 _ _ _ _ _ _ ?_
    rw [k.1.1]
    refine ⟨fun c => ?_, fun c => ?_⟩
    · have : i = n := by omega
      subst this
      exact h
    refine ct_P_staleIn k hv ⟨h0, c⟩ ?_
    have a1 := sm_stl k (cv_ M v) i.toNat (by omega)
    have a2 := stl_in k (cv_ M v) (r := i) ⟨h0, c⟩
    have a3 := pm_le k h0 (show i ≤ i + 1 by omega) (by omega)
    have a4 : 0 ≤ stm_ M (x + 4) (cv_ M v) (nn_rf M (x + 4) 1) ∧ stm_ M (x + 4) (cv_ M v) (nn_rf M (x + 4) 1) ≤ 12 := by
      unfold stm_
      rw [show x + 4 + 1 = x + 5 by omega]
      omega
    rw [show ((i.toNat : Nat) : Int) = i by omega] at a1
    rw [mm_w_id (x := i + 1) (by omega), mm_w_id (x := _ + stl_ M (x + 8) (cv_ M v) i) (by omega)]
    have nx := ih c (by omega)
    rw [show (i + 1).toNat = i.toNat + 1 by omega] at nx
    have e : sm_ (stl_ M (x + 8) (cv_ M v)) (i.toNat + 1) = sm_ (stl_ M (x + 8) (cv_ M v)) i.toNat + stl_ M (x + 8) (cv_ M v) i := by
      show _ + stl_ M (x + 8) (cv_ M v) (i.toNat : Int) = _
      rw [show ((i.toNat : Nat) : Int) = i by omega]
    rw [e, ← Int.add_assoc] at nx
    exact nx
  have L1 : ∀ i : Int, i ≤ nn_rf M (x + 4) 1 → 0 ≤ i → nk_Index_stale_4 x v (ct_ (fun i => !fs_ (cv_ M v) (nn_ri M (x + 5) i)) 0 i.toNat) i M R := by
    refine lp_up (fun i hi ih h0 => ?_)
    have hc := ct_in (fun i => !fs_ (cv_ M v) (nn_ri M (x + 5) i)) 0 i.toNat
    refine ng_Index_stale_4 _ _ _ _ _ _ ?_
    rw [show (mm_kd (x + 5)).2 = 12 from by rw [hx.1]]
    refine ⟨fun c => ?_, fun c => ⟨by omega, ?_⟩⟩
    · have : i = nn_rf M (x + 4) 1 := by omega
      subst this
      have := L2 0 n0 (Int.le_refl _)
      rw [show stm_ M (x + 4) (cv_ M v) (nn_rf M (x + 4) 1) + sm_ (stl_ M (x + 8) (cv_ M v)) (0 : Int).toNat = ct_ (fun i => !fs_ (cv_ M v) (nn_ri M (x + 5) i)) 0 (nn_rf M (x + 4) 1).toNat from Int.add_zero _] at this
      exact this
    have vi : ve_ (nn_ri M (x + 5) i) := hve _ (z2.1 i h0 c)
    have nx := ih c (by omega)
    rw [show (i + 1).toNat = i.toNat + 1 by omega] at nx
    have e : ct_ (fun i => !fs_ (cv_ M v) (nn_ri M (x + 5) i)) 0 (i.toNat + 1) = ct_ (fun i => !fs_ (cv_ M v) (nn_ri M (x + 5) i)) 0 i.toNat + (if (!fs_ (cv_ M v) (nn_ri M (x + 5) i)) = true then 1 else 0) := by
      show _ + (if (!fs_ (cv_ M v) (nn_ri M (x + 5) (0 + (i.toNat : Int)))) = true then (1 : Int) else 0) = _
      rw [show (0 : Int) + (i.toNat : Int) = i by omega]
    rw [e] at nx
    rw [nf_stale vi, mm_w_id (x := i + 1) (by omega), mm_w_id (x := _ + (0 : Int)) (by omega), mm_w_id (x := _ + (1 : Int)) (by omega)]
    refine ⟨nc_stale vi, fun z => ?_, fun z => ?_⟩
    · have z2 : fs_ (cv_ M v) (nn_ri M (x + 5) i) = true := by
        by_cases y : fs_ (cv_ M v) (nn_ri M (x + 5) i) = true
        · exact y
        · rw [if_neg y] at z; exact absurd z (by decide)
      rw [z2] at nx
      exact nx
    · have z2 : fs_ (cv_ M v) (nn_ri M (x + 5) i) = false := by
        cases y : fs_ (cv_ M v) (nn_ri M (x + 5) i) with
        | true => rw [y] at z; exact absurd rfl z
        | false => rfl
      rw [z2] at nx
      exact nx
  exact L1 0 z0 (Int.le_refl _)
def ah_ (M : mm_M) (x : Nat) (a : Int) : Prop := sg_ (nn_ri M (x + 5)) 0 (nn_rf M (x + 4) 1) (nn_ri M (x + 9) a) ∨ sg_ (nn_ri M (x + 9)) 0 a (nn_ri M (x + 9) a)
theorem ct_I_isAhead {x : Nat} {a : Int} {M : mm_M} {R : Int → mm_M → Prop} (hx : xk_ x) (hm : 0 ≤ nn_rf M (x + 4) 1 ∧ nn_rf M (x + 4) 1 ≤ 12) (ha : 0 ≤ a ∧ a < 144) (h1 : ah_ M x a → R 1 M) (h0 : ¬ ah_ M x a → R 0 M) : nr_Index_isAhead x a M R := by
  refine ng_Index_isAhead _ _ _ _ ?_
  have L2 : ∀ i : Int, i ≤ a → 0 ≤ i → ∀ is : Int, (is = 1 ∧ ah_ M x a) ∨ (is = 0 ∧ ¬ sg_ (nn_ri M (x + 5)) 0 (nn_rf M (x + 4) 1) (nn_ri M (x + 9) a) ∧ ¬ sg_ (nn_ri M (x + 9)) 0 i (nn_ri M (x + 9) a)) → nk_Index_isAhead_55 x a is i M R := by
    refine lp_up (fun i hi ih i0 is hw => ?_)
    have fin : is = 1 → (is = 0 ∨ is = 1) ∧ R is M := fun e => by
      rcases hw with ⟨w1, w2⟩ | ⟨w1, _⟩
      · rw [w1]; exact ⟨Or.inr rfl, h1 w2⟩
      · omega
    refine ng_Index_isAhead_55 _ _ _ _ _ _ ⟨fun c => ?_, fun c => ⟨fun z => ?_, fun z => ⟨by omega, by omega, ?_⟩⟩⟩
    · rcases hw with ⟨w1, w2⟩ | ⟨w1, w2, w3⟩
      · exact fin w1
      · rw [w1]
        refine ⟨Or.inl rfl, h0 ?_⟩
        rintro (q | q)
        · exact w2 q
        · have : i = a := by omega
          subst this
          exact w3 q
    · rcases hw with ⟨w1, _⟩ | ⟨w1, _⟩
      · exact fin w1
      · exact absurd w1 z
    · rcases hw with ⟨w1, _⟩ | ⟨w1, w2, w3⟩
      · omega
      rw [mm_w_id (x := i + 1) (by omega)]
      refine ⟨fun q => ?_, fun q => ?_⟩
      · rw [ne_eq, lcmp_eq] at q
        refine ih c (by omega) 0 (Or.inr ⟨rfl, w2, ?_⟩)
        rintro ⟨j, j0, j1, j2⟩
        by_cases y : j = i
        · rw [y] at j2; exact q j2
        · exact w3 ⟨j, j0, by omega, j2⟩
      · rw [lcmp_eq] at q
        exact ih c (by omega) 1 (Or.inl ⟨rfl, Or.inr ⟨i, i0, c, q⟩⟩)
  have L1 : ∀ i : Int, i ≤ nn_rf M (x + 4) 1 → 0 ≤ i → ∀ is : Int, (is = 1 ∧ ah_ M x a) ∨ (is = 0 ∧ ¬ sg_ (nn_ri M (x + 5)) 0 i (nn_ri M (x + 9) a)) → nk_Index_isAhead_4 x a is i M R := by
    refine lp_up (fun i hi ih i0 is hw => ?_)
    have go : is = 1 → nk_Index_isAhead_55 x a is 0 M R := fun e => by
      rcases hw with ⟨w1, w2⟩ | ⟨w1, _⟩
      · exact L2 0 ha.1 (Int.le_refl _) is (Or.inl ⟨w1, w2⟩)
      · omega
    refine ng_Index_isAhead_4 _ _ _ _ _ _ ?_
    rw [show (mm_kd (x + 5)).2 = 12 from by rw [hx.1]]
    refine ⟨fun c => ?_, fun c => ⟨fun z => ?_, fun z => ⟨by omega, by omega, ?_⟩⟩⟩
    · rcases hw with ⟨w1, w2⟩ | ⟨w1, w2⟩
      · exact go w1
      · refine L2 0 ha.1 (Int.le_refl _) is (Or.inr ⟨w1, ?_, ?_⟩)
        · have : i = nn_rf M (x + 4) 1 := by omega
          rw [← this]; exact w2
        · rintro ⟨j, j0, j1, _⟩; omega
    · rcases hw with ⟨w1, _⟩ | ⟨w1, _⟩
      · exact go w1
      · exact absurd w1 z
    · rcases hw with ⟨w1, _⟩ | ⟨w1, w2⟩
      · omega
      rw [mm_w_id (x := i + 1) (by omega)]
      refine ⟨fun q => ?_, fun q => ?_⟩
      · rw [ne_eq, lcmp_eq] at q
        refine ih c (by omega) 0 (Or.inr ⟨rfl, ?_⟩)
        rintro ⟨j, j0, j1, j2⟩
        by_cases y : j = i
        · rw [y] at j2; exact q j2
        · exact w2 ⟨j, j0, by omega, j2⟩
      · rw [lcmp_eq] at q
        exact ih c (by omega) 1 (Or.inl ⟨rfl, Or.inl ⟨i, i0, c, q⟩⟩)
  exact L1 0 hm.1 (Int.le_refl _) 0 (Or.inr ⟨rfl, by rintro ⟨j, j0, j1, _⟩; omega⟩)
noncomputable def ws_ (M : mm_M) (x : Nat) (lat : ab_V) (a : Int) : Bool := @decide (fs_ lat (nn_ri M (x + 9) a) = true ∧ ah_ M x a) (Classical.propDecidable _)
theorem ws_t {M : mm_M} {x : Nat} {lat : ab_V} {a : Int} : ws_ M x lat a = true ↔ (fs_ lat (nn_ri M (x + 9) a) = true ∧ ah_ M x a) := @decide_eq_true_iff _ (Classical.propDecidable _)
theorem pl_run {M : mm_M} {p : Nat} {n : Int} {g : Int → ab_P} (k : pl_ M p n g) {i : Int} (h0 : 0 ≤ i) (h1 : i < nn_ri M (p + 2) n) : ∃ r, 0 ≤ r ∧ r < n ∧ nn_ri M (p + 2) r ≤ i ∧ i < nn_ri M (p + 2) (r + 1) := by
  have key : ∀ t : Nat, (t : Int) ≤ n → i < nn_ri M (p + 2) t → ∃ r, 0 ≤ r ∧ r < (t : Int) ∧ nn_ri M (p + 2) r ≤ i ∧ i < nn_ri M (p + 2) (r + 1) := by
    intro t
    induction t with
    | zero =>
      intro _ h
      rw [show ((0 : Nat) : Int) = 0 from rfl, k.2.1.1] at h
      omega
    | succ t ih =>
      intro ht h
      by_cases z : i < nn_ri M (p + 2) t
      · obtain ⟨r, a, b, c, d⟩ := ih (by omega) z
        exact ⟨r, a, by omega, c, d⟩
      · exact ⟨t, by omega, by omega, by omega, by rw [show (t : Int) + 1 = ((t + 1 : Nat) : Int) by omega]; exact h⟩
  have n0 := k.1.2.1
  obtain ⟨r, a, b, c, d⟩ := key n.toNat (by omega) (by rw [show ((n.toNat : Nat) : Int) = n by omega]; exact h1)
  exact ⟨r, a, by omega, c, d⟩
theorem pl_ve {M : mm_M} {p : Nat} {n : Int} {g : Int → ab_P} (k : pl_ M p n g) (hv : vl_ n g) {i : Int} (h0 : 0 ≤ i) (h1 : i < nn_ri M (p + 2) n) : ve_ (nn_ri M (p + 1) i) := by
  obtain ⟨r, a, b, c, d⟩ := pl_run k h0 h1
  exact hv r a b _ (((k.2.2.2 r a b (by omega)).2 _).mp ⟨i, c, d, rfl⟩)
theorem ct_I_waste {x v : Nat} {n : Int} {M : mm_M} {R : Int → mm_M → Prop} {S : Int → Prop} {g : Int → ab_P} (hx : xk_ x) (hs : es_ M (x + 4) S) (hve : ∀ y, S y → ve_ y) (k : pl_ M (x + 8) n g) (hv : vl_ n g) (h : R (stm_ M (x + 4) (cv_ M v) (nn_rf M (x + 4) 1) + sm_ (stl_ M (x + 8) (cv_ M v)) n.toNat + ct_ (ws_ M x (cv_ M v)) 0 (nn_ri M (x + 10) n).toNat) M) : nr_Index_waste x v M R := by
  have hs' := hs
  obtain ⟨z0, z1, z2⟩ := hs
  rw [show x + 4 + 1 = x + 5 by omega, kd12 hx] at z1
  obtain ⟨n0, n24⟩ := k.1.2
  have qn := pm_le k n0 (Int.le_refl n) (Int.le_refl n)
  rw [show x + 8 + 2 = x + 10 by omega] at qn
  refine ng_Index_waste _ _ _ _ ?_
  refine ct_I_stale hx hs' hve k hv ?_
  have hm := ct_in (fun i => !fs_ (cv_ M v) (nn_ri M (x + 4 + 1) i)) 0 (nn_rf M (x + 4) 1).toNat
  have a1 := sm_stl k (cv_ M v) n.toNat (by omega)
  rw [show ((n.toNat : Nat) : Int) = n by omega, show x + 8 + 2 = x + 10 by omega] at a1
  have a0 : 0 ≤ stm_ M (x + 4) (cv_ M v) (nn_rf M (x + 4) 1) ∧ stm_ M (x + 4) (cv_ M v) (nn_rf M (x + 4) 1) ≤ 12 := by
    unfold stm_
    omega
  have hb : 0 ≤ stm_ M (x + 4) (cv_ M v) (nn_rf M (x + 4) 1) + sm_ (stl_ M (x + 8) (cv_ M v)) n.toNat ∧ stm_ M (x + 4) (cv_ M v) (nn_rf M (x + 4) 1) + sm_ (stl_ M (x + 8) (cv_ M v)) n.toNat ≤ 200 := by omega
  generalize stm_ M (x + 4) (cv_ M v) (nn_rf M (x + 4) 1) + sm_ (stl_ M (x + 8) (cv_ M v)) n.toNat = base at h hb ⊢
  have sz : nf_Pile_size (x + 8) M = nn_ri M (x + 10) n := nf_Psize k
  have L : ∀ i : Int, i ≤ nn_ri M (x + 10) n → 0 ≤ i → ∀ b : Int, b = base + ct_ (ws_ M x (cv_ M v)) 0 i.toNat → nk_Index_waste_8 x v b i M R := by
    refine lp_up (fun i hi ih h0 b hbe => ?_)
    have hc := ct_in (ws_ M x (cv_ M v)) 0 i.toNat
    refine ng_Index_waste_8 _ _ _ _ _ _ ⟨nc_Psize k, ?_⟩
    rw [sz]
    refine ⟨fun c => ?_, fun c => ⟨by omega, ?_⟩⟩
    · have : i = nn_ri M (x + 10) n := by omega
      rw [hbe, this]
      exact h
    have vi : ve_ (nn_ri M (x + 9) i) := pl_ve k hv h0 c
    have nx := ih c (by omega)
    rw [show (i + 1).toNat = i.toNat + 1 by omega] at nx
    have e : ct_ (ws_ M x (cv_ M v)) 0 (i.toNat + 1) = ct_ (ws_ M x (cv_ M v)) 0 i.toNat + (if ws_ M x (cv_ M v) i = true then 1 else 0) := by
      show _ + (if ws_ M x (cv_ M v) (0 + (i.toNat : Int)) = true then (1 : Int) else 0) = _
      rw [show (0 : Int) + (i.toNat : Int) = i by omega]
    rw [e] at nx
    rw [nf_stale vi, mm_w_id (x := i + 1) (by omega)]
    refine ⟨nc_stale vi, fun z => ?_, fun z => ?_⟩
    · have : ¬ ws_ M x (cv_ M v) i = true := fun y => by
        rw [if_pos (ws_t.mp y).1] at z
        exact z rfl
      rw [if_neg this] at nx
      exact nx b (by omega)
    · have z2 : fs_ (cv_ M v) (nn_ri M (x + 9) i) = true := by
        by_cases y : fs_ (cv_ M v) (nn_ri M (x + 9) i) = true
        · exact y
        · rw [if_neg y] at z; exact absurd z (by decide)
      refine ct_I_isAhead hx ⟨z0, z1⟩ ⟨h0, by omega⟩ (fun y => ⟨fun w => absurd w (by decide), fun _ => ?_⟩) (fun y => ⟨fun _ => ?_, fun w => absurd rfl w⟩)
      · rw [if_pos (ws_t.mpr ⟨z2, y⟩)] at nx
        have := nx (b + 1) (by omega)
        rw [mm_w_id (by omega)]
        exact this
      · rw [if_neg (fun w => y (ws_t.mp w).2)] at nx
        exact nx b (by omega)
  exact L 0 (by omega) (Int.le_refl _) base (by show base = base + 0; omega)
