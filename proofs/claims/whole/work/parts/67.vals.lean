/-! the class's Index: what its values tell -/
theorem ff_up {p : Int → Bool} {i m : Int} (hi : i < m) (_h0 : 0 ≤ i) : ff_ p (m - i).toNat i = if p i = true then i else ff_ p (m - (i + 1)).toNat (i + 1) := by
  rw [show (m - i).toNat = (m - (i + 1)).toNat + 1 by omega]
  rfl
def an_ (vv : Int → Int) (value but : Int) : Int := ff_ (fun k => decide (k ≠ but) && (vv k == value)) 32 0
theorem ct_I_another {x : Nat} {value but : Int} {M : mm_M} {R : Int → mm_M → Prop} (h : R (an_ (nn_ri M (x + 14)) value but) M) : nr_Index_another x value but M R := by
  refine ng_Index_another _ _ _ _ _ ?_
  have L : ∀ i : Int, i ≤ 32 → 0 ≤ i → R (ff_ (fun k => decide (k ≠ but) && (nn_ri M (x + 14) k == value)) (32 - i).toNat i) M → nk_Index_another_2 x value but i M R := by
    refine lp_up (fun i hi ih h0 hR => ?_)
    refine ng_Index_another_2 _ _ _ _ _ _ ⟨fun c => ?_, fun c => ⟨fun _ => by omega, fun q => ?_, fun q => ?_⟩⟩
    · have : i = 32 := by omega
      subst this
      exact hR
    · rw [mm_w_id (x := i + 1) (by omega)]
      refine ih c (by omega) ?_
      rw [ff_up (m := 32) c h0, if_neg (by
        rw [Bool.and_eq_true, decide_eq_true_eq, beq_iff_eq]
        omega)] at hR
      exact hR
    · rw [ff_up (m := 32) c h0, if_pos (by
        rw [Bool.and_eq_true, decide_eq_true_eq, beq_iff_eq]
        exact q)] at hR
      exact hR
  exact L 0 (by omega) (Int.le_refl _) h
theorem ff_cg {p q : Int → Bool} : ∀ {n : Nat} {a : Int}, (∀ i, a ≤ i → i < a + n → p i = q i) → ff_ p n a = ff_ q n a
  | 0, _, _ => rfl
  | n + 1, a, h => by
    unfold ff_
    rw [h a (Int.le_refl _) (by omega), ff_cg (n := n) (a := a + 1) (fun i i0 i1 => h i (by omega) (by omega))]
theorem an_cg {vv ww : Int → Int} {value but : Int} (h : ∀ k, 0 ≤ k → k < 32 → vv k = ww k) : an_ vv value but = an_ ww value but := ff_cg (fun i i0 i1 => by rw [h i i0 (by omega)])
theorem an_spec (vv : Int → Int) (value but : Int) : (an_ vv value but = -1 ∧ ∀ k, 0 ≤ k → k < 32 → k ≠ but → vv k ≠ value) ∨ (0 ≤ an_ vv value but ∧ an_ vv value but < 32 ∧ an_ vv value but ≠ but ∧ vv (an_ vv value but) = value ∧ ∀ k, 0 ≤ k → k < an_ vv value but → k ≠ but → vv k ≠ value) := by
  unfold an_
  rcases ff_spec (fun k => decide (k ≠ but) && (vv k == value)) 32 0 (by omega) with ⟨e, g⟩ | ⟨g1, g2, g3, g4⟩
  · refine Or.inl ⟨e, fun k k0 k1 kb kv => ?_⟩
    have := g k k0 (by omega)
    simp [kb, kv] at this
  · rw [Bool.and_eq_true, decide_eq_true_eq, beq_iff_eq] at g3
    refine Or.inr ⟨g1, by omega, g3.1, g3.2, fun k k0 k1 kb kv => ?_⟩
    have := g4 k k0 k1
    simp [kb, kv] at this
theorem ct_I_havers {x : Nat} {value : Int} {M : mm_M} {R : Int → mm_M → Prop} (h : R (ct_ (fun k => nn_ri M (x + 14) k == value) 0 32) M) : nr_Index_havers x value M R := by
  refine ng_Index_havers _ _ _ _ ?_
  have L : ∀ i : Int, i ≤ 32 → 0 ≤ i → nk_Index_havers_4 x value (ct_ (fun k => nn_ri M (x + 14) k == value) 0 i.toNat) i M R := by
    refine lp_up (fun i hi ih h0 => ?_)
    have hc := ct_in (fun k => nn_ri M (x + 14) k == value) 0 i.toNat
    refine ng_Index_havers_4 _ _ _ _ _ _ ⟨fun c => ?_, fun c => ⟨by omega, ?_⟩⟩
    · have : i = 32 := by omega
      subst this
      exact h
    have nx := ih c (by omega)
    rw [show (i + 1).toNat = i.toNat + 1 by omega] at nx
    have e : ct_ (fun k => nn_ri M (x + 14) k == value) 0 (i.toNat + 1) = ct_ (fun k => nn_ri M (x + 14) k == value) 0 i.toNat + (if (nn_ri M (x + 14) i == value) = true then 1 else 0) := by
      show _ + (if (nn_ri M (x + 14) (0 + (i.toNat : Int)) == value) = true then (1 : Int) else 0) = _
      rw [show (0 : Int) + (i.toNat : Int) = i by omega]
    rw [e] at nx
    rw [mm_w_id (x := i + 1) (by omega), mm_w_id (x := _ + (0 : Int)) (by omega), mm_w_id (x := _ + (1 : Int)) (by omega)]
    refine ⟨fun z => ?_, fun z => ?_⟩
    · rw [if_neg (by rw [beq_iff_eq]; exact z)] at nx; exact nx
    · rw [if_pos (by rw [beq_iff_eq]; exact z)] at nx; exact nx
  exact L 0 (by omega) (Int.le_refl _)
def cl_ (vv : Int → Int) : Nat → Int
  | 0 => -1
  | k + 1 => if (vv k ≠ -1 ∧ (cl_ vv k = -1 ∨ vv k < cl_ vv k)) ∧ an_ vv (vv k) k ≠ -1 then vv k else cl_ vv k
theorem ct_I_clash {x : Nat} {M : mm_M} {R : Int → mm_M → Prop} (h : R (cl_ (nn_ri M (x + 14)) 32) M) : nr_Index_clash x M R := by
  refine ng_Index_clash _ _ _ ?_
  have L : ∀ i : Int, i ≤ 32 → 0 ≤ i → nk_Index_clash_4 x (cl_ (nn_ri M (x + 14)) i.toNat) i M R := by
    refine lp_up (fun i hi ih h0 => ?_)
    refine ng_Index_clash_4 _ _ _ _ _ ⟨fun c => ?_, fun c => ⟨by omega, fun q => ?_, fun q => ?_⟩⟩
    · have : i = 32 := by omega
      subst this
      exact h
    all_goals
      have nx := ih c (by omega)
      rw [show (i + 1).toNat = i.toNat + 1 by omega] at nx
      have e : cl_ (nn_ri M (x + 14)) (i.toNat + 1) = if (nn_ri M (x + 14) i ≠ -1 ∧ (cl_ (nn_ri M (x + 14)) i.toNat = -1 ∨ nn_ri M (x + 14) i < cl_ (nn_ri M (x + 14)) i.toNat)) ∧ an_ (nn_ri M (x + 14)) (nn_ri M (x + 14) i) i ≠ -1 then nn_ri M (x + 14) i else cl_ (nn_ri M (x + 14)) i.toNat := by
        show (if (nn_ri M (x + 14) (i.toNat : Int) ≠ -1 ∧ (cl_ (nn_ri M (x + 14)) i.toNat = -1 ∨ nn_ri M (x + 14) (i.toNat : Int) < cl_ (nn_ri M (x + 14)) i.toNat)) ∧ an_ (nn_ri M (x + 14)) (nn_ri M (x + 14) (i.toNat : Int)) (i.toNat : Int) ≠ -1 then nn_ri M (x + 14) (i.toNat : Int) else cl_ (nn_ri M (x + 14)) i.toNat) = _
        rw [show ((i.toNat : Nat) : Int) = i by omega]
      rw [e] at nx
      rw [mm_w_id (x := i + 1) (by omega)]
    · rw [if_neg (by omega)] at nx
      exact nx
    · refine ct_I_another ⟨fun z => ?_, fun z => ?_⟩
      · rw [if_neg (by omega)] at nx; exact nx
      · rw [if_pos ⟨q, z⟩] at nx; exact nx
  exact L 0 (by omega) (Int.le_refl _)
theorem nf_hasFrom {x : Nat} {k low high : Int} {M : mm_M} : nf_Index_hasFrom x k low high M = if nn_ri M (x + 14) k ≠ -1 ∧ low ≤ nn_ri M (x + 14) k ∧ nn_ri M (x + 14) k ≤ high then 1 else 0 := by
  unfold nf_Index_hasFrom
  by_cases h1 : nn_ri M (x + 14) k = -1
  · rw [if_pos h1, if_neg (by omega)]
  · rw [if_neg h1]
    by_cases h2 : nn_ri M (x + 14) k < low
    · rw [if_pos h2, if_neg (by omega)]
    · rw [if_neg h2]
      by_cases h3 : high < nn_ri M (x + 14) k
      · rw [if_pos h3, if_neg (by omega)]
      · rw [if_neg h3, if_pos (by omega)]
theorem nc_hasFrom {x : Nat} {k low high : Int} {M : mm_M} (hk : 0 ≤ k ∧ k < 32) : nc_Index_hasFrom x k low high M := ⟨hk, fun _ => ⟨hk, fun _ => hk⟩⟩
/-- UNUSED; CROWDED and how many -/
def cr_ (vv : Int → Int) : Nat → Int × Int
  | 0 => (-1, 0)
  | k + 1 => if vv k ≠ -1 ∧ ((cr_ vv k).2 < ct_ (fun j => vv j == vv k) 0 32 ∨ (ct_ (fun j => vv j == vv k) 0 32 = (cr_ vv k).2 ∧ vv k < (cr_ vv k).1)) then (vv k, ct_ (fun j => vv j == vv k) 0 32) else cr_ vv k
def uu_ (vv : Int → Int) : Int := if ff_ (fun v => decide (an_ vv v (-1) = -1)) 32 0 = -1 then 32 else ff_ (fun v => decide (an_ vv v (-1) = -1)) 32 0
theorem ct_pos {p : Int → Bool} {s : Int} : ∀ {m : Nat} {i : Int}, s ≤ i → i < s + m → p i = true → 0 < ct_ p s m
  | 0, _, h0, h1, _ => by omega
  | m + 1, i, h0, h1, hp => by
    have hc := ct_in p s m
    unfold ct_
    by_cases z : i = s + m
    · rw [← z, hp, if_pos rfl]; omega
    · have := ct_pos (p := p) (m := m) h0 (by omega) hp
      split <;> omega
theorem ct_I_unused {x : Nat} {M : mm_M} {R : Int → mm_M → Prop} (h : R (uu_ (nn_ri M (x + 14))) M) : nr_Index_toldOfValues x 10 M R := by
  refine ng_Index_toldOfValues _ _ _ _ ⟨fun c => absurd rfl c, fun _ => ?_⟩
  have L : ∀ i : Int, i ≤ 32 → 0 ≤ i → (if ff_ (fun v => decide (an_ (nn_ri M (x + 14)) v (-1) = -1)) (32 - i).toNat i = -1 then (32 : Int) else ff_ (fun v => decide (an_ (nn_ri M (x + 14)) v (-1) = -1)) (32 - i).toNat i) = uu_ (nn_ri M (x + 14)) → nk_Index_toldOfValues_8 x i M R := by
    refine lp_up (fun i hi ih h0 hR => ?_)
    refine ng_Index_toldOfValues_8 _ _ _ _ ⟨fun c => ?_, fun c => ?_⟩
    · have : i = 32 := by omega
      subst this
      have e : uu_ (nn_ri M (x + 14)) = 32 := hR.symm
      rw [e] at h
      exact h
    · rw [ff_up (m := 32) c h0] at hR
      refine ct_I_another ⟨fun z => ?_, fun z => ?_⟩
      · rw [if_pos (decide_eq_true z), if_neg (by omega)] at hR
        rw [← hR] at h
        exact h
      · rw [if_neg (c := decide (an_ (nn_ri M (x + 14)) i (-1) = -1) = true) (by rw [decide_eq_true_eq]; exact z)] at hR
        rw [mm_w_id (x := i + 1) (by omega)]
        exact ih c (by omega) hR
  exact L 0 (by omega) (Int.le_refl _) rfl
theorem ct_I_crowded {x : Nat} {what : Int} {M : mm_M} {R : Int → mm_M → Prop} (hw : what = 11 ∨ what = 12) (h : R (if what = 11 then (cr_ (nn_ri M (x + 14)) 32).1 else (cr_ (nn_ri M (x + 14)) 32).2) M) : nr_Index_toldOfValues x what M R := by
  refine ng_Index_toldOfValues _ _ _ _ ⟨fun _ => ?_, fun c => by omega⟩
  have L : ∀ i : Int, i ≤ 32 → 0 ≤ i → 0 ≤ (cr_ (nn_ri M (x + 14)) i.toNat).2 → nk_Index_toldOfValues_39 x what (cr_ (nn_ri M (x + 14)) i.toNat).1 (cr_ (nn_ri M (x + 14)) i.toNat).2 i M R := by
    refine lp_up (fun i hi ih h0 hp => ?_)
    refine ng_Index_toldOfValues_39 _ _ _ _ _ _ _ ⟨fun c => ?_, fun c => ⟨by omega, fun q => ⟨by omega, ?_⟩, fun q => ?_⟩⟩
    · have : i = 32 := by omega
      subst this
      refine ⟨fun z => ?_, fun z => ?_⟩
      · rw [if_neg z] at h; exact h
      · rw [if_pos z] at h; exact h
    all_goals
      have e : cr_ (nn_ri M (x + 14)) (i.toNat + 1) = if nn_ri M (x + 14) i ≠ -1 ∧ ((cr_ (nn_ri M (x + 14)) i.toNat).2 < ct_ (fun j => nn_ri M (x + 14) j == nn_ri M (x + 14) i) 0 32 ∨ (ct_ (fun j => nn_ri M (x + 14) j == nn_ri M (x + 14) i) 0 32 = (cr_ (nn_ri M (x + 14)) i.toNat).2 ∧ nn_ri M (x + 14) i < (cr_ (nn_ri M (x + 14)) i.toNat).1)) then (nn_ri M (x + 14) i, ct_ (fun j => nn_ri M (x + 14) j == nn_ri M (x + 14) i) 0 32) else cr_ (nn_ri M (x + 14)) i.toNat := by
        show (if nn_ri M (x + 14) (i.toNat : Int) ≠ -1 ∧ ((cr_ (nn_ri M (x + 14)) i.toNat).2 < ct_ (fun j => nn_ri M (x + 14) j == nn_ri M (x + 14) (i.toNat : Int)) 0 32 ∨ (ct_ (fun j => nn_ri M (x + 14) j == nn_ri M (x + 14) (i.toNat : Int)) 0 32 = (cr_ (nn_ri M (x + 14)) i.toNat).2 ∧ nn_ri M (x + 14) (i.toNat : Int) < (cr_ (nn_ri M (x + 14)) i.toNat).1)) then (nn_ri M (x + 14) (i.toNat : Int), ct_ (fun j => nn_ri M (x + 14) j == nn_ri M (x + 14) (i.toNat : Int)) 0 32) else cr_ (nn_ri M (x + 14)) i.toNat) = _
        rw [show ((i.toNat : Nat) : Int) = i by omega]
      have nx := ih c (by omega)
      rw [show (i + 1).toNat = i.toNat + 1 by omega, e] at nx
      rw [mm_w_id (x := i + 1) (by omega)]
    · have hpos := ct_pos (p := fun j => nn_ri M (x + 14) j == nn_ri M (x + 14) i) (s := 0) (m := 32) (i := i) h0 (by omega) (by simp)
      refine ct_I_havers ⟨fun _ => by omega, fun _ => by omega, fun _ => by omega, fun z => ?_, fun z => ?_⟩
      · rw [if_pos (by omega)] at nx
        exact nx (show 0 ≤ ct_ (fun j => nn_ri M (x + 14) j == nn_ri M (x + 14) i) 0 32 by omega)
      · rw [if_neg (by omega)] at nx
        exact nx hp
    · refine ⟨fun z => by omega, fun z => by omega, fun z => ?_⟩
      rw [if_neg (by omega)] at nx
      exact nx hp
  exact L 0 (by omega) (Int.le_refl _) (Int.le_refl _)
theorem ct_I_sure {x : Nat} {n : Int} {M : mm_M} {R : Int → mm_M → Prop} {g : Int → ab_P} (k : pl_ M (x + 8) n g) (h : R (ls_ (lr_ (fun r => (g r).2.2.2.1) 0 n.toNat) (if nn_rf M x 5 = 1 then nn_rf M x 8 else -1)) M) : nr_Index_sure x M R := by
  obtain ⟨n0, n24⟩ := k.1.2
  refine ng_Index_sure _ _ _ ?_
  rw [k.1.1]
  refine ct_P_leastRepaired (by omega) n0 (by omega) ?_
  have e : lr_ (nn_ri M (x + 8 + 4)) 0 n.toNat = lr_ (fun r => (g r).2.2.2.1) 0 n.toNat := lr_cg (fun i i0 i1 => (k.2.2.1 i i0 (by omega)).2.2.1)
  rw [e, nf_lesser, nf_lesser]
  refine ⟨fun c => ?_, fun c => ?_⟩
  · rw [if_neg c] at h; exact h
  · rw [if_pos c] at h; exact h
