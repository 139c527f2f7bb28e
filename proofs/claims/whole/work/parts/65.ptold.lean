/-! the class's Pile: a copy, what is stale, what is told -/
theorem ct_P_copy {p w : Nat} {n : Int} {M : mm_M} {R : mm_M → Prop} {g : Int → ab_P} (hd : p + 6 ≤ w ∨ w + 6 ≤ p) (k : pl_ M w n g) (h : ∀ M', fr_ (pp_ p) M M' → pl_ M' p n g → R M') : nr_Pile_copy p w M R := by
  obtain ⟨n0, n24⟩ := k.1.2
  have q := pm_le k n0 (Int.le_refl n) (Int.le_refl n)
  refine ng_Pile_copy _ _ _ _ ?_
  intro M5 e5
  have f5 : fr_ (pp_ p) M M5 := by rw [e5]; exact fr_uf (fr_refl M) ⟨by omega, by omega⟩
  have r5 : nn_rf M5 p 5 = n := by rw [e5, rd_ff, if_pos ⟨rfl, rfl⟩]; exact k.1.1
  have far : ∀ o b, w ≤ o → o < w + 6 → ¬ pp_ p o b := fun o b h1 h2 z => by have := z.1; have := z.2; omega
  have k5 := pl_fr f5 far k
  have s5 := nf_Psize k5
  have g5 : nn_ri M5 (w + 2) n = nn_ri M (w + 2) n := fr_ri f5 (far _ _ (by omega) (by omega))
  rw [s5]
  refine ⟨nc_Psize k5, by omega, ?_⟩
  intro M22 e22
  have f22 : fr_ (fun o _ => o = p + 1) M5 M22 := by rw [e22]; exact fr_cp (fr_refl M5) (fun _ _ _ => rfl)
  have r22 : nn_rf M22 p 5 = n := (fr_rf f22 (by omega)).trans r5
  rw [r22, mm_w_id (x := n + 1) (by omega)]
  refine ⟨by omega, ?_⟩
  intro M41 e41
  have f41 : fr_ (fun o _ => o = p + 2) M22 M41 := by rw [e41]; exact fr_cp (fr_refl M22) (fun _ _ _ => rfl)
  have r41 : nn_rf M41 p 5 = n := (fr_rf f41 (by omega)).trans r22
  rw [r41]
  refine ⟨by omega, ?_⟩
  intro M58 e58
  have f58 : fr_ (fun o _ => o = p + 3) M41 M58 := by rw [e58]; exact fr_cp (fr_refl M41) (fun _ _ _ => rfl)
  have r58 : nn_rf M58 p 5 = n := (fr_rf f58 (by omega)).trans r41
  rw [r58]
  refine ⟨by omega, ?_⟩
  intro M75 e75
  have f75 : fr_ (fun o _ => o = p + 4) M58 M75 := by rw [e75]; exact fr_cp (fr_refl M58) (fun _ _ _ => rfl)
  have r75 : nn_rf M75 p 5 = n := (fr_rf f75 (by omega)).trans r58
  rw [r75]
  refine ⟨by omega, ?_⟩
  intro M92 e92
  have f92 : fr_ (fun o _ => o = p + 5) M75 M92 := by rw [e92]; exact fr_cp (fr_refl M75) (fun _ _ _ => rfl)
  have b0 : fr_ (pp_ p) M M22 := fr_trans f5 (fr_mono f22 (fun o b z => ⟨by omega, by omega⟩))
  have b1 : fr_ (pp_ p) M M41 := fr_trans b0 (fr_mono f41 (fun o b z => ⟨by omega, by omega⟩))
  have b2 : fr_ (pp_ p) M M58 := fr_trans b1 (fr_mono f58 (fun o b z => ⟨by omega, by omega⟩))
  have b3 : fr_ (pp_ p) M M75 := fr_trans b2 (fr_mono f75 (fun o b z => ⟨by omega, by omega⟩))
  have b4 : fr_ (pp_ p) M M92 := fr_trans b3 (fr_mono f92 (fun o b z => ⟨by omega, by omega⟩))
  have t1 : ∀ i, 0 ≤ i → i < nn_ri M (w + 2) n → nn_ri M92 (p + 1) i = nn_ri M (w + 1) i := by
    intro i i0 i1
    rw [fr_ri f92 (by omega), fr_ri f75 (by omega), fr_ri f58 (by omega), fr_ri f41 (by omega), e22, rd_cc _ _ _ _ _ _ _ i0, if_pos (by omega), fr_ri f5 (far _ _ (by omega) (by omega))]
    congr 1
    omega
  have t2 : ∀ i, 0 ≤ i → i ≤ n → nn_ri M92 (p + 2) i = nn_ri M (w + 2) i := by
    intro i i0 i1
    rw [fr_ri f92 (by omega), fr_ri f75 (by omega), fr_ri f58 (by omega), e41, rd_cc _ _ _ _ _ _ _ i0, if_pos (by omega), fr_ri b0 (far _ _ (by omega) (by omega))]
    congr 1
    omega
  have t3 : ∀ i, 0 ≤ i → i < n → nn_ri M92 (p + 3) i = nn_ri M (w + 3) i := by
    intro i i0 i1
    rw [fr_ri f92 (by omega), fr_ri f75 (by omega), e58, rd_cc _ _ _ _ _ _ _ i0, if_pos (by omega), fr_ri b1 (far _ _ (by omega) (by omega))]
    congr 1
    omega
  have t4 : ∀ i, 0 ≤ i → i < n → nn_ri M92 (p + 4) i = nn_ri M (w + 4) i := by
    intro i i0 i1
    rw [fr_ri f92 (by omega), e75, rd_cc _ _ _ _ _ _ _ i0, if_pos (by omega), fr_ri b2 (far _ _ (by omega) (by omega))]
    congr 1
    omega
  have t5 : ∀ i, 0 ≤ i → i < n → nn_ri M92 (p + 5) i = nn_ri M (w + 5) i := by
    intro i i0 i1
    rw [e92, rd_cc _ _ _ _ _ _ _ i0, if_pos (by omega), fr_ri b3 (far _ _ (by omega) (by omega))]
    congr 1
    omega
  refine h M92 b4 ⟨⟨(fr_rf f92 (by omega)).trans r75, n0, n24⟩, ⟨by rw [t2 0 (by omega) n0]; exact k.2.1.1, by rw [t2 n n0 (Int.le_refl _)]; exact k.2.1.2⟩, fun r r0 r1 => ?_, fun r r0 r1 _ => ?_⟩
  · obtain ⟨x1, x2, x3, x4⟩ := k.2.2.1 r r0 r1
    exact ⟨(t5 r r0 r1).trans x1, (t3 r r0 r1).trans x2, (t4 r r0 r1).trans x3, by rw [t2 r r0 (by omega), t2 (r + 1) (by omega) (by omega)]; exact x4⟩
  · have a1 := pm_le k r0 (Int.le_refl r) (by omega)
    have a2 := pm_le k (show 0 ≤ r + 1 by omega) (show r + 1 ≤ n by omega) (Int.le_refl n)
    rw [t2 r r0 (by omega), t2 (r + 1) (by omega) (by omega)]
    exact rs_cg (fun i i0 i1 => t1 i (by omega) (by omega)) (k.2.2.2 r r0 r1 (by omega))
/-- how many from s on, so many of them looked at, are such -/
def ct_ (p : Int → Bool) (s : Int) : Nat → Int
  | 0 => 0
  | m + 1 => ct_ p s m + (if p (s + m) = true then 1 else 0)
theorem ct_in (p : Int → Bool) (s : Int) : ∀ m, 0 ≤ ct_ p s m ∧ ct_ p s m ≤ m
  | 0 => ⟨Int.le_refl _, Int.le_refl _⟩
  | m + 1 => by
    have := ct_in p s m
    unfold ct_
    split <;> omega
theorem ct_cg {p q : Int → Bool} {s : Int} : ∀ {m : Nat}, (∀ i, s ≤ i → i < s + m → p i = q i) → ct_ p s m = ct_ q s m
  | 0, _ => rfl
  | m + 1, h => by
    unfold ct_
    rw [ct_cg (m := m) (fun i i0 i1 => h i i0 (by omega)), h (s + m) (by omega) (by omega)]
def stl_ (M : mm_M) (p : Nat) (lat : ab_V) (r : Int) : Int := ct_ (fun i => !fs_ lat (nn_ri M (p + 1) i)) (nn_ri M (p + 2) r) (nn_ri M (p + 2) (r + 1) - nn_ri M (p + 2) r).toNat
theorem ct_P_staleIn {p v : Nat} {r n : Int} {M : mm_M} {R : Int → mm_M → Prop} {g : Int → ab_P} (k : pl_ M p n g) (hv : vl_ n g) (hr : 0 ≤ r ∧ r < n) (h : R (stl_ M p (cv_ M v) r) M) : nr_Pile_staleIn p r v M R := by
  have n24 := k.1.2.2
  have q := pm_le k hr.1 (show r ≤ r + 1 by omega) (by omega)
  refine ng_Pile_staleIn _ _ _ _ _ ⟨by omega, ?_⟩
  have L : ∀ i : Int, i ≤ nn_ri M (p + 2) (r + 1) → nn_ri M (p + 2) r ≤ i → nk_Pile_staleIn_10 p r v (ct_ (fun i => !fs_ (cv_ M v) (nn_ri M (p + 1) i)) (nn_ri M (p + 2) r) (i - nn_ri M (p + 2) r).toNat) i M R := by
    refine lp_up (fun i hi ih h0 => ?_)
    have hc := ct_in (fun i => !fs_ (cv_ M v) (nn_ri M (p + 1) i)) (nn_ri M (p + 2) r) (i - nn_ri M (p + 2) r).toNat
    refine ng_Pile_staleIn_10 _ _ _ _ _ _ _ ?_
    rw [mm_w_id (x := r + 1) (by omega), mm_w_id (x := i + 1) (by omega), mm_w_id (x := _ + (0 : Int)) (by omega), mm_w_id (x := _ + (1 : Int)) (by omega)]
    refine ⟨by omega, fun c => ?_, fun c => ⟨by omega, ?_⟩⟩
    · have : i = nn_ri M (p + 2) (r + 1) := by omega
      subst this
      exact h
    have vi : ve_ (nn_ri M (p + 1) i) := hv r hr.1 hr.2 _ (((k.2.2.2 r hr.1 hr.2 (by omega)).2 _).mp ⟨i, h0, c, rfl⟩)
    have nx := ih c (by omega)
    rw [show (i + 1 - nn_ri M (p + 2) r).toNat = (i - nn_ri M (p + 2) r).toNat + 1 by omega] at nx
    have e : ct_ (fun i => !fs_ (cv_ M v) (nn_ri M (p + 1) i)) (nn_ri M (p + 2) r) ((i - nn_ri M (p + 2) r).toNat + 1) = ct_ (fun i => !fs_ (cv_ M v) (nn_ri M (p + 1) i)) (nn_ri M (p + 2) r) (i - nn_ri M (p + 2) r).toNat + (if (!fs_ (cv_ M v) (nn_ri M (p + 1) i)) = true then 1 else 0) := by
      show _ + (if (!fs_ (cv_ M v) (nn_ri M (p + 1) (nn_ri M (p + 2) r + ((i - nn_ri M (p + 2) r).toNat : Int)))) = true then (1 : Int) else 0) = _
      rw [show nn_ri M (p + 2) r + ((i - nn_ri M (p + 2) r).toNat : Int) = i by omega]
    rw [e] at nx
    rw [nf_stale vi]
    refine ⟨nc_stale vi, fun z => ?_, fun z => ?_⟩
    · have z2 : fs_ (cv_ M v) (nn_ri M (p + 1) i) = true := by
        by_cases y : fs_ (cv_ M v) (nn_ri M (p + 1) i) = true
        · exact y
        · rw [if_neg y] at z; exact absurd z (by decide)
      rw [z2] at nx
      exact nx
    · have z2 : fs_ (cv_ M v) (nn_ri M (p + 1) i) = false := by
        cases y : fs_ (cv_ M v) (nn_ri M (p + 1) i) with
        | true => rw [y] at z; exact absurd rfl z
        | false => rfl
      rw [z2] at nx
      exact nx
  have := L (nn_ri M (p + 2) r) q.2.1 (Int.le_refl _)
  rw [show (nn_ri M (p + 2) r - nn_ri M (p + 2) r).toNat = 0 by omega] at this
  exact this
def wo_ (st : Int → Int) : Nat → Int × Int
  | 0 => (-1, 0)
  | k + 1 => if (wo_ st k).2 < st k then ((k : Int), st k) else wo_ st k
theorem wo_cg {st su : Int → Int} : ∀ {n : Nat}, (∀ i : Int, 0 ≤ i → i < n → st i = su i) → wo_ st n = wo_ su n
  | 0, _ => rfl
  | n + 1, h => by
    unfold wo_
    rw [wo_cg (n := n) (fun i i0 i1 => h i i0 (by omega)), h n (by omega) (by omega)]
theorem ct_P_worst {p v : Nat} {n : Int} {M : mm_M} {R : Int → mm_M → Prop} {g : Int → ab_P} (k : pl_ M p n g) (hv : vl_ n g) (h : R (wo_ (stl_ M p (cv_ M v)) n.toNat).1 M) : nr_Pile_worst p v M R := by
  obtain ⟨n0, n24⟩ := k.1.2
  refine ng_Pile_worst _ _ _ _ ?_
  have L : ∀ i : Int, i ≤ n → 0 ≤ i → nk_Pile_worst_7 p v (wo_ (stl_ M p (cv_ M v)) i.toNat).1 (wo_ (stl_ M p (cv_ M v)) i.toNat).2 i M R := by
    refine lp_up (fun i hi ih h0 => ?_)
    refine ng_Pile_worst_7 _ _ _ _ _ _ _ ?_
    rw [k.1.1]
    refine ⟨fun c => ?_, fun c => ?_⟩
    · have : i = n := by omega
      subst this
      exact h
    refine ct_P_staleIn k hv ⟨h0, c⟩ ?_
    have nx := ih c (by omega)
    have e : wo_ (stl_ M p (cv_ M v)) (i.toNat + 1) = if (wo_ (stl_ M p (cv_ M v)) i.toNat).2 < stl_ M p (cv_ M v) i then (i, stl_ M p (cv_ M v) i) else wo_ (stl_ M p (cv_ M v)) i.toNat := by
      show (if (wo_ (stl_ M p (cv_ M v)) i.toNat).2 < stl_ M p (cv_ M v) (i.toNat : Int) then ((i.toNat : Int), stl_ M p (cv_ M v) (i.toNat : Int)) else wo_ (stl_ M p (cv_ M v)) i.toNat) = _
      rw [show ((i.toNat : Nat) : Int) = i by omega]
    rw [show (i + 1).toNat = i.toNat + 1 by omega, e] at nx
    rw [mm_w_id (x := i + 1) (by omega)]
    refine ⟨fun z => ?_, fun z => ?_⟩
    · rw [if_neg (by omega)] at nx; exact nx
    · rw [if_pos z] at nx; exact nx
  exact L 0 n0 (Int.le_refl _)
def ptl_ (M : mm_M) (p : Nat) (n : Int) (g : Int → ab_P) (what : Int) : Int := if what < 20 then -2 else if what < 60 ∧ what - 20 < n then nn_ri M (p + 2) (what - 20 + 1) - nn_ri M (p + 2) (what - 20) else if what < 60 then -2 else if what < 100 ∧ what - 60 < n then (g (what - 60)).2.2.1 else if what < 100 then -2 else if what - 100 < n then (g (what - 100)).2.2.2.1 else -2
theorem ct_P_told {p : Nat} {n what : Int} {M : mm_M} {R : Int → mm_M → Prop} {g : Int → ab_P} (k : pl_ M p n g) (hw : 20 ≤ what ∧ what < 2147483648) (h : R (ptl_ M p n g what) M) : nr_Pile_told p what M R := by
  obtain ⟨n0, n24⟩ := k.1.2
  refine ng_Pile_told _ _ _ _ ?_
  rw [mm_w_id (x := what - 20) (by omega), k.1.1]
  unfold ptl_ at h
  rw [if_neg (by omega)] at h
  have sz : what < 60 → what - 20 < n → nc_Pile_sizeOf p (what - 20) M ∧ nf_Pile_sizeOf p (what - 20) M = nn_ri M (p + 2) (what - 20 + 1) - nn_ri M (p + 2) (what - 20) := by
    intro c1 c2
    have q := pm_le k (show 0 ≤ what - 20 by omega) (show what - 20 ≤ what - 20 + 1 by omega) (by omega)
    unfold nc_Pile_sizeOf nf_Pile_sizeOf
    rw [mm_w_id (x := what - 20 + 1) (by omega), mm_w_id (x := _ - nn_ri M (p + 2) (what - 20)) (by omega)]
    exact ⟨by omega, rfl⟩
  refine ⟨fun c => (sz (by omega) (by omega)).1, fun c => ?_, fun c => ?_⟩
  · rw [if_neg (by omega)] at h
    refine ng_Pile_told_32 _ _ _ _ ?_
    rw [mm_w_id (x := what - 60) (by omega), k.1.1]
    refine ⟨fun c2 => by omega, fun c2 => ?_, fun c2 => ?_⟩
    · refine ng_Pile_told_65 _ _ _ _ ?_
      rw [mm_w_id (x := what - 100) (by omega), k.1.1]
      by_cases z : what < 60
      · rw [if_pos z] at h
        exact ⟨fun c3 => by omega, fun _ => h, fun c3 => by omega⟩
      · rw [if_neg z, if_neg (by omega)] at h
        by_cases y : what < 100
        · rw [if_pos y] at h
          exact ⟨fun c3 => by omega, fun _ => h, fun c3 => by omega⟩
        · rw [if_neg y] at h
          refine ⟨fun c3 => by omega, fun c3 => ?_, fun c3 => ?_⟩
          · rw [if_neg (by omega)] at h; exact h
          · rw [if_pos (by omega)] at h
            rw [(k.2.2.1 (what - 100) (by omega) (by omega)).2.2.1]
            exact h
    · rw [if_neg (by omega), if_pos (by omega)] at h
      rw [(k.2.2.1 (what - 60) (by omega) (by omega)).2.1]
      exact h
  · rw [if_pos (by omega)] at h
    rw [(sz (by omega) (by omega)).2]
    exact h
