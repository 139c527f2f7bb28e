/-! the class's Pile: a repair; merges by levels; a run put in; a copy -/
def fr2_ (g : Int → ab_P) (r : Int) (lat : ab_V) (x : Int) : Prop := (g r).2.2.2.2 x ∧ fs_ lat x = true
/-- a repair, from run r down: (how many runs, the ids, the runs) -/
abbrev ab_W : Type := Int × Int × Int × (Int → ab_P)
noncomputable def rp1_ (lat : ab_V) (stamp r : Int) (w : ab_W) : ab_W := (w.1 - (1 - pk_ (fr2_ w.2.2.2 r lat)), w.2.1 + 1, w.2.2.1 + 1, if pk_ (fr2_ w.2.2.2 r lat) = 1 then stP_ r (w.2.1 + 1, w.2.2.1 + 1, (w.2.2.2 r).2.2.1, stamp, fr2_ w.2.2.2 r lat) w.2.2.2 else cuP_ r 1 w.2.2.2)
noncomputable def rpn_ (lat : ab_V) (stamp : Int) : Nat → ab_W → ab_W
  | 0, w => w
  | k + 1, w => rpn_ lat stamp k (rp1_ lat stamp k w)
theorem ct_P_repairRuns {p t : Nat} {n mid : Int} {M : mm_M} {R : Int → mm_M → Prop} {g : Int → ab_P} {lat : ab_V} (hpt : t + 82 ≤ p) (k : pl_ M p n g) (hv : vl_ n g) (hl : cv_ M (t + 4) = lat) (hid : 0 ≤ nn_rf M t 8 ∧ nn_rf M t 8 < 2000000000)
    (h : ∀ M', fr_ (pq_ p t) M M' → nn_rf M' t 8 = (rpn_ lat (nn_rf M t 6) n.toNat (n, nn_rf M t 8, mid, g)).2.1 → pl_ M' p (rpn_ lat (nn_rf M t 6) n.toNat (n, nn_rf M t 8, mid, g)).1 (rpn_ lat (nn_rf M t 6) n.toNat (n, nn_rf M t 8, mid, g)).2.2.2 → R (nn_ri M (p + 2) n - nn_ri M' (p + 2) (rpn_ lat (nn_rf M t 6) n.toNat (n, nn_rf M t 8, mid, g)).1) M') : nr_Pile_repairRuns p t M R := by
  have n0 := k.1.2.1
  have n24 : n ≤ 24 := k.1.2.2
  refine ng_Pile_repairRuns _ _ _ _ ⟨?_, ?_⟩
  · unfold nc_Pile_size
    rw [k.1.1]; omega
  have e0 : nf_Pile_size p M = nn_ri M (p + 2) n := by unfold nf_Pile_size; rw [k.1.1]
  rw [e0, k.1.1, mm_w_id (x := n - 1) (by omega)]
  have tot := pm_le k n0 (Int.le_refl n) (Int.le_refl n)
  have L : ∀ t' : Nat, (t' : Int) ≤ n → ∀ M1 (w : ab_W), fr_ (pq_ p t) M M1 → nn_rf M1 t 8 = w.2.1 → pl_ M1 p w.1 w.2.2.2 → (t' : Int) ≤ w.1 → w.1 ≤ 24 → vl_ w.1 w.2.2.2 → 0 ≤ w.2.1 → w.2.1 + t' < 2000000100 → rpn_ lat (nn_rf M t 6) t' w = rpn_ lat (nn_rf M t 6) n.toNat (n, nn_rf M t 8, mid, g) → nk_Pile_repairRuns_12 p t (nn_ri M (p + 2) n) ((t' : Int) - 1) M1 R := by
    intro t'
    induction t' with
    | zero =>
      intro _ M1 w f1 e1 k1 hw hw24 v1 c0 c1 he
      refine ng_Pile_repairRuns_12 _ _ _ _ _ _ ⟨fun _ => ⟨?_, ?_⟩, fun c => absurd c (by omega)⟩
      · unfold nc_Pile_size
        rw [k1.1.1]; omega
      · have e2 : nf_Pile_size p M1 = nn_ri M1 (p + 2) w.1 := by unfold nf_Pile_size; rw [k1.1.1]
        have hw2 : w = rpn_ lat (nn_rf M t 6) n.toNat (n, nn_rf M t 8, mid, g) := he
        have q := pm_le k1 (show 0 ≤ w.1 by omega) (Int.le_refl _) (Int.le_refl _)
        rw [e2, mm_w_id (by omega), hw2]
        rw [hw2] at e1 k1
        exact h M1 f1 e1 k1
    | succ t' ih =>
      intro ht M1 w f1 e1 k1 hw hw24 v1 c0 c1 he
      have lt : cv_ M1 (t + 4) = lat := by
        rw [cv_fr f1 (fun o b z z2 => by have := z.1; have := z.2; unfold pq_ at z2; omega)]
        exact hl
      have e6 : nn_rf M1 t 6 = nn_rf M t 6 := fr_rf f1 (fun z => by unfold pq_ at z; omega)
      refine ng_Pile_repairRuns_12 _ _ _ _ _ _ ⟨fun c => by omega, fun _ => ?_⟩
      rw [show ((t' + 1 : Nat) : Int) - 1 = (t' : Int) by omega]
      have d1 := k1.2.2.2 t' (by omega) (by omega) (by omega)
      have q := pm_le k1 (show 0 ≤ (t' : Int) by omega) (show (t' : Int) ≤ t' + 1 by omega) (by omega)
      generalize hs : nn_ri M1 (p + 2) t' = s at d1 q
      generalize hee : nn_ri M1 (p + 2) (t' + 1) = e at d1 q
      refine ct_P_keptFresh (by omega) hs hee q.1 q.2.1 (by omega) (fun i i0 i1 => v1 t' (by omega) (by omega) _ ((d1.2 _).mp ⟨i, i0, i1, rfl⟩)) d1.1 (by omega) (fun kk M2 q0 q1 f2 s2 m2 => ?_)
      have k2 := pm_pe (pm_any (f := (t' : Int)) k1) ⟨by omega, by omega⟩ hs hee f2
      have hs2 : nn_ri M2 (p + 2) t' = s := (fr_ri f2 (fun z => by have := z.1; omega)).trans hs
      have he2 : nn_ri M2 (p + 2) (t' + 1) = e := (fr_ri f2 (fun z => by have := z.1; omega)).trans hee
      have hT2 : ∀ j, 0 ≤ j → j ≤ w.1 → 0 ≤ nn_ri M2 (p + 2) j ∧ nn_ri M2 (p + 2) j ≤ 144 := fun j j0 j1 => by
        have := pm_le k2 j0 (Int.le_refl j) j1
        omega
      have h2e := pm_le k2 (show 0 ≤ (t' : Int) + 1 by omega) (show (t' : Int) + 1 ≤ w.1 by omega) (Int.le_refl _)
      refine ct_P_cut k2.1.1 ⟨by omega, by omega⟩ (by omega) rfl (by omega) (by omega) (by omega) h2e.2.1 hT2 (fun M3 f3 t3 E3 => ?_)
      have hU : ∀ x, sg_ (nn_ri M2 (p + 1)) s kk x ↔ fr2_ w.2.2.2 t' lat x := by
        intro x
        rw [m2 x, d1.2 x, lt]
        exact Iff.rfl
      have k3 := pl_cut (x := ((w.2.2.2 t').1, (w.2.2.2 t').2.1, (w.2.2.2 t').2.2.1, (w.2.2.2 t').2.2.2.1, fr2_ w.2.2.2 t' lat)) k2 ⟨by omega, by omega⟩ (by omega) (by omega) rfl rfl rfl ⟨by rw [hs2]; exact s2, by rw [hs2]; exact hU⟩ f3 t3 E3
      have f13 : fr_ (pq_ p t) M1 M3 := fr_trans (fr_mono f2 (fun o b z => Or.inr (by have := z.1; omega))) (fr_mono f3 (fun o b z => Or.inr (by omega)))
      have e83 : nn_rf M3 t 8 = w.2.1 := by
        rw [fr_rf f3 (by omega), fr_rf f2 (fun z => by have := z.1; omega)]; exact e1
      have e63 : nn_rf M3 t 6 = nn_rf M t 6 := (fr_rf f13 (fun z => by unfold pq_ at z; omega)).trans e6
      refine ⟨by omega, ?_⟩
      rw [e63]
      rintro _ rfl
      have e84 : nn_rf (nn_ui M3 (p + 4) t' (nn_rf M t 6)) t 8 = w.2.1 := by rw [rd_fi, if_neg (by omega), e83]
      refine ct_T_newId (by rw [e84]; omega) ⟨by omega, ?_⟩
      rw [e84]
      rintro _ rfl
      have k4 := pl_lab (M' := nn_ui (nn_uf (nn_ui M3 (p + 4) t' (nn_rf M t 6)) t 8 (w.2.1 + 1)) (p + 5) t' (w.2.1 + 1)) (x := (w.2.1 + 1, w.2.2.1 + 1, (w.2.2.2 t').2.2.1, nn_rf M t 6, fr2_ w.2.2.2 t' lat)) k3 ⟨by omega, by omega⟩ (by unfold stP_; rw [if_pos rfl])
        (fr_ui (fr_uf (fr_ui (fr_refl M3) (Or.inr ⟨rfl, Or.inr (Or.inl rfl)⟩)) (Or.inl (Or.inl (by omega)))) (Or.inr ⟨rfl, Or.inr (Or.inr rfl)⟩))
        (by rw [rd_ii, if_pos ⟨rfl, rfl⟩]) (by
          rw [rd_ii, if_neg (by omega), rd_if, if_neg (by omega), rd_ii, if_neg (by omega)]
          have := (k3.2.2.1 t' (by omega) (by omega)).2.1
          rw [this]
          unfold stP_
          rw [if_pos rfl]) (by rw [rd_ii, if_neg (by omega), rd_if, if_neg (by omega), rd_ii, if_pos ⟨rfl, rfl⟩])
      have ss : ∀ y z u, stP_ t' y (stP_ t' z u) = stP_ t' y u := fun y z u => by
        funext r
        unfold stP_
        by_cases q : r = t'
        · rw [if_pos q, if_pos q]
        · rw [if_neg q, if_neg q, if_neg q]
      rw [ss] at k4
      have f4 : fr_ (pq_ p t) M (nn_ui (nn_uf (nn_ui M3 (p + 4) t' (nn_rf M t 6)) t 8 (w.2.1 + 1)) (p + 5) t' (w.2.1 + 1)) := fr_ui (fr_uf (fr_ui (fr_trans f1 f13) (Or.inr (by omega))) (Or.inl ⟨rfl, rfl⟩)) (Or.inr (by omega))
      have e9 : nn_rf (nn_ui (nn_uf (nn_ui M3 (p + 4) t' (nn_rf M t 6)) t 8 (w.2.1 + 1)) (p + 5) t' (w.2.1 + 1)) t 8 = w.2.1 + 1 := by
        rw [rd_fi, if_neg (by omega), rd_ff, if_pos ⟨rfl, rfl⟩]
      have eS : (stP_ t' (w.2.1 + 1, w.2.2.1 + 1, (w.2.2.2 t').2.2.1, nn_rf M t 6, fr2_ w.2.2.2 t' lat) w.2.2.2 t').2.2.2.2 = fr2_ w.2.2.2 t' lat := by
        unfold stP_
        rw [if_pos rfl]
      have er : rpn_ lat (nn_rf M t 6) (t' + 1) w = rpn_ lat (nn_rf M t 6) t' (rp1_ lat (nn_rf M t 6) t' w) := rfl
      rw [er] at he
      rw [mm_w_id (x := (t' : Int) + -1) (by omega), show (t' : Int) + -1 = (t' : Int) - 1 by omega]
      have vsub : ∀ x, fr2_ w.2.2.2 t' lat x → ve_ x := fun x hx => v1 t' (by omega) (by omega) x hx.1
      refine ct_P_dropEmpty k4 ⟨by omega, by omega⟩ (fun hx => ?_) (fun hx M5 f5 k5 => ?_)
      · rw [eS] at hx
        have ew : rp1_ lat (nn_rf M t 6) t' w = (w.1 - (1 - 1), w.2.1 + 1, w.2.2.1 + 1, stP_ t' (w.2.1 + 1, w.2.2.1 + 1, (w.2.2.2 t').2.2.1, nn_rf M t 6, fr2_ w.2.2.2 t' lat) w.2.2.2) := by
          unfold rp1_
          rw [pk_1 hx, if_pos rfl]
        rw [ew] at he
        refine ih (by omega) _ _ f4 e9 (by rw [show w.1 - (1 - 1) = w.1 by omega]; exact k4) (show (t' : Int) ≤ w.1 - (1 - 1) by omega) (show w.1 - (1 - 1) ≤ 24 by omega) ?_ (show 0 ≤ w.2.1 + 1 by omega) (show w.2.1 + 1 + (t' : Int) < 2000000100 by omega) he
        intro r r0 r1 x hx2
        have r1' : r < w.1 - (1 - 1) := r1
        have hx3 : (stP_ t' (w.2.1 + 1, w.2.2.1 + 1, (w.2.2.2 t').2.2.1, nn_rf M t 6, fr2_ w.2.2.2 t' lat) w.2.2.2 r).2.2.2.2 x := hx2
        unfold stP_ at hx3
        by_cases z : r = t'
        · rw [if_pos z] at hx3; exact vsub x hx3
        · rw [if_neg z] at hx3; exact v1 r r0 (by omega) x hx3
      · rw [eS] at hx
        have ec : cuP_ t' 1 (stP_ t' (w.2.1 + 1, w.2.2.1 + 1, (w.2.2.2 t').2.2.1, nn_rf M t 6, fr2_ w.2.2.2 t' lat) w.2.2.2) = cuP_ t' 1 w.2.2.2 := by
          funext r
          unfold cuP_ stP_
          by_cases q : r < t'
          · rw [if_pos q, if_pos q, if_neg (by omega)]
          · rw [if_neg q, if_neg q, if_neg (by omega)]
        rw [ec] at k5
        have ew : rp1_ lat (nn_rf M t 6) t' w = (w.1 - (1 - 0), w.2.1 + 1, w.2.2.1 + 1, cuP_ t' 1 w.2.2.2) := by
          unfold rp1_
          rw [pk_0 hx, if_neg (by decide)]
        rw [ew] at he
        refine ih (by omega) _ _ (fr_trans f4 (fr_mono f5 (fun o b z => Or.inr (by unfold po_ at z; omega)))) ((fr_rf f5 (fun z => by unfold po_ at z; omega)).trans e9) (by rw [show w.1 - (1 - 0) = w.1 - 1 by omega]; exact k5) (show (t' : Int) ≤ w.1 - (1 - 0) by omega) (show w.1 - (1 - 0) ≤ 24 by omega) ?_ (show 0 ≤ w.2.1 + 1 by omega) (show w.2.1 + 1 + (t' : Int) < 2000000100 by omega) he
        intro r r0 r1 x hx2
        have r1' : r < w.1 - (1 - 0) := r1
        have hx3 : (cuP_ t' 1 w.2.2.2 r).2.2.2.2 x := hx2
        unfold cuP_ at hx3
        by_cases z : r < t'
        · rw [if_pos z] at hx3; exact v1 r r0 (by omega) x hx3
        · rw [if_neg z] at hx3; exact v1 (r + 1) (by omega) (by omega) x hx3
  have := L n.toNat (by omega) M (n, nn_rf M t 8, mid, g) (fr_refl M) rfl k (show (n.toNat : Int) ≤ n by omega) n24 hv hid.1 (show nn_rf M t 8 + (n.toNat : Int) < 2000000100 by omega) rfl
  rw [show ((n.toNat : Nat) : Int) - 1 = n - 1 by omega] at this
  exact this
/-- merges by levels of an index: (how many runs, the ids, the runs) -/
def plv_ (g : Int → ab_P) : Int → Int := fun r => (g r).2.2.1
noncomputable def pm1_ (mends stamp : Int) (lat : ab_V) (f m level : Int) (w : ab_W) : ab_W := (w.1 - (m - pk_ (mgS_ w.2.2.2 f m mends lat)), w.2.1 + 1, w.2.2.1 + 1, mpg_ w.2.2.2 f m level mends stamp lat (w.2.1 + 1) (w.2.2.1 + 1))
noncomputable def pml_ (fan mends stamp : Int) (lat : ab_V) : Nat → ab_W → ab_W
  | 0, w => w
  | k + 1, w => if akc_ (plv_ w.2.2.2) w.1 fan = -1 then w else pml_ fan mends stamp lat k (pm1_ mends stamp lat (akc_ (plv_ w.2.2.2) w.1 fan) fan (plv_ w.2.2.2 (akc_ (plv_ w.2.2.2) w.1 fan) + 1) w)
noncomputable def pmz_ (mends stamp : Int) (lat : ab_V) (w : ab_W) : ab_W := if 20 < w.1 then pm1_ mends stamp lat 0 w.1 (hi_ (plv_ w.2.2.2) 0 w.1.toNat + 1) w else w
noncomputable def pmf_ (fan mends stamp : Int) (lat : ab_V) (w : ab_W) : ab_W := pmz_ mends stamp lat (pml_ fan mends stamp lat w.1.toNat w)
theorem pkS_in (S : Int → Prop) : 0 ≤ pk_ S ∧ pk_ S ≤ 1 := by
  by_cases h : ∃ x, S x
  · rw [pk_1 h]; omega
  · rw [pk_0 h]; omega
def lbP_ (w : ab_W) (b : Int) : Prop := ∀ r, 0 ≤ r → r < w.1 → -1 ≤ plv_ w.2.2.2 r ∧ plv_ w.2.2.2 r ≤ b
theorem mpg_all {g : Int → ab_P} {f m level mends stamp cid mid n : Int} {lat : ab_V} (P : ab_P → Prop) (hf : 0 ≤ f) (hm : 1 ≤ m) (hn : f + m ≤ n) (hx : P (mpx_ g f m level mends stamp lat cid mid)) (hg : ∀ r, 0 ≤ r → r < n → P (g r)) : ∀ r, 0 ≤ r → r < n - (m - pk_ (mgS_ g f m mends lat)) → P (mpg_ g f m level mends stamp lat cid mid r) := by
  intro r r0 r1
  unfold mpg_
  by_cases h : ∃ x, mgS_ g f m mends lat x
  · rw [pk_1 h] at r1 ⊢
    rw [if_pos rfl]
    unfold stP_ cuP_
    by_cases z : r = f
    · rw [if_pos z]; exact hx
    · rw [if_neg z]
      by_cases y : r < f + 1
      · rw [if_pos y]; exact hg r r0 (by omega)
      · rw [if_neg y]; exact hg _ (by omega) (by omega)
  · rw [pk_0 h] at r1 ⊢
    rw [if_neg (by decide)]
    unfold cuP_
    by_cases y : r < f
    · rw [if_pos y]; exact hg r r0 (by omega)
    · rw [if_neg y]; exact hg _ (by omega) (by omega)
theorem mgS_ve {g : Int → ab_P} {f m mends n : Int} {lat : ab_V} (hf : 0 ≤ f) (hn : f + m ≤ n) (hv : vl_ n g) (x : Int) (h : mgS_ g f m mends lat x) : ve_ x := by
  obtain ⟨⟨⟨r, r0, r1, r2⟩, _⟩, _⟩ := h
  exact hv r (by omega) (by omega) x r2
theorem ct_P_mergeLevels {p t : Nat} {fan mends b : Int} {M : mm_M} {R : mm_M → Prop} {w : ab_W} {lat : ab_V} (hpt : t + 82 ≤ p) (hk3 : mm_kd (p + 3) = (20, 24)) (hfan : 2 ≤ fan ∧ fan ≤ 4) (k : pl_ M p w.1 w.2.2.2) (hc : nn_rf M t 8 = w.2.1) (hv : vl_ w.1 w.2.2.2) (hl : cv_ M (t + 4) = lat) (hb : lbP_ w b ∧ 0 ≤ b ∧ b < 1000000000) (hc2 : 0 ≤ w.2.1 ∧ w.2.1 < 1000000000)
    (h : ∀ M', fr_ (pq_ p t) M M' → nn_rf M' t 8 = (pmf_ fan mends (nn_rf M t 6) lat w).2.1 → pl_ M' p (pmf_ fan mends (nn_rf M t 6) lat w).1 (pmf_ fan mends (nn_rf M t 6) lat w).2.2.2 → vl_ (pmf_ fan mends (nn_rf M t 6) lat w).1 (pmf_ fan mends (nn_rf M t 6) lat w).2.2.2 → R M') : nr_Pile_mergeLevels p fan mends t M R := by
  obtain ⟨n0, n24⟩ := k.1.2
  have lvl : ∀ {M1 : mm_M} {w1 : ab_W}, pl_ M1 p w1.1 w1.2.2.2 → ∀ i, 0 ≤ i → i < w1.1 → nn_ri M1 (p + 3) i = plv_ w1.2.2.2 i := fun k1 i i0 i1 => (k1.2.2.1 i i0 i1).2.1
  have lt : ∀ {M1 : mm_M}, fr_ (pq_ p t) M M1 → cv_ M1 (t + 4) = lat ∧ nn_rf M1 t 6 = nn_rf M t 6 := fun f1 => ⟨by
    rw [cv_fr f1 (fun o b z z2 => by have := z.1; have := z.2; unfold pq_ at z2; omega)]
    exact hl, fr_rf f1 (fun z => by unfold pq_ at z; omega)⟩
  have step : ∀ {w1 : ab_W} {f m level b1 : Int}, 0 ≤ f → 1 ≤ m → f + m ≤ w1.1 → vl_ w1.1 w1.2.2.2 → lbP_ w1 b1 → -1 ≤ level → level ≤ b1 + 1 → vl_ (pm1_ mends (nn_rf M t 6) lat f m level w1).1 (pm1_ mends (nn_rf M t 6) lat f m level w1).2.2.2 ∧ lbP_ (pm1_ mends (nn_rf M t 6) lat f m level w1) (b1 + 1) := by
    intro w1 f m level b1 hf hm hn v1 l1 hl0 hl1
    refine ⟨mpg_all (P := fun q => ∀ x, q.2.2.2.2 x → ve_ x) hf hm hn (fun x hx => mgS_ve hf hn v1 x hx) v1, ?_⟩
    refine mpg_all (P := fun q => -1 ≤ q.2.2.1 ∧ q.2.2.1 ≤ b1 + 1) hf hm hn ⟨hl0, hl1⟩ (fun r r0 r1 => ?_)
    have := l1 r r0 r1
    unfold plv_ at this
    omega
  have fin : ∀ M1 (w1 : ab_W) (b1 : Int), fr_ (pq_ p t) M M1 → nn_rf M1 t 8 = w1.2.1 → pl_ M1 p w1.1 w1.2.2.2 → vl_ w1.1 w1.2.2.2 → lbP_ w1 b1 → 0 ≤ b1 → b1 < 1000000100 → 0 ≤ w1.2.1 → w1.2.1 < 1000000100 → pmz_ mends (nn_rf M t 6) lat w1 = pmf_ fan mends (nn_rf M t 6) lat w → ((nn_rf M1 p 5 ≤ 20 → R M1) ∧ (20 < nn_rf M1 p 5 → nr_LI_highest (p + 3) 0 (nn_rf M1 p 5) M1 (fun r93 M93 => nr_Pile_mergeRuns p 0 (nn_rf M1 p 5) (mm_w (r93 + 1)) mends t M93 (fun M100 => R M100)))) := by
    intro M1 w1 b1 f1 e1 k1 v1 l1 hb0 hb1 hd0 hd1 he
    obtain ⟨x0, x1, x2⟩ := k1.1
    rw [x0]
    refine ⟨fun c => ?_, fun c => ?_⟩
    · have e : pmz_ mends (nn_rf M t 6) lat w1 = w1 := if_neg (by omega)
      rw [e] at he
      rw [he] at e1 k1 v1
      exact h M1 f1 e1 k1 v1
    · refine ct_highest (by omega) (by omega) (by rw [hk3]; show _ ≤ (24 : Int); omega) (by omega) ?_
      have hh : hi_ (nn_ri M1 (p + 3)) 0 w1.1.toNat = hi_ (plv_ w1.2.2.2) 0 w1.1.toNat := hi_cg (fun i i0 i1 => lvl k1 i i0 (by omega))
      have hl1 := hi_le (lv := plv_ w1.2.2.2) (f := 0) (b := b1) (by omega) (m := w1.1.toNat) (fun i i0 i1 => (l1 i i0 (by omega)).2)
      rw [hh, mm_w_id (x := hi_ (plv_ w1.2.2.2) 0 w1.1.toNat + 1) (by omega)]
      obtain ⟨lt1, lt2⟩ := lt f1
      refine ct_P_mergeRuns (w1.2.2.1 + 1) hpt (by omega) (by omega) (by omega) k1 v1 lt1 (by rw [e1]; omega) (fun M2 f2 g2 k2 => ?_)
      have e : pmz_ mends (nn_rf M t 6) lat w1 = pm1_ mends (nn_rf M t 6) lat 0 w1.1 (hi_ (plv_ w1.2.2.2) 0 w1.1.toNat + 1) w1 := if_pos c
      rw [e] at he
      rw [e1, lt2] at k2
      rw [e1] at g2
      obtain ⟨v2, _⟩ := step (w1 := w1) (f := 0) (m := w1.1) (level := hi_ (plv_ w1.2.2.2) 0 w1.1.toNat + 1) (b1 := b1) (by omega) (by omega) (by omega) v1 l1 (by omega) (by omega)
      refine h M2 (fr_trans f1 f2) ?_ ?_ ?_
      · rw [← he]; exact g2
      · rw [← he]; exact k2
      · rw [← he]; exact v2
  have L : ∀ fuel : Nat, fuel ≤ 24 → ∀ M1 (w1 : ab_W) (b1 : Int), fr_ (pq_ p t) M M1 → nn_rf M1 t 8 = w1.2.1 → pl_ M1 p w1.1 w1.2.2.2 → vl_ w1.1 w1.2.2.2 → lbP_ w1 b1 → 0 ≤ b1 → b1 + fuel < 1000000030 → 0 ≤ w1.2.1 → w1.2.1 + fuel < 1000000030 → pmz_ mends (nn_rf M t 6) lat (pml_ fan mends (nn_rf M t 6) lat fuel w1) = pmf_ fan mends (nn_rf M t 6) lat w → ∀ a, ak_ (nn_ri M1 (p + 3)) w1.1 fan a → nk_Pile_mergeLevels_20 p fan mends t a fuel M1 R := by
    intro fuel
    induction fuel with
    | zero =>
      intro _ M1 w1 b1 f1 e1 k1 v1 l1 hb0 hb1 hd0 hd1 he a ha
      refine ng_Pile_mergeLevels_20 _ _ _ _ _ _ _ _ ⟨fun _ => ?_, fun c => absurd c (by decide)⟩
      exact fin M1 w1 b1 f1 e1 k1 v1 l1 hb0 (by omega) hd0 (by omega) he
    | succ fuel ih =>
      intro hfu M1 w1 b1 f1 e1 k1 v1 l1 hb0 hb1 hd0 hd1 he a ha
      refine ng_Pile_mergeLevels_20 _ _ _ _ _ _ _ _ ⟨fun c => by omega, fun _ => ?_⟩
      obtain ⟨x0, x1, x2⟩ := k1.1
      have ha2 : a = akc_ (plv_ w1.2.2.2) w1.1 fan := ak_one (ak_cg (by omega) (fun i i0 i1 => lvl k1 i i0 i1) ha) (akc_ak (by omega))
      refine ⟨fun c => ?_, fun c => ?_⟩
      · have e : pml_ fan mends (nn_rf M t 6) lat (fuel + 1) w1 = w1 := by
          unfold pml_
          exact if_pos (by rw [← ha2]; exact c)
        rw [e] at he
        exact fin M1 w1 b1 f1 e1 k1 v1 l1 hb0 (by omega) hd0 (by omega) he
      · have hr : 0 ≤ a ∧ a + fan ≤ w1.1 := by
          rcases ha with ⟨z, _⟩ | ⟨z1, z2, _⟩
          · exact absurd z c
          · exact ⟨z1, z2⟩
        have hlv := lvl k1 a hr.1 (by omega)
        have hl1 := l1 a hr.1 (by omega)
        refine ⟨by omega, ?_⟩
        rw [hlv, mm_w_id (x := plv_ w1.2.2.2 a + 1) (by omega), mm_w_id (x := ((fuel + 1 : Nat) : Int) + -1) (by omega)]
        obtain ⟨lt1, lt2⟩ := lt f1
        refine ct_P_mergeRuns (w1.2.2.1 + 1) hpt hr.1 (by omega) hr.2 k1 v1 lt1 (by rw [e1]; omega) (fun M2 f2 g2 k2 => ?_)
        rw [e1, lt2] at k2
        rw [e1] at g2
        have e : pml_ fan mends (nn_rf M t 6) lat (fuel + 1) w1 = pml_ fan mends (nn_rf M t 6) lat fuel (pm1_ mends (nn_rf M t 6) lat a fan (plv_ w1.2.2.2 a + 1) w1) := by
          show (if akc_ (plv_ w1.2.2.2) w1.1 fan = -1 then w1 else pml_ fan mends (nn_rf M t 6) lat fuel (pm1_ mends (nn_rf M t 6) lat (akc_ (plv_ w1.2.2.2) w1.1 fan) fan (plv_ w1.2.2.2 (akc_ (plv_ w1.2.2.2) w1.1 fan) + 1) w1)) = _
          rw [← ha2, if_neg c]
        rw [e] at he
        obtain ⟨v2, l2⟩ := step (w1 := w1) (f := a) (m := fan) (level := plv_ w1.2.2.2 a + 1) (b1 := b1) hr.1 (by omega) hr.2 v1 l1 (by omega) (by omega)
        have k3 : pl_ M2 p (pm1_ mends (nn_rf M t 6) lat a fan (plv_ w1.2.2.2 a + 1) w1).1 (pm1_ mends (nn_rf M t 6) lat a fan (plv_ w1.2.2.2 a + 1) w1).2.2.2 := k2
        obtain ⟨y0, y1, y2⟩ := k3.1
        refine ct_alike ⟨by rw [y0]; exact y1, by rw [hk3, y0]; exact y2⟩ (by rw [y0]; omega) ⟨by omega, by omega⟩ (fun r hr2 => ?_)
        rw [show ((fuel + 1 : Nat) : Int) + -1 = (fuel : Int) by omega]
        rw [y0] at hr2
        exact ih (by omega) M2 (pm1_ mends (nn_rf M t 6) lat a fan (plv_ w1.2.2.2 a + 1) w1) (b1 + 1) (fr_trans f1 f2) g2 k3 v2 l2 (by omega) (by omega) (show 0 ≤ w1.2.1 + 1 by omega) (show w1.2.1 + 1 + (fuel : Int) < 1000000030 by omega) he r hr2
  refine ng_Pile_mergeLevels _ _ _ _ _ _ ?_
  obtain ⟨x0, x1, x2⟩ := k.1
  rw [x0]
  refine ct_alike ⟨x1, by rw [hk3]; exact x2⟩ (by omega) ⟨by omega, by omega⟩ (fun r hr => ?_)
  rw [x0]
  have := L w.1.toNat (by omega) M w b (fr_refl M) hc k hv hb.1 hb.2.1 (by omega) hc2.1 (by omega) rfl r hr
  rw [show ((w.1.toNat : Nat) : Int) = w.1 by omega] at this
  exact this
