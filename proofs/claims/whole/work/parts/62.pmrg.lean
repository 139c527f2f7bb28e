/-! the class's Pile: a merge of runs, a repair, whole -/
def ls_ (a b : Int) : Int := if a = -1 then b else if b = -1 then a else min a b
theorem nf_lesser (a b : Int) : nf_LI_lesser a b = ls_ a b := by
  unfold nf_LI_lesser ls_
  by_cases h : a = -1
  · rw [if_pos h, if_pos h, if_neg (by omega)]
  · rw [if_neg h, if_neg h]
    by_cases h2 : b = -1
    · rw [if_neg (by omega), if_pos (by omega), if_pos h2]
    · rw [if_pos h2, if_neg h2]
      by_cases h3 : b ≤ a
      · rw [if_pos h3]; omega
      · rw [if_neg h3]; omega
def lr_ (rep : Int → Int) (f : Int) : Nat → Int
  | 0 => -1
  | m + 1 => ls_ (lr_ rep f m) (rep (f + m))
theorem lr_cg {rep sep : Int → Int} {f : Int} : ∀ {m : Nat}, (∀ i, f ≤ i → i < f + m → rep i = sep i) → lr_ rep f m = lr_ sep f m
  | 0, _ => rfl
  | m + 1, h => by
    unfold lr_
    rw [lr_cg (m := m) (fun i i0 i1 => h i i0 (by omega)), h (f + m) (by omega) (by omega)]
theorem ct_P_leastRepaired {p : Nat} {f m : Int} {M : mm_M} {R : Int → mm_M → Prop} (hf : 0 ≤ f) (hm : 0 ≤ m) (hfm : f + m ≤ 24) (h : R (lr_ (nn_ri M (p + 4)) f m.toNat) M) : nr_Pile_leastRepaired p f m M R := by
  refine ng_Pile_leastRepaired _ _ _ _ _ ?_
  have L : ∀ i : Int, i ≤ f + m → f ≤ i → nk_Pile_leastRepaired_5 p f m (lr_ (nn_ri M (p + 4)) f (i - f).toNat) i M R := by
    refine lp_up (fun i hi ih h0 => ?_)
    refine ng_Pile_leastRepaired_5 _ _ _ _ _ _ _ ?_
    rw [mm_w_id (x := f + m) (by omega), mm_w_id (x := i + 1) (by omega)]
    refine ⟨fun c => ?_, fun c => ⟨by omega, ?_⟩⟩
    · rw [show (i - f).toNat = m.toNat by omega]; exact h
    · rintro _ rfl
      have := ih c (by omega)
      rw [show (i + 1 - f).toNat = (i - f).toNat + 1 by omega] at this
      have e : lr_ (nn_ri M (p + 4)) f ((i - f).toNat + 1) = nf_LI_lesser (lr_ (nn_ri M (p + 4)) f (i - f).toNat) (nn_ri M (p + 4) i) := by
        show ls_ (lr_ (nn_ri M (p + 4)) f (i - f).toNat) (nn_ri M (p + 4) (f + ((i - f).toNat : Int))) = _
        rw [nf_lesser, show f + ((i - f).toNat : Int) = i by omega]
      rw [e] at this
      exact this
  have := L f (by omega) (Int.le_refl _)
  rw [show (f - f).toNat = 0 by omega] at this
  exact this
/-- runs that lie one behind the other, as one set -/
def un_ (g : Int → ab_P) (f m : Int) (x : Int) : Prop := ∃ r, f ≤ r ∧ r < f + m ∧ (g r).2.2.2.2 x
theorem un_sg {M : mm_M} {p : Nat} {n f : Int} {g : Int → ab_P} (k : pl_ M p n g) (hf : 0 ≤ f) : ∀ t : Nat, f + (t : Int) ≤ n → ∀ x, sg_ (nn_ri M (p + 1)) (nn_ri M (p + 2) f) (nn_ri M (p + 2) (f + t)) x ↔ un_ g f t x := by
  intro t
  induction t with
  | zero =>
    intro _ x
    constructor
    · rintro ⟨i, i0, i1, _⟩
      rw [show f + ((0 : Nat) : Int) = f by omega] at i1
      omega
    · rintro ⟨r, r0, r1, _⟩; omega
  | succ t ih =>
    intro ht x
    have d := k.2.2.2 (f + t) (by omega) (by omega) (by omega)
    have e : f + ((t + 1 : Nat) : Int) = f + (t : Int) + 1 := by omega
    rw [e]
    have q1 := pm_le k hf (show f ≤ f + (t : Int) by omega) (by omega)
    have q2 := pm_le k (show 0 ≤ f + (t : Int) by omega) (show f + (t : Int) ≤ f + (t : Int) + 1 by omega) (by omega)
    constructor
    · rintro ⟨i, i0, i1, i2⟩
      by_cases z : i < nn_ri M (p + 2) (f + t)
      · obtain ⟨r, r0, r1, r2⟩ := (ih (by omega) x).mp ⟨i, i0, z, i2⟩
        exact ⟨r, r0, by omega, r2⟩
      · exact ⟨f + t, by omega, by omega, (d.2 x).mp ⟨i, by omega, i1, i2⟩⟩
    · rintro ⟨r, r0, r1, r2⟩
      by_cases z : r < f + t
      · obtain ⟨i, i0, i1, i2⟩ := (ih (by omega) x).mpr ⟨r, r0, by omega, r2⟩
        exact ⟨i, i0, by omega, i2⟩
      · have : r = f + t := by omega
        subst this
        obtain ⟨i, i0, i1, i2⟩ := (d.2 x).mpr r2
        exact ⟨i, by omega, i1, i2⟩
def mgS_ (g : Int → ab_P) (f m : Int) (mends : Int) (lat : ab_V) (x : Int) : Prop := gr_ (un_ g f m) x ∧ (mends ≠ 0 → fs_ lat x = true)
noncomputable def pk_ (S : Int → Prop) : Int := @ite Int (∃ x, S x) (Classical.propDecidable _) 1 0
theorem pk_1 {S : Int → Prop} (h : ∃ x, S x) : pk_ S = 1 := @if_pos _ (Classical.propDecidable _) h Int 1 0
theorem pk_0 {S : Int → Prop} (h : ¬ ∃ x, S x) : pk_ S = 0 := @if_neg _ (Classical.propDecidable _) h Int 1 0
/-- the runs behind a merge: cid, mid the new one's ids -/
def mpx_ (g : Int → ab_P) (f m level mends stamp : Int) (lat : ab_V) (cid mid : Int) : ab_P := (cid, mid, level, if mends = 0 then lr_ (fun r => (g r).2.2.2.1) f m.toNat else stamp, mgS_ g f m mends lat)
noncomputable def mpg_ (g : Int → ab_P) (f m level mends stamp : Int) (lat : ab_V) (cid mid : Int) : Int → ab_P := if pk_ (mgS_ g f m mends lat) = 1 then stP_ f (mpx_ g f m level mends stamp lat cid mid) (cuP_ (f + 1) (m - 1) g) else cuP_ f m g
def vl_ (n : Int) (g : Int → ab_P) : Prop := ∀ r, 0 ≤ r → r < n → ∀ x, (g r).2.2.2.2 x → ve_ x
def pq_ (p t o b : Nat) : Prop := (o = t ∧ b = 8) ∨ (p ≤ o ∧ o < p + 6)
theorem ct_P_mergeRuns {p t : Nat} {f m level mends n : Int} (mid : Int) {M : mm_M} {R : mm_M → Prop} {g : Int → ab_P} {lat : ab_V} (hpt : t + 82 ≤ p) (hf : 0 ≤ f) (hm : 1 ≤ m) (hn : f + m ≤ n) (k : pl_ M p n g) (hv : vl_ n g) (hl : cv_ M (t + 4) = lat) (hid : -2147483648 ≤ nn_rf M t 8 + 1 ∧ nn_rf M t 8 + 1 < 2147483648)
    (h : ∀ M', fr_ (pq_ p t) M M' → nn_rf M' t 8 = nn_rf M t 8 + 1 → pl_ M' p (n - (m - pk_ (mgS_ g f m mends lat))) (mpg_ g f m level mends (nn_rf M t 6) lat (nn_rf M t 8 + 1) mid) → R M') : nr_Pile_mergeRuns p f m level mends t M R := by
  have n24 : n ≤ 24 := k.1.2.2
  refine ng_Pile_mergeRuns _ _ _ _ _ _ _ _ ?_
  refine ct_P_leastRepaired hf (by omega) (by omega) ?_
  have elr : lr_ (nn_ri M (p + 4)) f m.toNat = lr_ (fun r => (g r).2.2.2.1) f m.toNat := lr_cg (fun i i0 i1 => (k.2.2.1 i (by omega) (by omega)).2.2.1)
  rw [elr, mm_w_id (x := f + 1) (by omega), mm_w_id (x := m - 1) (by omega)]
  refine ct_P_takeOut k.1.1 (by omega) (by omega) (by omega) n24 (fun M1 f1 e1 g1 g2 => ?_)
  have c1 : ∀ j, 0 ≤ j → j ≤ f → nn_ri M1 (p + 2) j = nn_ri M (p + 2) j := fun j j0 j1 => by
    rw [g1 j j0 (by omega)]; unfold cuI_; rw [if_pos (by omega)]
  have c2 : ∀ j, f + 1 ≤ j → j ≤ n - (m - 1) → nn_ri M1 (p + 2) j = nn_ri M (p + 2) (j + (m - 1)) := fun j j0 j1 => by
    rw [g1 j (by omega) j1]; unfold cuI_; rw [if_neg (by omega)]
  have eE1 : ∀ i, nn_ri M1 (p + 1) i = nn_ri M (p + 1) i := fun i => fr_ri f1 (fun z => by unfold po_ at z; omega)
  -- the runs, but for what run f has
  have k1 : pm_ M1 p (n - (m - 1)) (cuP_ (f + 1) (m - 1) g) f := by
    refine ⟨⟨e1, by omega, by omega⟩, ⟨by rw [c1 0 (by omega) hf]; exact k.2.1.1, by rw [c2 _ (by omega) (Int.le_refl _), show n - (m - 1) + (m - 1) = n by omega]; exact k.2.1.2⟩, fun r r0 r1 => ?_, fun r r0 r1 hr => ?_⟩
    · obtain ⟨y1, y2, y3⟩ := g2 r r0 r1
      unfold cuI_ at y1 y2 y3
      unfold cuP_
      by_cases z : r < f + 1
      · rw [if_pos z] at y1 y2 y3 ⊢
        obtain ⟨x1, x2, x3, x4⟩ := k.2.2.1 r r0 (by omega)
        refine ⟨y3.trans x1, y1.trans x2, y2.trans x3, ?_⟩
        rw [c1 r r0 (by omega)]
        by_cases y : r < f
        · rw [c1 (r + 1) (by omega) (by omega)]; exact x4
        · rw [c2 (r + 1) (by omega) (by omega)]
          exact (pm_le k r0 (show r ≤ r + 1 + (m - 1) by omega) (by omega)).2.1
      · rw [if_neg z] at y1 y2 y3 ⊢
        obtain ⟨x1, x2, x3, x4⟩ := k.2.2.1 (r + (m - 1)) (by omega) (by omega)
        refine ⟨y3.trans x1, y1.trans x2, y2.trans x3, ?_⟩
        rw [c2 r (by omega) (by omega), c2 (r + 1) (by omega) (by omega), show r + 1 + (m - 1) = r + (m - 1) + 1 by omega]
        exact x4
    · unfold cuP_
      by_cases z : r < f + 1
      · rw [if_pos z, c1 r r0 (by omega), c1 (r + 1) (by omega) (by omega)]
        exact rs_cg (fun i _ _ => eE1 i) (k.2.2.2 r r0 (by omega) (by omega))
      · rw [if_neg z, c2 r (by omega) (by omega), c2 (r + 1) (by omega) (by omega), show r + 1 + (m - 1) = r + (m - 1) + 1 by omega]
        exact rs_cg (fun i _ _ => eE1 i) (k.2.2.2 (r + (m - 1)) (by omega) (by omega) (by omega))
  have hU : ∀ x, sg_ (nn_ri M1 (p + 1)) (nn_ri M1 (p + 2) f) (nn_ri M1 (p + 2) (f + 1)) x ↔ un_ g f m x := by
    intro x
    rw [c1 f hf (Int.le_refl _), c2 (f + 1) (Int.le_refl _) (by omega)]
    have := un_sg k hf m.toNat (by omega) x
    rw [show f + (m.toNat : Int) = f + m by omega, show (m.toNat : Int) = m by omega] at this
    rw [show f + 1 + (m - 1) = f + m by omega]
    exact (sg_cg (fun i _ _ => eE1 i) x).trans this
  have hUv : ∀ x, un_ g f m x → ve_ x := fun x ⟨r, r0, r1, r2⟩ => hv r (by omega) (by omega) x r2
  have fM1 : fr_ (pq_ p t) M M1 := fr_mono f1 (fun o b z => Or.inr (by unfold po_ at z; omega))
  have hq := pm_le k1 hf (show f ≤ f + 1 by omega) (by omega)
  generalize hs : nn_ri M1 (p + 2) f = s at hU hq
  generalize he : nn_ri M1 (p + 2) (f + 1) = e at hU hq
  refine ct_P_sort (by omega) hs he hq.1 hq.2.1 (by omega) (fun M2 f2 s2 m2 => ?_)
  have k2 := pm_pe k1 (by omega) hs he f2
  have hs2 : nn_ri M2 (p + 2) f = s := (fr_ri f2 (fun z => by have := z.1; omega)).trans hs
  have he2 : nn_ri M2 (p + 2) (f + 1) = e := (fr_ri f2 (fun z => by have := z.1; omega)).trans he
  have hU2 : ∀ x, sg_ (nn_ri M2 (p + 1)) s e x ↔ un_ g f m x := fun x => (m2 x).trans (hU x)
  refine ct_P_keptGreatest (by omega) hs2 he2 hq.1 hq.2.1 (by omega) (fun i i0 i1 => hUv _ ((hU2 _).mp ⟨i, i0, i1, rfl⟩)) s2 (fun kk M3 q0 q1 f3 s3 m3 => ?_)
  have k3 := pm_pe k2 (by omega) hs2 he2 f3
  have hs3 : nn_ri M3 (p + 2) f = s := (fr_ri f3 (fun z => by have := z.1; omega)).trans hs2
  have he3 : nn_ri M3 (p + 2) (f + 1) = e := (fr_ri f3 (fun z => by have := z.1; omega)).trans he2
  have hU3 : ∀ x, sg_ (nn_ri M3 (p + 1)) s kk x ↔ gr_ (un_ g f m) x := by
    intro x
    rw [m3 x]
    unfold gr_
    rw [hU2 x]
    constructor
    · rintro ⟨a, b⟩; exact ⟨a, fun y hy => b y ((hU2 y).mpr hy)⟩
    · rintro ⟨a, b⟩; exact ⟨a, fun y hy => b y ((hU2 y).mp hy)⟩
  have hT3 : ∀ j, 0 ≤ j → j ≤ n - (m - 1) → 0 ≤ nn_ri M3 (p + 2) j ∧ nn_ri M3 (p + 2) j ≤ 144 := fun j j0 j1 => by
    have := pm_le k3 j0 (Int.le_refl j) j1
    omega
  have h3e := pm_le k3 (show 0 ≤ f + 1 by omega) (show f + 1 ≤ n - (m - 1) by omega) (Int.le_refl _)
  refine ct_P_cut k3.1.1 ⟨hf, by omega⟩ (by omega) rfl (by omega) (by omega) (by omega) h3e.2.1 hT3 (fun M4 f4 t4 E4 => ?_)
  have k4 := pl_cut (x := ((cuP_ (f + 1) (m - 1) g f).1, (cuP_ (f + 1) (m - 1) g f).2.1, (cuP_ (f + 1) (m - 1) g f).2.2.1, (cuP_ (f + 1) (m - 1) g f).2.2.2.1, gr_ (un_ g f m))) k3 ⟨hf, by omega⟩ (by omega) (by omega) rfl rfl rfl ⟨by rw [hs3]; exact s3, by rw [hs3]; exact hU3⟩ f4 t4 E4
  have fM4 : fr_ (pq_ p t) M M4 := fr_trans fM1 (fr_trans (fr_mono f2 (fun o b z => Or.inr (by have := z.1; omega))) (fr_trans (fr_mono f3 (fun o b z => Or.inr (by have := z.1; omega))) (fr_mono f4 (fun o b z => Or.inr (by omega)))))
  have wP : ∀ o b, (o < t + 82 ∧ ¬ (o = t ∧ b = 8)) → ¬ pq_ p t o b := fun o b z z2 => by
    unfold pq_ at z2; omega
  -- what follows: labels, an id, an empty run
  have fin : ∀ M5, fr_ (pq_ p t) M M5 → (nn_rf M5 t 8 = nn_rf M t 8) → pl_ M5 p (n - (m - 1)) (stP_ f ((cuP_ (f + 1) (m - 1) g f).1, (cuP_ (f + 1) (m - 1) g f).2.1, (cuP_ (f + 1) (m - 1) g f).2.2.1, (cuP_ (f + 1) (m - 1) g f).2.2.2.1, mgS_ g f m mends lat) (cuP_ (f + 1) (m - 1) g)) → ∀ rep : Int, rep = (if mends = 0 then lr_ (fun r => (g r).2.2.2.1) f m.toNat else nn_rf M t 6) →
      nr_Table_newId t (nn_ui (nn_ui M5 (p + 3) f level) (p + 4) f rep) (fun r88 M88 => (0 ≤ f ∧ f < 24) ∧ ∀ M91, M91 = nn_ui M88 (p + 5) f r88 → nr_Pile_dropEmpty p f M91 (fun M94 => R M94)) := by
    intro M5 f5 e8 k5 rep hrep
    have e8' : nn_rf (nn_ui (nn_ui M5 (p + 3) f level) (p + 4) f rep) t 8 = nn_rf M t 8 := by
      rw [rd_fi, if_neg (by omega), rd_fi, if_neg (by omega), e8]
    refine ct_T_newId (by rw [e8']; exact hid) ⟨by omega, ?_⟩
    rw [e8']
    rintro _ rfl
    have k6 := pl_lab (M' := nn_ui (nn_uf (nn_ui (nn_ui M5 (p + 3) f level) (p + 4) f rep) t 8 (nn_rf M t 8 + 1)) (p + 5) f (nn_rf M t 8 + 1)) (x := mpx_ g f m level mends (nn_rf M t 6) lat (nn_rf M t 8 + 1) mid) k5 ⟨hf, by omega⟩ (by unfold stP_; rw [if_pos rfl]; rfl)
      (fr_ui (fr_uf (fr_ui (fr_ui (fr_refl M5) (Or.inr ⟨rfl, Or.inl rfl⟩)) (Or.inr ⟨rfl, Or.inr (Or.inl rfl)⟩)) (Or.inl (Or.inl (by omega)))) (Or.inr ⟨rfl, Or.inr (Or.inr rfl)⟩))
      (by rw [rd_ii, if_pos ⟨rfl, rfl⟩]; rfl) (by rw [rd_ii, if_neg (by omega), rd_if, if_neg (by omega), rd_ii, if_neg (by omega), rd_ii, if_pos ⟨rfl, rfl⟩]; rfl) (by rw [rd_ii, if_neg (by omega), rd_if, if_neg (by omega), rd_ii, if_pos ⟨rfl, rfl⟩]; exact hrep)
    have f6 : fr_ (pq_ p t) M (nn_ui (nn_uf (nn_ui (nn_ui M5 (p + 3) f level) (p + 4) f rep) t 8 (nn_rf M t 8 + 1)) (p + 5) f (nn_rf M t 8 + 1)) := fr_ui (fr_uf (fr_ui (fr_ui f5 (Or.inr (by omega))) (Or.inr (by omega))) (Or.inl ⟨rfl, rfl⟩)) (Or.inr (by omega))
    have e9 : nn_rf (nn_ui (nn_uf (nn_ui (nn_ui M5 (p + 3) f level) (p + 4) f rep) t 8 (nn_rf M t 8 + 1)) (p + 5) f (nn_rf M t 8 + 1)) t 8 = nn_rf M t 8 + 1 := by
      rw [rd_fi, if_neg (by omega), rd_ff, if_pos ⟨rfl, rfl⟩]
    have ss : ∀ y z w, stP_ f y (stP_ f z w) = stP_ f y w := fun y z w => by
      funext r
      unfold stP_
      by_cases q : r = f
      · rw [if_pos q, if_pos q]
      · rw [if_neg q, if_neg q, if_neg q]
    rw [ss] at k6
    have eS : (stP_ f (mpx_ g f m level mends (nn_rf M t 6) lat (nn_rf M t 8 + 1) mid) (cuP_ (f + 1) (m - 1) g) f).2.2.2.2 = mgS_ g f m mends lat := by
      unfold stP_
      rw [if_pos rfl]
      rfl
    refine ct_P_dropEmpty k6 ⟨hf, by omega⟩ (fun hx => ?_) (fun hx M7 f7 k7 => ?_)
    · rw [eS] at hx
      refine h _ f6 e9 ?_
      unfold mpg_
      rw [pk_1 hx, if_pos rfl]
      exact k6
    · rw [eS] at hx
      refine h M7 (fr_trans f6 (fr_mono f7 (fun o b z => Or.inr (by unfold po_ at z; omega)))) ((fr_rf f7 (fun z => by unfold po_ at z; omega)).trans e9) ?_
      unfold mpg_
      rw [pk_0 hx, if_neg (by decide), show n - (m - 0) = n - (m - 1) - 1 by omega]
      have e : cuP_ f 1 (stP_ f (mpx_ g f m level mends (nn_rf M t 6) lat (nn_rf M t 8 + 1) mid) (cuP_ (f + 1) (m - 1) g)) = cuP_ f m g := by
        funext r
        unfold cuP_ stP_
        by_cases q : r < f
        · rw [if_pos q, if_pos q, if_neg (by omega)]
          dsimp only
          rw [if_pos (by omega)]
        · rw [if_neg q, if_neg q, if_neg (by omega)]
          dsimp only
          rw [if_neg (by omega), show r + 1 + (m - 1) = r + m by omega]
      rw [e] at k7
      exact k7
  have e48 : nn_rf M4 t 8 = nn_rf M t 8 := by
    rw [fr_rf f4 (by omega), fr_rf f3 (fun z => by have := z.1; omega), fr_rf f2 (fun z => by have := z.1; omega), fr_rf f1 (fun z => by unfold po_ at z; omega)]
  refine ⟨fun c => ⟨by omega, ?_⟩, fun c => ?_⟩
  · rintro _ rfl
    refine ⟨fun _ => ⟨by omega, ?_⟩, fun c2 => absurd c c2⟩
    rintro _ rfl
    refine fin M4 fM4 e48 ?_ _ (by rw [if_pos c])
    have : mgS_ g f m mends lat = gr_ (un_ g f m) := by
      funext x
      unfold mgS_
      exact propext ⟨fun z => z.1, fun z => ⟨z, fun c2 => absurd c c2⟩⟩
    rw [this]
    exact k4
  · have hl4 : cv_ M4 (t + 4) = lat := by
      rw [cv_fr fM4 (fun o b z => wP o b ⟨by have := z.2; omega, fun z2 => by have := z.1; omega⟩)]
      exact hl
    have d4 := k4.2.2.2 f hf (by omega) (by omega)
    have b4 := (k4.2.2.1 f hf (by omega)).2.2.2
    have eS4 : (stP_ f ((cuP_ (f + 1) (m - 1) g f).1, (cuP_ (f + 1) (m - 1) g f).2.1, (cuP_ (f + 1) (m - 1) g f).2.2.1, (cuP_ (f + 1) (m - 1) g f).2.2.2.1, gr_ (un_ g f m)) (cuP_ (f + 1) (m - 1) g) f).2.2.2.2 = gr_ (un_ g f m) := by
      unfold stP_
      rw [if_pos rfl]
    rw [eS4] at d4
    have q4 := pm_le k4 hf (show f ≤ f + 1 by omega) (by omega)
    generalize hs4 : nn_ri M4 (p + 2) f = s' at d4 q4
    generalize he4 : nn_ri M4 (p + 2) (f + 1) = e' at d4 q4
    refine ct_P_keptFresh (by omega) hs4 he4 q4.1 q4.2.1 (by omega) (fun i i0 i1 => hUv _ ((d4.2 _).mp ⟨i, i0, i1, rfl⟩).1) d4.1 (by omega) (fun kk5 M5 q0 q1 f5 s5 m5 => ?_)
    have k5 := pm_pe (pm_any (f := f) k4) ⟨hf, by omega⟩ hs4 he4 f5
    have hs5 : nn_ri M5 (p + 2) f = s' := (fr_ri f5 (fun z => by have := z.1; omega)).trans hs4
    have he5 : nn_ri M5 (p + 2) (f + 1) = e' := (fr_ri f5 (fun z => by have := z.1; omega)).trans he4
    have hT5 : ∀ j, 0 ≤ j → j ≤ n - (m - 1) → 0 ≤ nn_ri M5 (p + 2) j ∧ nn_ri M5 (p + 2) j ≤ 144 := fun j j0 j1 => by
      have := pm_le k5 j0 (Int.le_refl j) j1
      omega
    have h5e := pm_le k5 (show 0 ≤ f + 1 by omega) (show f + 1 ≤ n - (m - 1) by omega) (Int.le_refl _)
    refine ct_P_cut k5.1.1 ⟨hf, by omega⟩ (by omega) rfl (by omega) (by omega) (by omega) h5e.2.1 hT5 (fun M6 f6 t6 E6 => ?_)
    have hU5 : ∀ x, sg_ (nn_ri M5 (p + 1)) s' kk5 x ↔ mgS_ g f m mends lat x := by
      intro x
      rw [m5 x, d4.2 x, hl4]
      exact ⟨fun z => ⟨z.1, fun _ => z.2⟩, fun z => ⟨z.1, z.2 c⟩⟩
    have k6 := pl_cut (x := ((cuP_ (f + 1) (m - 1) g f).1, (cuP_ (f + 1) (m - 1) g f).2.1, (cuP_ (f + 1) (m - 1) g f).2.2.1, (cuP_ (f + 1) (m - 1) g f).2.2.2.1, mgS_ g f m mends lat)) k5 ⟨hf, by omega⟩ (by omega) (by omega) (by unfold stP_; rw [if_pos rfl]) (by unfold stP_; rw [if_pos rfl]) (by unfold stP_; rw [if_pos rfl]) ⟨by rw [hs5]; exact s5, by rw [hs5]; exact hU5⟩ f6 t6 E6
    have ss : ∀ y z w, stP_ f y (stP_ f z w) = stP_ f y w := fun y z w => by
      funext r
      unfold stP_
      by_cases q : r = f
      · rw [if_pos q, if_pos q]
      · rw [if_neg q, if_neg q, if_neg q]
    rw [ss] at k6
    have fM6 : fr_ (pq_ p t) M M6 := fr_trans fM4 (fr_trans (fr_mono f5 (fun o b z => Or.inr (by have := z.1; omega))) (fr_mono f6 (fun o b z => Or.inr (by omega))))
    have e68 : nn_rf M6 t 8 = nn_rf M t 8 := by
      rw [fr_rf f6 (by omega), fr_rf f5 (fun z => by have := z.1; omega), e48]
    refine ⟨by omega, ?_⟩
    rintro _ rfl
    refine ⟨fun c2 => absurd c2 c, fun _ => ⟨by omega, ?_⟩⟩
    rintro _ rfl
    have e6 : nn_rf (nn_ui M6 (p + 3) f level) t 6 = nn_rf M t 6 := by
      rw [rd_fi, if_neg (by omega)]
      exact fr_rf fM6 (wP _ _ ⟨by omega, by omega⟩)
    rw [e6]
    exact fin M6 fM6 e68 k6 _ (by rw [if_neg c])
