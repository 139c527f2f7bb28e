/-! the class's Table: MEMORY, LATEST, RUNS as a row of (id, the Model's id, level, from, to, versions) -/
abbrev ab_V : Type := Nat → Option (Int × Int)
abbrev ab_R : Type := Int × Int × Int × Int × Int × ab_V
theorem cv_out {M : mm_M} {v k : Nat} (h : 32 ≤ k) : cv_ M v k = none := by
  unfold cv_ bt_
  rw [BitVec.getLsbD_of_ge _ _ h]
  rfl
theorem cv_ext {M M' : mm_M} {v w : Nat} (h : ∀ j, j < 32 → cv_ M' v j = cv_ M w j) : cv_ M' v = cv_ M w := by
  funext j
  by_cases q : j < 32
  · exact h j q
  · rw [cv_out (by omega), cv_out (by omega)]
def ru_ (M : mm_M) (t : Nat) (i : Int) (q : ab_R) : Prop := nn_ri M (t + 9) i = q.1 ∧ nn_ri M (t + 8) i = q.2.2.1 ∧ nn_rf M (nn_rr M (t + 7) i) 3 = q.2.2.2.1 ∧ nn_rf M (nn_rr M (t + 7) i) 4 = q.2.2.2.2.1 ∧ cv_ M (nn_rr M (t + 7) i) = q.2.2.2.2.2 ∧ kr_ M (nn_rr M (t + 7) i)
def sl_ (M : mm_M) (t : Nat) : Prop := (∀ i, 0 ≤ i → i < 24 → ∃ j : Nat, j < 24 ∧ nn_rr M (t + 7) i = t + 10 + 3 * j) ∧ ∀ i j, 0 ≤ i → i < 24 → 0 ≤ j → j < 24 → nn_rr M (t + 7) i = nn_rr M (t + 7) j → i = j
def tb_ (M : mm_M) (t : Nat) (mem lat : ab_V) (n : Int) (q : Int → ab_R) : Prop := (cv_ M (t + 1) = mem ∧ kr_ M (t + 1)) ∧ (cv_ M (t + 4) = lat ∧ kr_ M (t + 4)) ∧ (nn_rf M t 5 = n ∧ 0 ≤ n ∧ n ≤ 24) ∧ sl_ M t ∧ ∀ i, 0 ≤ i → i < n → ru_ M t i (q i)
def tr_ (t o _b : Nat) : Prop := t ≤ o ∧ o < t + 82
theorem sl_fr {P : Nat → Nat → Prop} {M M' : mm_M} (h : fr_ P M M') {t : Nat} (hv : ∀ b, ¬ P (t + 7) b) (k : sl_ M t) : sl_ M' t := by
  have e : ∀ i, nn_rr M' (t + 7) i = nn_rr M (t + 7) i := fun i => fr_rr h (hv _)
  unfold sl_
  simp only [e]
  exact k
theorem ru_fr {P : Nat → Nat → Prop} {M M' : mm_M} (h : fr_ P M M') {t : Nat} {i : Int} {q : ab_R} (h7 : ¬ P (t + 7) i.toNat) (h8 : ¬ P (t + 8) i.toNat) (h9 : ¬ P (t + 9) i.toNat) (hs : ∀ o b, vr_ (nn_rr M (t + 7) i) o b → ¬ P o b) (k : ru_ M t i q) : ru_ M' t i q := by
  have e : nn_rr M' (t + 7) i = nn_rr M (t + 7) i := fr_rr h h7
  obtain ⟨k1, k2, k3, k4, k5, k6⟩ := k
  refine ⟨(fr_ri h h9).trans k1, (fr_ri h h8).trans k2, ?_, ?_, ?_, ?_⟩
  · rw [e, fr_rf h (hs _ 3 ⟨Nat.le_refl _, by omega⟩)]; exact k3
  · rw [e, fr_rf h (hs _ 4 ⟨Nat.le_refl _, by omega⟩)]; exact k4
  · rw [e, cv_fr h hs]; exact k5
  · rw [e]; exact kr_fr h hs k6
theorem sl_in {M : mm_M} {t : Nat} (k : sl_ M t) {i : Int} (h0 : 0 ≤ i) (h1 : i < 24) : t + 10 ≤ nn_rr M (t + 7) i ∧ nn_rr M (t + 7) i + 3 ≤ t + 82 := by
  obtain ⟨j, hj, e⟩ := k.1 i h0 h1
  omega
theorem sl_ne {M : mm_M} {t : Nat} (k : sl_ M t) {i j : Int} (h0 : 0 ≤ i) (h1 : i < 24) (g0 : 0 ≤ j) (g1 : j < 24) (hne : i ≠ j) : nn_rr M (t + 7) i + 3 ≤ nn_rr M (t + 7) j ∨ nn_rr M (t + 7) j + 3 ≤ nn_rr M (t + 7) i := by
  obtain ⟨a, ha, ea⟩ := k.1 i h0 h1
  obtain ⟨b, hb, eb⟩ := k.1 j g0 g1
  have : a ≠ b := fun z => hne (k.2 i j h0 h1 g0 g1 (by rw [ea, eb, z]))
  omega
theorem tb_fr {P : Nat → Nat → Prop} {M M' : mm_M} (h : fr_ P M M') {t : Nat} {mem lat : ab_V} {n : Int} {q : Int → ab_R} (hv : ∀ o b, tr_ t o b → (o = t → b = 5) → ¬ P o b) (k : tb_ M t mem lat n q) : tb_ M' t mem lat n q := by
  obtain ⟨⟨a1, a2⟩, ⟨b1, b2⟩, ⟨c1, c2, c3⟩, s, r⟩ := k
  have hh : ∀ v, t < v → v + 3 ≤ t + 82 → ∀ o b, vr_ v o b → ¬ P o b := fun v h1 h2 o b z => hv o b ⟨by have := z.1; omega, by have := z.2; omega⟩ (fun e => by have := z.1; omega)
  refine ⟨⟨(cv_fr h (hh _ (by omega) (by omega))).trans a1, kr_fr h (hh _ (by omega) (by omega)) a2⟩, ⟨(cv_fr h (hh _ (by omega) (by omega))).trans b1, kr_fr h (hh _ (by omega) (by omega)) b2⟩, ⟨(fr_rf h (hv t 5 ⟨by omega, by omega⟩ (fun _ => rfl))).trans c1, c2, c3⟩, sl_fr h (fun b => hv _ b ⟨by omega, by omega⟩ (fun e => by omega)) s, fun i h0 h1 => ?_⟩
  have hs := sl_in s h0 (by omega)
  exact ru_fr h (hv _ _ ⟨by omega, by omega⟩ (fun e => by omega)) (hv _ _ ⟨by omega, by omega⟩ (fun e => by omega)) (hv _ _ ⟨by omega, by omega⟩ (fun e => by omega)) (hh _ (by omega) (by omega)) (r i h0 h1)
theorem ct_T_newId {t : Nat} {M : mm_M} {R : Int → mm_M → Prop} (hr : -2147483648 ≤ nn_rf M t 8 + 1 ∧ nn_rf M t 8 + 1 < 2147483648) (h : R (nn_rf M t 8 + 1) (nn_uf M t 8 (nn_rf M t 8 + 1))) : nr_Table_newId t M R := by
  refine ng_Table_newId _ _ _ ?_
  rintro _ rfl
  rw [mm_w_id hr, rd_ff, if_pos ⟨rfl, rfl⟩]
  exact h
theorem rr_ii (M : mm_M) (o : Nat) (i : Int) (x : Nat) (o' : Nat) (j : Int) : nn_rr (nn_ui M o i (x : Int)) o' j = if o' = o ∧ j.toNat = i.toNat then x else nn_rr M o' j := by
  unfold nn_rr nn_ui mm_up
  by_cases h : o' = o ∧ j.toNat = i.toNat
  · simp only [h, and_self, if_true]; rfl
  · simp only [h, if_false]
theorem rr_ii0 {M : mm_M} {o : Nat} {i x : Int} {o' : Nat} {j : Int} (h : o' ≠ o) : nn_rr (nn_ui M o i x) o' j = nn_rr M o' j := by
  unfold nn_rr nn_ui mm_up
  simp only [h, false_and, if_false]
theorem rr_uf0 {M : mm_M} {o b : Nat} {x : Int} {o' : Nat} {j : Int} (h : o' ≠ o) : nn_rr (nn_uf M o b x) o' j = nn_rr M o' j := by
  unfold nn_rr nn_uf mm_up
  simp only [h, false_and, if_false]
/-- runs go: the rows move up, the objects change places -/
def tk_ (t o b : Nat) : Prop := (o = t ∧ b = 5) ∨ o = t + 7 ∨ o = t + 8 ∨ o = t + 9
def cu_ (f m : Int) (q : Int → ab_R) : Int → ab_R := fun i => if i < f then q i else q (i + m)
theorem ct_T_takeOut {t : Nat} {f m n : Int} {M : mm_M} {R : mm_M → Prop} {mem lat : ab_V} {q : Int → ab_R} (k : tb_ M t mem lat n q) (hf : 0 ≤ f) (hm : 0 ≤ m) (hn : f + m ≤ n)
    (h : ∀ M', fr_ (tk_ t) M M' → tb_ M' t mem lat (n - m) (cu_ f m q) → R M') : nr_Table_takeOut t f m M R := by
  obtain ⟨⟨a1, a2⟩, ⟨b1, b2⟩, ⟨c1, c2, c3⟩, s, r⟩ := k
  refine ng_Table_takeOut _ _ _ _ _ ?_
  have L : ∀ i : Int, i ≤ n - m → f ≤ i → ∀ M1, fr_ (tk_ t) M M1 → nn_rf M1 t 5 = n → sl_ M1 t → (∀ j, 0 ≤ j → j < n - m → (nn_rr M1 (t + 7) j = if j < f then nn_rr M (t + 7) j else if j < i then nn_rr M (t + 7) (j + m) else nn_rr M1 (t + 7) j)) → (∀ j, i + m ≤ j → j < 24 → nn_rr M1 (t + 7) j = nn_rr M (t + 7) j) → (∀ j, 0 ≤ j → j < 24 → nn_ri M1 (t + 8) j = if f ≤ j ∧ j < i then nn_ri M (t + 8) (j + m) else nn_ri M (t + 8) j) → (∀ j, 0 ≤ j → j < 24 → nn_ri M1 (t + 9) j = if f ≤ j ∧ j < i then nn_ri M (t + 9) (j + m) else nn_ri M (t + 9) j) → nk_Table_takeOut_2 t m i M1 R := by
    refine lp_up (fun i hi ih h0 M1 f1 e1 s1 g1 g2 g3 g4 => ?_)
    have wn : mm_w (nn_rf M1 t 5 - m) = n - m := by rw [e1]; exact mm_w_id (by omega)
    have wm : mm_w (i + m) = i + m := mm_w_id (by omega)
    have wi : mm_w (i + 1) = i + 1 := mm_w_id (by omega)
    refine ng_Table_takeOut_2 _ _ _ _ _ ?_
    rw [wn, wm, wi]
    refine ⟨fun c => ?_, fun c => ?_⟩
    · rintro _ rfl
      have hi' : i = n - m := by omega
      have f2 : fr_ (fun o b => o = t ∧ b = 5) M1 (nn_uf M1 t 5 (n - m)) := fr_uf (fr_refl M1) ⟨rfl, rfl⟩
      have hv : ∀ v, t < v → v + 3 ≤ t + 82 → (v + 3 ≤ t + 7 ∨ t + 10 ≤ v) → ∀ o b, vr_ v o b → ¬ tk_ t o b := by
        intro v h1 h2 h3 o b z z2
        obtain ⟨z0, z1⟩ := z
        rcases z2 with z2 | z2 | z2 | z2 <;> omega
      have hu : fr_ (tk_ t) M (nn_uf M1 t 5 (n - m)) := fr_uf f1 (Or.inl ⟨rfl, rfl⟩)
      refine h _ hu ⟨⟨(cv_fr hu (hv _ (by omega) (by omega) (by omega))).trans a1, kr_fr hu (hv _ (by omega) (by omega) (by omega)) a2⟩, ⟨(cv_fr hu (hv _ (by omega) (by omega) (by omega))).trans b1, kr_fr hu (hv _ (by omega) (by omega) (by omega)) b2⟩, ⟨by rw [rd_ff, if_pos ⟨rfl, rfl⟩], by omega, by omega⟩, sl_fr f2 (fun b z => by omega) s1, fun j j0 j1 => ?_⟩
      have key : ∀ j', 0 ≤ j' → j' < n → nn_rr M1 (t + 7) j = nn_rr M (t + 7) j' → nn_ri M1 (t + 8) j = nn_ri M (t + 8) j' → nn_ri M1 (t + 9) j = nn_ri M (t + 9) j' → ru_ (nn_uf M1 t 5 (n - m)) t j (q j') := by
        intro j' p0 p1 p2 p3 p4
        obtain ⟨k1, k2, k3, k4, k5, k6⟩ := r j' p0 p1
        have hs := sl_in s p0 (by omega)
        have er : nn_rr (nn_uf M1 t 5 (n - m)) (t + 7) j = nn_rr M (t + 7) j' := by rw [rr_uf0 (by omega), p2]
        have hvs := hv (nn_rr M (t + 7) j') (by omega) (by omega) (by omega)
        refine ⟨?_, ?_, ?_, ?_, ?_, ?_⟩
        · rw [rd_if, if_neg (by omega), p4]; exact k1
        · rw [rd_if, if_neg (by omega), p3]; exact k2
        · rw [er, fr_rf hu (hvs _ 3 ⟨Nat.le_refl _, by omega⟩)]; exact k3
        · rw [er, fr_rf hu (hvs _ 4 ⟨Nat.le_refl _, by omega⟩)]; exact k4
        · rw [er, cv_fr hu hvs]; exact k5
        · rw [er]; exact kr_fr hu hvs k6
      unfold cu_
      by_cases hj : j < f
      · rw [if_pos hj]
        refine key j j0 (by omega) ?_ ?_ ?_
        · rw [g1 j j0 j1, if_pos hj]
        · rw [g3 j j0 (by omega), if_neg (by omega)]
        · rw [g4 j j0 (by omega), if_neg (by omega)]
      · rw [if_neg hj]
        refine key (j + m) (by omega) (by omega) ?_ ?_ ?_
        · rw [g1 j j0 j1, if_neg hj, if_pos (by omega)]
        · rw [g3 j j0 (by omega), if_pos (by omega)]
        · rw [g4 j j0 (by omega), if_pos (by omega)]
    have bi : 0 ≤ i ∧ i < 24 := by omega
    have bm : 0 ≤ i + m ∧ i + m < 24 := by omega
    refine ⟨bi, bm, bi, ?_⟩
    intro M33 e33
    refine ⟨bm, ?_⟩
    intro M43 e43
    refine ⟨bm, bi, ?_⟩
    intro M57 e57
    refine ⟨bm, bi, ?_⟩
    intro M71 e71
    have r43 : ∀ j, nn_rr M43 (t + 7) j = if j.toNat = (i + m).toNat then nn_rr M1 (t + 7) i else if j.toNat = i.toNat then nn_rr M1 (t + 7) (i + m) else nn_rr M1 (t + 7) j := by
      intro j
      rw [e43, rr_ii, e33, rr_ii]
      simp only [true_and]
    have r71 : ∀ j, nn_rr M71 (t + 7) j = nn_rr M43 (t + 7) j := by
      intro j
      rw [e71, rr_ii0 (by omega), e57, rr_ii0 (by omega)]
    have l8 : ∀ j, nn_ri M71 (t + 8) j = if j.toNat = i.toNat then nn_ri M1 (t + 8) (i + m) else nn_ri M1 (t + 8) j := by
      intro j
      simp [e71, e57, e43, e33, rd_ii]
    have l9 : ∀ j, nn_ri M71 (t + 9) j = if j.toNat = i.toNat then nn_ri M1 (t + 9) (i + m) else nn_ri M1 (t + 9) j := by
      intro j
      simp [e71, e57, e43, e33, rd_ii]
    refine ih c (by omega) M71 ?_ ?_ ?_ ?_ ?_ ?_ ?_
    · rw [e71, e57, e43, e33]
      exact fr_ui (fr_ui (fr_ui (fr_ui f1 (Or.inr (Or.inl rfl))) (Or.inr (Or.inl rfl))) (Or.inr (Or.inr (Or.inl rfl)))) (Or.inr (Or.inr (Or.inr rfl)))
    · rw [e71, rd_fi, if_neg (by omega), e57, rd_fi, if_neg (by omega), e43, rd_fi, if_neg (by omega), e33, rd_fi, if_neg (by omega), e1]
    · have pick : ∀ j, 0 ≤ j → j < 24 → ∃ j', 0 ≤ j' ∧ j' < 24 ∧ nn_rr M71 (t + 7) j = nn_rr M1 (t + 7) j' ∧ ((j = i + m ∧ j' = i) ∨ (j ≠ i + m ∧ j = i ∧ j' = i + m) ∨ (j ≠ i + m ∧ j ≠ i ∧ j' = j)) := by
        intro j p0 p1
        rw [r71, r43]
        by_cases z : j = i + m
        · exact ⟨i, bi.1, bi.2, by rw [if_pos (by omega)], Or.inl ⟨z, rfl⟩⟩
        · by_cases y : j = i
          · exact ⟨i + m, bm.1, bm.2, by rw [if_neg (by omega), if_pos (by omega)], Or.inr (Or.inl ⟨z, y, rfl⟩)⟩
          · exact ⟨j, p0, p1, by rw [if_neg (by omega), if_neg (by omega)], Or.inr (Or.inr ⟨z, y, rfl⟩)⟩
      refine ⟨fun j p0 p1 => ?_, fun j1 j2 p0 p1 p2 p3 he => ?_⟩
      · obtain ⟨j', x0, x1, x2, _⟩ := pick j p0 p1
        obtain ⟨a, ha, ea⟩ := s1.1 j' x0 x1
        exact ⟨a, ha, x2.trans ea⟩
      · obtain ⟨j', x0, x1, x2, x3⟩ := pick j1 p0 p1
        obtain ⟨j'', y0, y1, y2, y3⟩ := pick j2 p2 p3
        rw [x2, y2] at he
        have := s1.2 j' j'' x0 x1 y0 y1 he
        omega
    · intro j p0 p1
      by_cases z1 : j < f
      · rw [if_pos z1, r71, r43, if_neg (by omega), if_neg (by omega), g1 j p0 p1, if_pos z1]
      · rw [if_neg z1]
        by_cases z2 : j < i + 1
        · rw [if_pos z2]
          by_cases z3 : j = i
          · rw [r71, r43]
            by_cases z4 : m = 0
            · rw [if_pos (by omega), g2 i (by omega) bi.2, show j + m = i by omega]
            · rw [if_neg (by omega), if_pos (by omega), g2 (i + m) (by omega) bm.2, show j + m = i + m by omega]
          · rw [r71, r43, if_neg (by omega), if_neg (by omega), g1 j p0 p1, if_neg z1, if_pos (by omega)]
        · rw [if_neg z2]
    · intro j p0 p1
      rw [r71, r43, if_neg (by omega), if_neg (by omega)]
      exact g2 j (by omega) p1
    · intro j p0 p1
      rw [l8]
      by_cases z : j = i
      · rw [if_pos (by rw [z]), g3 (i + m) bm.1 bm.2, if_neg (by omega), if_pos (by omega), z]
      · rw [if_neg (by omega), g3 j p0 p1]
        by_cases y : f ≤ j ∧ j < i
        · rw [if_pos y, if_pos (by omega)]
        · rw [if_neg y, if_neg (by omega)]
    · intro j p0 p1
      rw [l9]
      by_cases z : j = i
      · rw [if_pos (by rw [z]), g4 (i + m) bm.1 bm.2, if_neg (by omega), if_pos (by omega), z]
      · rw [if_neg (by omega), g4 j p0 p1]
        by_cases y : f ≤ j ∧ j < i
        · rw [if_pos y, if_pos (by omega)]
        · rw [if_neg y, if_neg (by omega)]
  refine L f (by omega) (Int.le_refl _) M (fr_refl M) c1 s ?_ (fun _ _ _ => rfl) ?_ ?_
  · intro j p0 p1
    by_cases z : j < f
    · rw [if_pos z]
    · rw [if_neg z, if_neg z]
  · intro j p0 p1
    rw [if_neg (by omega)]
  · intro j p0 p1
    rw [if_neg (by omega)]
