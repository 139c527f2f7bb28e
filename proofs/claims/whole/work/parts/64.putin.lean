/-! the class's Pile: a run put in; a copy; what is stale; what is told -/
def inP_ (r : Int) (x : ab_P) (g : Int → ab_P) : Int → ab_P := fun j => if j < r then g j else if j = r then x else g (j - 1)
def pp_ (p o _b : Nat) : Prop := p ≤ o ∧ o < p + 6
theorem nf_Psize {M : mm_M} {p : Nat} {n : Int} {g : Int → ab_P} (k : pl_ M p n g) : nf_Pile_size p M = nn_ri M (p + 2) n := by unfold nf_Pile_size; rw [k.1.1]
theorem nc_Psize {M : mm_M} {p : Nat} {n : Int} {g : Int → ab_P} (k : pl_ M p n g) : nc_Pile_size p M := by
  unfold nc_Pile_size
  have := k.1
  omega
theorem ct_P_putIn {p v : Nat} {r level rep id n : Int} (mid : Int) {M : mm_M} {R : mm_M → Prop} {g : Int → ab_P} {S : Int → Prop} (hvp : v + 2 ≤ p) (k : pl_ M p n g) (hs : es_ M v S) (hr : 0 ≤ r ∧ r ≤ n) (hn : n < 24) (hcap : nn_ri M (p + 2) n + nn_rf M v 1 ≤ 144)
    (h0 : nn_rf M v 1 = 0 → R M) (h1 : nn_rf M v 1 ≠ 0 → ∀ M', fr_ (pp_ p) M M' → pl_ M' p (n + 1) (inP_ r (id, mid, level, rep, S) g) → R M') : nr_Pile_putIn p r v level rep id M R := by
  obtain ⟨z0, z1, z2⟩ := hs
  have qn := pm_le k (show 0 ≤ n by omega) (Int.le_refl n) (Int.le_refl n)
  have qr := pm_le k hr.1 hr.2 (Int.le_refl n)
  refine ng_Pile_putIn _ _ _ _ _ _ _ _ ?_
  rw [nf_Psize k, k.1.1, mm_w_id (x := nn_ri M (p + 2) n + nn_rf M v 1) (by omega), mm_w_id (x := nn_ri M (p + 2) r + nn_rf M v 1) (by omega), mm_w_id (x := nn_ri M (p + 2) n - nn_ri M (p + 2) r) (by omega)]
  refine ⟨nc_Psize k, fun _ => by omega, fun _ => by omega, fun c => h0 (by omega), fun c => ?_⟩
  rintro _ rfl
  have e1 : nn_rf (mm_cp M (p + 1) (nn_ri M (p + 2) r) (p + 1) (nn_ri M (p + 2) r + nn_rf M v 1) (nn_ri M (p + 2) n - nn_ri M (p + 2) r)) v 1 = nn_rf M v 1 := rd_cf _ _ _ _ _ _ _ _ (by omega)
  refine ⟨by omega, ?_⟩
  intro M82 e82
  have f82 : fr_ (fun o _ => o = p + 1) M M82 := by
    rw [e82]
    exact fr_cp (fr_cp (fr_refl M) (fun _ _ _ => rfl)) (fun _ _ _ => rfl)
  have hE : ∀ i, 0 ≤ i → i < nn_ri M (p + 2) n + nn_rf M v 1 → nn_ri M82 (p + 1) i = if i < nn_ri M (p + 2) r then nn_ri M (p + 1) i else if i < nn_ri M (p + 2) r + nn_rf M v 1 then nn_ri M (v + 1) (i - nn_ri M (p + 2) r) else nn_ri M (p + 1) (i - nn_rf M v 1) := by
    intro i i0 i1
    rw [e82, rd_cc _ _ _ _ _ _ _ i0]
    by_cases a : i < nn_ri M (p + 2) r
    · rw [if_neg (by omega), if_pos a, rd_cc _ _ _ _ _ _ _ i0, if_neg (by omega)]
    · by_cases b : i < nn_ri M (p + 2) r + nn_rf M v 1
      · rw [if_pos (by omega), if_neg a, if_pos b, rd_ci _ _ _ _ _ _ _ _ (by omega)]
        congr 1
        omega
      · rw [if_neg (by omega), if_neg a, if_neg b, rd_cc _ _ _ _ _ _ _ i0, if_pos (by omega)]
        congr 1
        omega
  have e5 : nn_rf M82 p 5 = n := (fr_rf f82 (by omega)).trans k.1.1
  rw [e5]
  generalize hmany : nn_rf M v 1 = many at *
  generalize hst : nn_ri M (p + 2) r = start at *
  -- labels, starts
  have L2 : ∀ M1, fr_ (fun o _ => o = p + 3 ∨ o = p + 4 ∨ o = p + 5) M82 M1 → (∀ j, 0 ≤ j → (nn_ri M1 (p + 3) j = if r < j ∧ j ≤ n then nn_ri M (p + 3) (j - 1) else nn_ri M (p + 3) j) ∧ (nn_ri M1 (p + 4) j = if r < j ∧ j ≤ n then nn_ri M (p + 4) (j - 1) else nn_ri M (p + 4) j) ∧ (nn_ri M1 (p + 5) j = if r < j ∧ j ≤ n then nn_ri M (p + 5) (j - 1) else nn_ri M (p + 5) j)) →
      ∀ i : Int, r - 1 ≤ i → i ≤ n → ∀ M2, fr_ (fun o _ => o = p + 2) M1 M2 → (∀ j, 0 ≤ j → nn_ri M2 (p + 2) j = if i + 1 < j ∧ j ≤ n + 1 then nn_ri M (p + 2) (j - 1) + many else nn_ri M (p + 2) j) → nk_Pile_putIn_157 p r level rep id many i M2 R := by
    intro M1 f1 g1
    refine lp_dn (fun i hi ih hin M2 f2 g2 => ?_)
    have e52 : nn_rf M2 p 5 = n := (fr_rf f2 (by omega)).trans ((fr_rf f1 (by omega)).trans e5)
    refine ng_Pile_putIn_157 _ _ _ _ _ _ _ _ _ ⟨fun q => ?_, fun q => ⟨by omega, ?_⟩⟩
    · have hir : i = r - 1 := by omega
      refine ⟨by omega, ?_⟩
      rintro _ rfl
      refine ⟨by omega, ?_⟩
      rintro _ rfl
      refine ⟨by omega, ?_⟩
      rintro _ rfl _ rfl
      have e53 : nn_rf (nn_ui (nn_ui (nn_ui M2 (p + 3) r level) (p + 4) r rep) (p + 5) r id) p 5 = n := by
        rw [rd_fi, if_neg (by omega), rd_fi, if_neg (by omega), rd_fi, if_neg (by omega), e52]
      rw [e53, mm_w_id (x := n + 1) (by omega)]
      have t : ∀ j, 0 ≤ j → nn_ri (nn_uf (nn_ui (nn_ui (nn_ui M2 (p + 3) r level) (p + 4) r rep) (p + 5) r id) p 5 (n + 1)) (p + 2) j = if r < j ∧ j ≤ n + 1 then nn_ri M (p + 2) (j - 1) + many else nn_ri M (p + 2) j := by
        intro j j0
        rw [rd_if, if_neg (by omega), rd_ii, if_neg (by omega), rd_ii, if_neg (by omega), rd_ii, if_neg (by omega), g2 j j0]
        by_cases z : r < j ∧ j ≤ n + 1
        · rw [if_pos z, if_pos (by omega)]
        · rw [if_neg z, if_neg (by omega)]
      have lE : ∀ j, nn_ri (nn_uf (nn_ui (nn_ui (nn_ui M2 (p + 3) r level) (p + 4) r rep) (p + 5) r id) p 5 (n + 1)) (p + 1) j = nn_ri M82 (p + 1) j := by
        intro j
        rw [rd_if, if_neg (by omega), rd_ii, if_neg (by omega), rd_ii, if_neg (by omega), rd_ii, if_neg (by omega), fr_ri f2 (by omega), fr_ri f1 (by omega)]
      have l3 : ∀ j, nn_ri (nn_uf (nn_ui (nn_ui (nn_ui M2 (p + 3) r level) (p + 4) r rep) (p + 5) r id) p 5 (n + 1)) (p + 3) j = if j.toNat = r.toNat then level else nn_ri M1 (p + 3) j := by
        intro j
        rw [rd_if, if_neg (by omega), rd_ii, if_neg (by omega), rd_ii, if_neg (by omega), rd_ii, fr_ri f2 (by omega)]
        simp only [true_and]
      have l4 : ∀ j, nn_ri (nn_uf (nn_ui (nn_ui (nn_ui M2 (p + 3) r level) (p + 4) r rep) (p + 5) r id) p 5 (n + 1)) (p + 4) j = if j.toNat = r.toNat then rep else nn_ri M1 (p + 4) j := by
        intro j
        have x : nn_ri M2 (p + 4) j = nn_ri M1 (p + 4) j := fr_ri f2 (by omega)
        simp [rd_if, rd_ii, x]
      have l5 : ∀ j, nn_ri (nn_uf (nn_ui (nn_ui (nn_ui M2 (p + 3) r level) (p + 4) r rep) (p + 5) r id) p 5 (n + 1)) (p + 5) j = if j.toNat = r.toNat then id else nn_ri M1 (p + 5) j := by
        intro j
        have x : nn_ri M2 (p + 5) j = nn_ri M1 (p + 5) j := fr_ri f2 (by omega)
        simp [rd_if, rd_ii, x]
      have l6 : nn_rf (nn_uf (nn_ui (nn_ui (nn_ui M2 (p + 3) r level) (p + 4) r rep) (p + 5) r id) p 5 (n + 1)) p 5 = n + 1 := by rw [rd_ff, if_pos ⟨rfl, rfl⟩]
      have fM : fr_ (pp_ p) M (nn_uf (nn_ui (nn_ui (nn_ui M2 (p + 3) r level) (p + 4) r rep) (p + 5) r id) p 5 (n + 1)) :=
        fr_uf (fr_ui (fr_ui (fr_ui (fr_trans (fr_mono f82 (fun o b z => ⟨by omega, by omega⟩)) (fr_trans (fr_mono f1 (fun o b z => ⟨by omega, by omega⟩)) (fr_mono f2 (fun o b z => ⟨by omega, by omega⟩)))) ⟨by omega, by omega⟩) ⟨by omega, by omega⟩) ⟨by omega, by omega⟩) ⟨by omega, by omega⟩
      generalize nn_uf (nn_ui (nn_ui (nn_ui M2 (p + 3) r level) (p + 4) r rep) (p + 5) r id) p 5 (n + 1) = M9 at t lE l3 l4 l5 l6 fM
      refine h1 c.1 M9 fM ⟨⟨l6, by omega, by omega⟩, ⟨by rw [t 0 (by omega), if_neg (by omega)]; exact k.2.1.1, by rw [t (n + 1) (by omega), if_pos (by omega), show n + 1 - 1 = n by omega]; exact hcap⟩, fun j j0 j1 => ?_, fun j j0 j1 _ => ?_⟩
      · obtain ⟨y3, y4, y5⟩ := g1 j j0
        unfold inP_
        by_cases a : j < r
        · obtain ⟨x1, x2, x3, x4⟩ := k.2.2.1 j j0 (by omega)
          rw [if_neg (by omega)] at y3 y4 y5
          rw [if_pos a]
          refine ⟨by rw [l5, if_neg (by omega), y5]; exact x1, by rw [l3, if_neg (by omega), y3]; exact x2, by rw [l4, if_neg (by omega), y4]; exact x3, ?_⟩
          rw [t j j0, if_neg (by omega), t (j + 1) (by omega), if_neg (by omega)]
          exact x4
        · by_cases b : j = r
          · rw [if_neg a, if_pos b]
            refine ⟨by rw [l5, if_pos (by rw [b])], by rw [l3, if_pos (by rw [b])], by rw [l4, if_pos (by rw [b])], ?_⟩
            rw [t j j0, if_neg (by omega), t (j + 1) (by omega), if_pos (by omega), show j + 1 - 1 = j by omega]
            omega
          · obtain ⟨x1, x2, x3, x4⟩ := k.2.2.1 (j - 1) (by omega) (by omega)
            rw [if_pos (by omega)] at y3 y4 y5
            rw [if_neg a, if_neg b]
            refine ⟨by rw [l5, if_neg (by omega), y5]; exact x1, by rw [l3, if_neg (by omega), y3]; exact x2, by rw [l4, if_neg (by omega), y4]; exact x3, ?_⟩
            rw [t j j0, if_pos (by omega), t (j + 1) (by omega), if_pos (by omega), show j + 1 - 1 = j - 1 + 1 by omega]
            omega
      · unfold inP_
        rw [t j j0, t (j + 1) (by omega)]
        by_cases a : j < r
        · have q1 := pm_le k (show 0 ≤ j + 1 by omega) (show j + 1 ≤ r by omega) hr.2
          have q2 := pm_le k j0 (Int.le_refl j) (by omega)
          rw [if_neg (by omega), if_neg (by omega), if_pos a]
          exact rs_cg (fun i i0 i1 => by rw [lE, hE i (by omega) (by omega), if_pos (by omega)]) (k.2.2.2 j j0 (by omega) (by omega))
        · by_cases b : j = r
          · subst b
            rw [if_neg (by omega), if_pos (by omega), if_neg a, if_pos rfl, show j + 1 - 1 = j by omega, hst]
            have hF : ∀ i, start ≤ i → i < start + many → nn_ri M9 (p + 1) i = nn_ri M (v + 1) (i - start) := fun i i0 i1 => by rw [lE, hE i (by omega) (by omega), if_neg (by omega), if_pos i1]
            refine ⟨fun i i' i0 i1 i2 => ?_, fun x => ⟨?_, fun hx => ?_⟩⟩
            · rw [hF i i0 (by omega), hF i' (by omega) i2]
              exact z2.2.2 (i - start) (i' - start) (by omega) (by omega) (by omega)
            · rintro ⟨i, i0, i1, i2⟩
              rw [hF i i0 i1] at i2
              rw [← i2]
              exact z2.1 (i - start) (by omega) (by omega)
            · obtain ⟨i, i0, i1, i2⟩ := z2.2.1 x hx
              exact ⟨i + start, by omega, by omega, by rw [hF (i + start) (by omega) (by omega), show i + start - start = i by omega]; exact i2⟩
          · have q1 := pm_le k hr.1 (show r ≤ j - 1 by omega) (by omega)
            have q2 := pm_le k (show 0 ≤ j - 1 + 1 by omega) (show j - 1 + 1 ≤ n by omega) (Int.le_refl n)
            obtain ⟨s1, s2⟩ := k.2.2.2 (j - 1) (by omega) (by omega) (by omega)
            rw [if_pos (by omega), if_pos (by omega), if_neg a, if_neg b, show j + 1 - 1 = j - 1 + 1 by omega]
            have hF : ∀ i, nn_ri M (p + 2) (j - 1) + many ≤ i → i < nn_ri M (p + 2) (j - 1 + 1) + many → nn_ri M9 (p + 1) i = nn_ri M (p + 1) (i - many) := fun i i0 i1 => by rw [lE, hE i (by omega) (by omega), if_neg (by omega), if_neg (by omega)]
            refine ⟨fun i i' i0 i1 i2 => ?_, fun x => ?_⟩
            · rw [hF i i0 (by omega), hF i' (by omega) i2]
              exact s1 (i - many) (i' - many) (by omega) (by omega) (by omega)
            · rw [← s2 x]
              constructor
              · rintro ⟨i, i0, i1, i2⟩
                exact ⟨i - many, by omega, by omega, by rw [← hF i i0 i1]; exact i2⟩
              · rintro ⟨i, i0, i1, i2⟩
                exact ⟨i + many, by omega, by omega, by rw [hF (i + many) (by omega) (by omega), show i + many - many = i by omega]; exact i2⟩
    · have gi := g2 i (by omega)
      rw [if_neg (by omega)] at gi
      have qi := pm_le k (show 0 ≤ i by omega) hin (Int.le_refl n)
      rw [gi, mm_w_id (x := i + 1) (by omega), mm_w_id (x := nn_ri M (p + 2) i + many) (by omega), mm_w_id (x := i + (-1)) (by omega)]
      refine ⟨by omega, ?_⟩
      rintro _ rfl
      rw [show i + (-1) = i - 1 by omega]
      refine ih (by omega) (by omega) _ (fr_ui f2 rfl) (fun j j0 => ?_)
      rw [rd_ii]
      by_cases z : j = i + 1
      · rw [if_pos ⟨rfl, by rw [z]⟩, if_pos (by omega), z, show i + 1 - 1 = i by omega]
      · rw [if_neg (by omega), g2 j j0]
        by_cases y : i + 1 < j ∧ j ≤ n + 1
        · rw [if_pos y, if_pos (by omega)]
        · rw [if_neg y, if_neg (by omega)]
  have L1 : ∀ i : Int, r ≤ i → i ≤ n → ∀ M1, fr_ (fun o _ => o = p + 3 ∨ o = p + 4 ∨ o = p + 5) M82 M1 → (∀ j, 0 ≤ j → (nn_ri M1 (p + 3) j = if i < j ∧ j ≤ n then nn_ri M (p + 3) (j - 1) else nn_ri M (p + 3) j) ∧ (nn_ri M1 (p + 4) j = if i < j ∧ j ≤ n then nn_ri M (p + 4) (j - 1) else nn_ri M (p + 4) j) ∧ (nn_ri M1 (p + 5) j = if i < j ∧ j ≤ n then nn_ri M (p + 5) (j - 1) else nn_ri M (p + 5) j)) → nk_Pile_putIn_91 p r level rep id many i M1 R := by
    refine lp_dn (fun i hi ih hin M1 f1 g1 => ?_)
    refine ng_Pile_putIn_91 _ _ _ _ _ _ _ _ _ ⟨fun q => ?_, fun q => ?_⟩
    · have hir : i = r := by omega
      subst hir
      have e51 : nn_rf M1 p 5 = n := (fr_rf f1 (by omega)).trans e5
      rw [e51]
      refine L2 M1 f1 g1 n (by omega) (Int.le_refl _) M1 (fr_refl M1) (fun j j0 => ?_)
      rw [fr_ri f1 (by omega), fr_ri f82 (by omega), if_neg (by omega)]
    · rw [mm_w_id (x := i - 1) (by omega), mm_w_id (x := i + (-1)) (by omega)]
      have bi : 0 ≤ i ∧ i < 24 := by omega
      have bm : 0 ≤ i - 1 ∧ i - 1 < 24 := by omega
      refine ⟨bm, bi, ?_⟩
      intro M112 e112
      refine ⟨bm, bi, ?_⟩
      intro M128 e128
      refine ⟨bm, bi, ?_⟩
      intro M144 e144
      have l3 : ∀ j, nn_ri M144 (p + 3) j = if j.toNat = i.toNat then nn_ri M1 (p + 3) (i - 1) else nn_ri M1 (p + 3) j := by
        intro j
        simp [e144, e128, e112, rd_ii]
      have l4 : ∀ j, nn_ri M144 (p + 4) j = if j.toNat = i.toNat then nn_ri M1 (p + 4) (i - 1) else nn_ri M1 (p + 4) j := by
        intro j
        simp [e144, e128, e112, rd_ii]
      have l5 : ∀ j, nn_ri M144 (p + 5) j = if j.toNat = i.toNat then nn_ri M1 (p + 5) (i - 1) else nn_ri M1 (p + 5) j := by
        intro j
        simp [e144, e128, e112, rd_ii]
      rw [show i + (-1) = i - 1 by omega]
      have stp : ∀ (X Y Z : Int → Int) (j : Int), 0 ≤ j → (X j = if j.toNat = i.toNat then Y (i - 1) else Y j) → (∀ a, 0 ≤ a → Y a = if i < a ∧ a ≤ n then Z (a - 1) else Z a) → X j = if i - 1 < j ∧ j ≤ n then Z (j - 1) else Z j := by
        intro X Y Z j j0 hx hy
        rw [hx]
        by_cases z : j = i
        · rw [if_pos (by rw [z]), hy (i - 1) (by omega), if_neg (by omega), if_pos (by omega), z]
        · rw [if_neg (by omega), hy j j0]
          by_cases y : i < j ∧ j ≤ n
          · rw [if_pos y, if_pos (by omega)]
          · rw [if_neg y, if_neg (by omega)]
      refine ih q (by omega) M144 ?_ (fun j j0 => ⟨stp _ _ _ j j0 (l3 j) (fun a a0 => (g1 a a0).1), stp _ _ _ j j0 (l4 j) (fun a a0 => (g1 a a0).2.1), stp _ _ _ j j0 (l5 j) (fun a a0 => (g1 a a0).2.2)⟩)
      rw [e144, e128, e112]
      exact fr_ui (fr_ui (fr_ui f1 (Or.inl rfl)) (Or.inr (Or.inl rfl))) (Or.inr (Or.inr rfl))
  refine L1 n hr.2 (Int.le_refl _) M82 (fr_refl M82) (fun j j0 => ?_)
  rw [if_neg (by omega), if_neg (by omega), if_neg (by omega), fr_ri f82 (by omega), fr_ri f82 (by omega), fr_ri f82 (by omega)]
  exact ⟨rfl, rfl, rfl⟩
