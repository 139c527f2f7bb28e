/-! the class's Pile: the greatest of one value and key, the fresh ones; a run cut -/
def ss_ (E : Int → Int) (s e : Int) : Prop := ∀ i j, s ≤ i → i < j → j < e → E i < E j
def hi32_ (x : Int) : Int := x / 4294967296
def gr_ (S : Int → Prop) (x : Int) : Prop := S x ∧ ∀ y, S y → hi32_ y = hi32_ x → y ≤ x
theorem so_le {E : Int → Int} {s e i j : Int} (h : so_ E s e) (h0 : s ≤ i) (h1 : i ≤ j) (h2 : j < e) : E i ≤ E j := by
  by_cases z : i = j
  · rw [z]; exact Int.le_refl _
  · exact h i j h0 (by omega) h2
theorem hi_mono {x y : Int} (h : x ≤ y) : hi32_ x ≤ hi32_ y := by unfold hi32_; omega
theorem kept_gr {E : Int → Int} {s e x : Int} (h : so_ E s e) : (∃ j, s ≤ j ∧ j < e ∧ E j = x ∧ (j + 1 = e ∨ hi32_ (E j) ≠ hi32_ (E (j + 1)))) ↔ gr_ (sg_ E s e) x := by
  constructor
  · rintro ⟨j, j0, j1, rfl, j3⟩
    refine ⟨⟨j, j0, j1, rfl⟩, ?_⟩
    rintro y ⟨k, k0, k1, rfl⟩ hk
    by_cases z : k ≤ j
    · exact so_le h k0 z j1
    · rcases j3 with j3 | j3
      · omega
      · have a1 := hi_mono (so_le h j0 (show j ≤ j + 1 by omega) (by omega))
        have a2 := hi_mono (so_le h (show s ≤ j + 1 by omega) (show j + 1 ≤ k by omega) k1)
        omega
  · rintro ⟨⟨j, j0, j1, j2⟩, g⟩
    have key : ∀ t : Nat, ∀ j : Int, s ≤ j → j < e → E j = x → (e - j).toNat = t → ∃ j, s ≤ j ∧ j < e ∧ E j = x ∧ (j + 1 = e ∨ hi32_ (E j) ≠ hi32_ (E (j + 1))) := by
      intro t
      induction t with
      | zero => intro j a0 a1 _ ht; omega
      | succ t ih =>
        intro j a0 a1 a2 ht
        by_cases z : j + 1 = e
        · exact ⟨j, a0, a1, a2, Or.inl z⟩
        · by_cases y : hi32_ (E j) = hi32_ (E (j + 1))
          · have b1 := g (E (j + 1)) ⟨j + 1, by omega, by omega, rfl⟩ (by rw [← y, a2])
            have b2 := so_le h a0 (show j ≤ j + 1 by omega) (by omega)
            exact ih (j + 1) (by omega) (by omega) (by omega) (by omega)
          · exact ⟨j, a0, a1, a2, Or.inr y⟩
    exact key _ j j0 j1 j2 rfl
/-- one more behind those that are kept -/
theorem ss_push {F G : Int → Int} {s k x : Int} (h0 : s ≤ k) (h : ss_ F s k) (hlt : ∀ j, s ≤ j → j < k → F j < x) (hG : ∀ j, s ≤ j → j < k → G j = F j) (hx : G k = x) : ss_ G s (k + 1) ∧ ∀ y, sg_ G s (k + 1) y ↔ (sg_ F s k y ∨ y = x) := by
  refine ⟨fun i j i0 i1 i2 => ?_, fun y => ⟨?_, ?_⟩⟩
  · rw [hG i i0 (by omega)]
    by_cases z : j = k
    · rw [z, hx]; exact hlt i i0 (by omega)
    · rw [hG j (by omega) (by omega)]; exact h i j i0 i1 (by omega)
  · rintro ⟨j, j0, j1, j2⟩
    by_cases z : j = k
    · rw [z, hx] at j2; exact Or.inr j2.symm
    · rw [hG j j0 (by omega)] at j2; exact Or.inl ⟨j, j0, by omega, j2⟩
  · rintro (⟨j, j0, j1, j2⟩ | rfl)
    · exact ⟨j, j0, by omega, by rw [hG j j0 j1]; exact j2⟩
    · exact ⟨k, h0, by omega, hx⟩
theorem ct_P_keptGreatest {p : Nat} {r s e : Int} {M : mm_M} {R : Int → mm_M → Prop} (hr : 0 ≤ r ∧ r < 24) (hs : nn_ri M (p + 2) r = s) (he : nn_ri M (p + 2) (r + 1) = e) (h0 : 0 ≤ s) (hse : s ≤ e) (h1 : e ≤ 144) (hv : ∀ i, s ≤ i → i < e → ve_ (nn_ri M (p + 1) i)) (hso : so_ (nn_ri M (p + 1)) s e)
    (h : ∀ k M', s ≤ k → k ≤ e → fr_ (pe_ p s e) M M' → ss_ (nn_ri M' (p + 1)) s k → (∀ x, sg_ (nn_ri M' (p + 1)) s k x ↔ gr_ (sg_ (nn_ri M (p + 1)) s e) x) → R k M') : nr_Pile_keptGreatest p r M R := by
  refine ng_Pile_keptGreatest _ _ _ _ ⟨by omega, ?_⟩
  rw [mm_w_id (x := r + 1) (by omega)]
  refine ⟨by omega, ?_⟩
  rintro _ rfl
  rw [hs, he]
  have L : ∀ i : Int, i ≤ e → s ≤ i → ∀ k M1, s ≤ k → k ≤ i → fr_ (pe_ p s e) M M1 → ss_ (nn_ri M1 (p + 1)) s k → (∀ j, i ≤ j → nn_ri M1 (p + 1) j = nn_ri M (p + 1) j) → (∀ x, sg_ (nn_ri M1 (p + 1)) s k x ↔ ∃ j, s ≤ j ∧ j < i ∧ nn_ri M (p + 1) j = x ∧ (j + 1 = e ∨ hi32_ (nn_ri M (p + 1) j) ≠ hi32_ (nn_ri M (p + 1) (j + 1)))) → nk_Pile_keptGreatest_19 p k e i M1 R := by
    refine lp_up (fun i hi ih hi0 k M1 k0 k1 f1 s1 g1 m1 => ?_)
    refine ng_Pile_keptGreatest_19 _ _ _ _ _ _ ?_
    rw [mm_w_id (x := i + 1) (by omega), mm_w_id (x := k + 1) (by omega)]
    refine ⟨fun c => ?_, fun c => ?_⟩
    · have : i = e := by omega
      subst this
      exact h k M1 k0 k1 f1 s1 (fun x => (m1 x).trans (kept_gr hso))
    have cmp : i + 1 ≠ e → (mm_lcmp (mm_lushr (nn_ri M1 (p + 1) i) 32) (mm_lushr (nn_ri M1 (p + 1) (i + 1)) 32) = 0 ↔ hi32_ (nn_ri M (p + 1) i) = hi32_ (nn_ri M (p + 1) (i + 1))) := by
      intro z
      rw [lcmp_eq, g1 i (Int.le_refl _), g1 (i + 1) (by omega), lu32 (hv i hi0 (by omega)), lu32 (hv (i + 1) (by omega) (by omega))]
      exact Iff.rfl
    refine ⟨fun _ => by omega, fun _ => by omega, fun _ => by omega, fun _ => by omega, fun _ => by omega, fun _ => by omega, fun q => ?_, fun q => ?_⟩
    · rintro _ rfl
      have q2 : i + 1 = e ∨ hi32_ (nn_ri M (p + 1) i) ≠ hi32_ (nn_ri M (p + 1) (i + 1)) := by
        rcases q with q | q
        · exact Or.inl q
        · by_cases z : i + 1 = e
          · exact Or.inl z
          · exact Or.inr (fun y => q ((cmp z).mpr y))
      have hlt : ∀ j, s ≤ j → j < k → nn_ri M1 (p + 1) j < nn_ri M1 (p + 1) i := by
        intro j j0 j1
        obtain ⟨a, a0, a1, a2, a3⟩ := (m1 _).mp ⟨j, j0, j1, rfl⟩
        have b1 := so_le hso a0 (show a ≤ a + 1 by omega) (by omega)
        have b2 := so_le hso (show s ≤ a + 1 by omega) (show a + 1 ≤ i by omega) (by omega)
        rw [g1 i (Int.le_refl _), ← a2]
        rcases a3 with a3 | a3
        · omega
        · have : nn_ri M (p + 1) a ≠ nn_ri M (p + 1) (a + 1) := fun z => a3 (by rw [z])
          omega
      obtain ⟨x1, x2⟩ := ss_push (G := nn_ri (nn_ui M1 (p + 1) k (nn_ri M1 (p + 1) i)) (p + 1)) k0 s1 hlt (fun j j0 j1 => by rw [rd_ii, if_neg (by omega)]) (by rw [rd_ii, if_pos ⟨rfl, rfl⟩])
      refine ih c (by omega) (k + 1) _ (by omega) (by omega) (fr_ui f1 ⟨rfl, by omega, by omega⟩) x1 (fun j j0 => by rw [rd_ii, if_neg (by omega)]; exact g1 j (by omega)) (fun x => ?_)
      rw [x2 x, m1 x]
      constructor
      · rintro (⟨j, j0, j1, j2, j3⟩ | rfl)
        · exact ⟨j, j0, by omega, j2, j3⟩
        · exact ⟨i, hi0, by omega, (g1 i (Int.le_refl _)).symm, q2⟩
      · rintro ⟨j, j0, j1, j2, j3⟩
        by_cases z : j = i
        · rw [z, ← g1 i (Int.le_refl _)] at j2; exact Or.inr j2.symm
        · exact Or.inl ⟨j, j0, by omega, j2, j3⟩
    · refine ih c (by omega) k M1 k0 (by omega) f1 s1 (fun j j0 => g1 j (by omega)) (fun x => ?_)
      rw [m1 x]
      constructor
      · rintro ⟨j, j0, j1, j2, j3⟩
        exact ⟨j, j0, by omega, j2, j3⟩
      · rintro ⟨j, j0, j1, j2, j3⟩
        by_cases z : j = i
        · subst z
          rcases j3 with j3 | j3
          · exact absurd j3 q.1
          · exact absurd ((cmp q.1).mp q.2) j3
        · exact ⟨j, j0, by omega, j2, j3⟩
  refine L s hse (Int.le_refl _) s M (Int.le_refl _) (Int.le_refl _) (fr_refl M) (fun i j i0 i1 i2 => by omega) (fun _ _ => rfl) (fun x => ⟨?_, ?_⟩)
  · rintro ⟨j, j0, j1, _⟩; omega
  · rintro ⟨j, j0, j1, _⟩; omega
theorem ct_P_keptFresh {p v : Nat} {r s e : Int} {M : mm_M} {R : Int → mm_M → Prop} (hr : 0 ≤ r ∧ r < 24) (hs : nn_ri M (p + 2) r = s) (he : nn_ri M (p + 2) (r + 1) = e) (h0 : 0 ≤ s) (hse : s ≤ e) (h1 : e ≤ 144) (hv : ∀ i, s ≤ i → i < e → ve_ (nn_ri M (p + 1) i)) (hso : ss_ (nn_ri M (p + 1)) s e) (hd : p + 1 < v ∨ v + 3 ≤ p + 1)
    (h : ∀ k M', s ≤ k → k ≤ e → fr_ (pe_ p s e) M M' → ss_ (nn_ri M' (p + 1)) s k → (∀ x, sg_ (nn_ri M' (p + 1)) s k x ↔ (sg_ (nn_ri M (p + 1)) s e x ∧ fs_ (cv_ M v) x = true)) → R k M') : nr_Pile_keptFresh p r v M R := by
  refine ng_Pile_keptFresh _ _ _ _ _ ⟨by omega, ?_⟩
  rw [hs]
  have L : ∀ i : Int, i ≤ e → s ≤ i → ∀ k M1, s ≤ k → k ≤ i → fr_ (pe_ p s e) M M1 → ss_ (nn_ri M1 (p + 1)) s k → (∀ j, i ≤ j → nn_ri M1 (p + 1) j = nn_ri M (p + 1) j) → (∀ x, sg_ (nn_ri M1 (p + 1)) s k x ↔ ∃ j, s ≤ j ∧ j < i ∧ nn_ri M (p + 1) j = x ∧ fs_ (cv_ M v) x = true) → nk_Pile_keptFresh_10 p r v k i M1 R := by
    refine lp_up (fun i hi ih hi0 k M1 k0 k1 f1 s1 g1 m1 => ?_)
    have e1 : nn_ri M1 (p + 2) (r + 1) = e := (fr_ri f1 (fun z => by have := z.1; omega)).trans he
    have ev : cv_ M1 v = cv_ M v := cv_fr f1 (fun o b z z2 => by have := z.1; have := z.2; have := z2.1; omega)
    refine ng_Pile_keptFresh_10 _ _ _ _ _ _ _ ?_
    rw [mm_w_id (x := r + 1) (by omega), e1, mm_w_id (x := i + 1) (by omega), mm_w_id (x := k + 1) (by omega)]
    refine ⟨by omega, fun c => ?_, fun c => ⟨by omega, ?_⟩⟩
    · have : i = e := by omega
      subst this
      refine h k M1 k0 k1 f1 s1 (fun x => (m1 x).trans ⟨?_, ?_⟩)
      · rintro ⟨j, j0, j1, j2, j3⟩; exact ⟨⟨j, j0, j1, j2⟩, j3⟩
      · rintro ⟨⟨j, j0, j1, j2⟩, j3⟩; exact ⟨j, j0, j1, j2, j3⟩
    have vi := hv i hi0 c
    rw [g1 i (Int.le_refl _), nf_stale vi, ev]
    refine ⟨nc_stale vi, fun q => ?_, fun q => ⟨by omega, by omega, ?_⟩⟩
    · have q2 : ¬ fs_ (cv_ M v) (nn_ri M (p + 1) i) = true := fun z => by rw [if_pos z] at q; exact q rfl
      refine ih c (by omega) k M1 k0 (by omega) f1 s1 (fun j j0 => g1 j (by omega)) (fun x => ?_)
      rw [m1 x]
      constructor
      · rintro ⟨j, j0, j1, j2, j3⟩
        exact ⟨j, j0, by omega, j2, j3⟩
      · rintro ⟨j, j0, j1, j2, j3⟩
        by_cases z : j = i
        · subst z; rw [← j2] at j3; exact absurd j3 q2
        · exact ⟨j, j0, by omega, j2, j3⟩
    · have q2 : fs_ (cv_ M v) (nn_ri M (p + 1) i) = true := by
        by_cases z : fs_ (cv_ M v) (nn_ri M (p + 1) i) = true
        · exact z
        · rw [if_neg z] at q; exact absurd q (by decide)
      rintro _ rfl
      have hlt : ∀ j, s ≤ j → j < k → nn_ri M1 (p + 1) j < nn_ri M (p + 1) i := by
        intro j j0 j1
        obtain ⟨a, a0, a1, a2, a3⟩ := (m1 _).mp ⟨j, j0, j1, rfl⟩
        rw [← a2]
        exact hso a i a0 a1 c
      obtain ⟨x1, x2⟩ := ss_push (G := nn_ri (nn_ui M1 (p + 1) k (nn_ri M (p + 1) i)) (p + 1)) k0 s1 hlt (fun j j0 j1 => by rw [rd_ii, if_neg (by omega)]) (by rw [rd_ii, if_pos ⟨rfl, rfl⟩])
      refine ih c (by omega) (k + 1) _ (by omega) (by omega) (fr_ui f1 ⟨rfl, by omega, by omega⟩) x1 (fun j j0 => by rw [rd_ii, if_neg (by omega)]; exact g1 j (by omega)) (fun x => ?_)
      rw [x2 x, m1 x]
      constructor
      · rintro (⟨j, j0, j1, j2, j3⟩ | rfl)
        · exact ⟨j, j0, by omega, j2, j3⟩
        · exact ⟨i, hi0, by omega, rfl, q2⟩
      · rintro ⟨j, j0, j1, j2, j3⟩
        by_cases z : j = i
        · rw [z] at j2; exact Or.inr j2.symm
        · exact Or.inl ⟨j, j0, by omega, j2, j3⟩
  refine L s hse (Int.le_refl _) s M (Int.le_refl _) (Int.le_refl _) (fr_refl M) (fun i j i0 i1 i2 => by omega) (fun _ _ => rfl) (fun x => ⟨?_, ?_⟩)
  · rintro ⟨j, j0, j1, _⟩; omega
  · rintro ⟨j, j0, j1, _⟩; omega
theorem ct_P_cut {p : Nat} {r k n tot : Int} {M : mm_M} {R : mm_M → Prop} (hn : nn_rf M p 5 = n) (hr : 0 ≤ r ∧ r < n) (h24 : n ≤ 24) (ht : nn_ri M (p + 2) n = tot) (h144 : tot ≤ 144) (hk : 0 ≤ k) (hke : k ≤ nn_ri M (p + 2) (r + 1)) (het : nn_ri M (p + 2) (r + 1) ≤ tot) (hT : ∀ j, 0 ≤ j → j ≤ n → 0 ≤ nn_ri M (p + 2) j ∧ nn_ri M (p + 2) j ≤ 144)
    (h : ∀ M', fr_ (fun o b => (o = p + 1 ∧ k ≤ (b : Int)) ∨ o = p + 2) M M' → (∀ j, 0 ≤ j → j ≤ n → nn_ri M' (p + 2) j = if j ≤ r then nn_ri M (p + 2) j else nn_ri M (p + 2) j - (nn_ri M (p + 2) (r + 1) - k)) → (∀ i, 0 ≤ i → i < tot - (nn_ri M (p + 2) (r + 1) - k) → nn_ri M' (p + 1) i = if i < k then nn_ri M (p + 1) i else nn_ri M (p + 1) (i + (nn_ri M (p + 2) (r + 1) - k))) → R M') : nr_Pile_cut p r k M R := by
  refine ng_Pile_cut _ _ _ _ _ ?_
  rw [mm_w_id (x := r + 1) (by omega)]
  refine ⟨by omega, ?_⟩
  rintro _ rfl
  rw [mm_w_id (x := nn_ri M (p + 2) (r + 1) - k) (by omega), hn, ht]
  refine ⟨by omega, ?_⟩
  generalize hg : nn_ri M (p + 2) (r + 1) - k = gap at h ⊢
  rw [mm_w_id (x := k + gap) (by omega), mm_w_id (x := tot - k) (by omega), mm_w_id (x := tot - k - gap) (by omega)]
  refine ⟨by omega, ?_⟩
  rintro _ rfl
  have L : ∀ i : Int, i ≤ n + 1 → r + 1 ≤ i → ∀ M1, fr_ (fun o _ => o = p + 2) (mm_cp M (p + 1) (k + gap) (p + 1) k (tot - k - gap)) M1 → (∀ j, 0 ≤ j → nn_ri M1 (p + 2) j = if r < j ∧ j < i then nn_ri M (p + 2) j - gap else nn_ri M (p + 2) j) → nk_Pile_cut_44 p gap i M1 R := by
    refine lp_up (fun i hi ih hi0 M1 f1 g1 => ?_)
    have e1 : nn_rf M1 p 5 = n := (fr_rf f1 (by omega)).trans ((rd_cf _ _ _ _ _ _ _ _ (by omega)).trans hn)
    refine ng_Pile_cut_44 _ _ _ _ _ ?_
    rw [e1, mm_w_id (x := i + 1) (by omega)]
    refine ⟨fun c => ?_, fun c => ⟨by omega, by omega, ?_⟩⟩
    · refine h M1 ?_ (fun j j0 j1 => ?_) (fun j j0 j1 => ?_)
      · refine fr_trans (fr_cp (fr_refl M) (fun b b0 b1 => Or.inl ⟨rfl, b0⟩)) (fr_mono f1 (fun o b z => Or.inr z))
      · rw [g1 j j0]
        by_cases z : j ≤ r
        · rw [if_pos z, if_neg (by omega)]
        · rw [if_neg z, if_pos (by omega)]
      · rw [fr_ri f1 (by omega), rd_cc _ _ _ _ _ _ _ j0]
        by_cases z : j < k
        · rw [if_pos z, if_neg (by omega)]
        · rw [if_neg z, if_pos (by omega), show j - k + (k + gap) = j + gap by omega]
    · have gi := g1 i (by omega)
      rw [if_neg (by omega)] at gi
      have hTi := hT i (by omega) (by omega)
      rw [gi, mm_w_id (x := nn_ri M (p + 2) i - gap) (by omega)]
      rintro _ rfl
      refine ih (by omega) (by omega) _ (fr_ui f1 rfl) (fun j j0 => ?_)
      rw [rd_ii]
      by_cases z : j = i
      · rw [if_pos ⟨rfl, by rw [z]⟩, if_pos (by omega), z]
      · rw [if_neg (by omega), g1 j j0]
        by_cases y : r < j ∧ j < i
        · rw [if_pos y, if_pos (by omega)]
        · rw [if_neg y, if_neg (by omega)]
  refine L (r + 1) (by omega) (Int.le_refl _) _ (fr_refl _) (fun j j0 => ?_)
  rw [if_neg (by omega), rd_ci _ _ _ _ _ _ _ _ (by omega)]
