/-! the class's Pile, cell by cell: runs taken out, a run sorted, those that stay moved ahead, a run cut -/
def po_ (p o b : Nat) : Prop := (o = p ∧ b = 5) ∨ o = p + 2 ∨ o = p + 3 ∨ o = p + 4 ∨ o = p + 5
def cuI_ (f m : Int) (q : Int → Int) : Int → Int := fun i => if i < f then q i else q (i + m)
theorem cu_step {f m i j : Int} {X Y Z : Int → Int} (hf : f ≤ i) (hm : 0 ≤ m) (j0 : 0 ≤ j) (i0 : 0 ≤ i) (hl : X j = if j.toNat = i.toNat then Y (i + m) else Y j) (hx : ∀ k, 0 ≤ k → Y k = if f ≤ k ∧ k < i then Z (k + m) else Z k) : X j = if f ≤ j ∧ j < i + 1 then Z (j + m) else Z j := by
  rw [hl]
  by_cases z : j = i
  · rw [if_pos (by rw [z]), hx (i + m) (by omega), if_neg (by omega), z, if_pos (by omega)]
  · rw [if_neg (by omega), hx j j0]
    by_cases y : f ≤ j ∧ j < i
    · rw [if_pos y, if_pos (by omega)]
    · rw [if_neg y, if_neg (by omega)]
theorem ct_P_takeOut {p : Nat} {f m n : Int} {M : mm_M} {R : mm_M → Prop} (hn : nn_rf M p 5 = n) (hf : 0 ≤ f) (hm : 0 ≤ m) (hfm : f + m ≤ n) (h24 : n ≤ 24)
    (h : ∀ M', fr_ (po_ p) M M' → nn_rf M' p 5 = n - m → (∀ j, 0 ≤ j → j ≤ n - m → nn_ri M' (p + 2) j = cuI_ f m (nn_ri M (p + 2)) j) → (∀ j, 0 ≤ j → j < n - m → nn_ri M' (p + 3) j = cuI_ f m (nn_ri M (p + 3)) j ∧ nn_ri M' (p + 4) j = cuI_ f m (nn_ri M (p + 4)) j ∧ nn_ri M' (p + 5) j = cuI_ f m (nn_ri M (p + 5)) j) → R M') : nr_Pile_takeOut p f m M R := by
  refine ng_Pile_takeOut _ _ _ _ _ ?_
  -- the second loop: where the runs start
  have L2 : ∀ M1, fr_ (po_ p) M M1 → nn_rf M1 p 5 = n → (∀ j, nn_ri M1 (p + 2) j = nn_ri M (p + 2) j) → (∀ j, 0 ≤ j → j < n - m → nn_ri M1 (p + 3) j = cuI_ f m (nn_ri M (p + 3)) j ∧ nn_ri M1 (p + 4) j = cuI_ f m (nn_ri M (p + 4)) j ∧ nn_ri M1 (p + 5) j = cuI_ f m (nn_ri M (p + 5)) j) →
      ∀ i : Int, i ≤ n - m + 1 → f ≤ i → ∀ M2, fr_ (fun o _ => o = p + 2) M1 M2 → (∀ j, 0 ≤ j → nn_ri M2 (p + 2) j = if f ≤ j ∧ j < i then nn_ri M (p + 2) (j + m) else nn_ri M (p + 2) j) → nk_Pile_takeOut_62 p m i M2 R := by
    intro M1 f1 e1 g1 g2
    refine lp_up (fun i hi ih h0 M2 f2 g3 => ?_)
    have e2 : nn_rf M2 p 5 = n := (fr_rf f2 (by omega)).trans e1
    refine ng_Pile_takeOut_62 _ _ _ _ _ ?_
    rw [e2, mm_w_id (x := n - m) (by omega), mm_w_id (x := i + m) (by omega), mm_w_id (x := i + 1) (by omega)]
    refine ⟨fun c => ?_, fun c => ⟨by omega, by omega, ?_⟩⟩
    · rintro _ rfl
      have f3 : fr_ (fun o b => o = p ∧ b = 5) M2 (nn_uf M2 p 5 (n - m)) := fr_uf (fr_refl M2) ⟨rfl, rfl⟩
      refine h _ (fr_trans f1 (fr_trans (fr_mono f2 (fun o b z => Or.inr (Or.inl z))) (fr_mono f3 (fun o b z => Or.inl z)))) (by rw [rd_ff, if_pos ⟨rfl, rfl⟩]) (fun j j0 j1 => ?_) (fun j j0 j1 => ?_)
      · rw [rd_if, if_neg (by omega), g3 j j0]
        unfold cuI_
        by_cases z : j < f
        · rw [if_pos z, if_neg (by omega)]
        · rw [if_neg z, if_pos (by omega)]
      · obtain ⟨x1, x2, x3⟩ := g2 j j0 j1
        refine ⟨?_, ?_, ?_⟩
        · rw [rd_if, if_neg (by omega), fr_ri f2 (by omega)]; exact x1
        · rw [rd_if, if_neg (by omega), fr_ri f2 (by omega)]; exact x2
        · rw [rd_if, if_neg (by omega), fr_ri f2 (by omega)]; exact x3
    · rintro _ rfl
      refine ih (by omega) (by omega) _ (fr_ui f2 rfl) (fun j j0 => ?_)
      rw [rd_ii]
      by_cases z : j = i
      · rw [if_pos ⟨rfl, by rw [z]⟩, if_pos (by omega), g3 (i + m) (by omega), if_neg (by omega), z]
      · rw [if_neg (by omega), g3 j j0]
        by_cases y : f ≤ j ∧ j < i
        · rw [if_pos y, if_pos (by omega)]
        · rw [if_neg y, if_neg (by omega)]
  have L1 : ∀ i : Int, i ≤ n - m → f ≤ i → ∀ M1, fr_ (po_ p) M M1 → nn_rf M1 p 5 = n → (∀ j, nn_ri M1 (p + 2) j = nn_ri M (p + 2) j) → (∀ j, 0 ≤ j → (nn_ri M1 (p + 3) j = if f ≤ j ∧ j < i then nn_ri M (p + 3) (j + m) else nn_ri M (p + 3) j) ∧ (nn_ri M1 (p + 4) j = if f ≤ j ∧ j < i then nn_ri M (p + 4) (j + m) else nn_ri M (p + 4) j) ∧ (nn_ri M1 (p + 5) j = if f ≤ j ∧ j < i then nn_ri M (p + 5) (j + m) else nn_ri M (p + 5) j)) → nk_Pile_takeOut_2 p f m i M1 R := by
    refine lp_up (fun i hi ih h0 M1 f1 e1 g1 g2 => ?_)
    refine ng_Pile_takeOut_2 _ _ _ _ _ _ ?_
    rw [e1, mm_w_id (x := n - m) (by omega), mm_w_id (x := i + m) (by omega), mm_w_id (x := i + 1) (by omega)]
    refine ⟨fun c => ?_, fun c => ?_⟩
    · have hi' : i = n - m := by omega
      refine L2 M1 f1 e1 g1 (fun j j0 j1 => ?_) f (by omega) (Int.le_refl _) M1 (fr_refl M1) (fun j j0 => by rw [if_neg (by omega), g1])
      obtain ⟨x1, x2, x3⟩ := g2 j j0
      unfold cuI_
      by_cases z : j < f
      · rw [if_neg (by omega)] at x1 x2 x3
        rw [if_pos z, if_pos z, if_pos z]
        exact ⟨x1, x2, x3⟩
      · rw [if_pos (by omega)] at x1 x2 x3
        rw [if_neg z, if_neg z, if_neg z]
        exact ⟨x1, x2, x3⟩
    · have bi : 0 ≤ i ∧ i < 24 := by omega
      have bm : 0 ≤ i + m ∧ i + m < 24 := by omega
      refine ⟨bm, bi, ?_⟩
      intro M25 e25
      refine ⟨bm, bi, ?_⟩
      intro M39 e39
      refine ⟨bm, bi, ?_⟩
      intro M53 e53
      have l3 : ∀ j, nn_ri M53 (p + 3) j = if j.toNat = i.toNat then nn_ri M1 (p + 3) (i + m) else nn_ri M1 (p + 3) j := by
        intro j
        simp [e53, e39, e25, rd_ii]
      have l4 : ∀ j, nn_ri M53 (p + 4) j = if j.toNat = i.toNat then nn_ri M1 (p + 4) (i + m) else nn_ri M1 (p + 4) j := by
        intro j
        simp [e53, e39, e25, rd_ii]
      have l5 : ∀ j, nn_ri M53 (p + 5) j = if j.toNat = i.toNat then nn_ri M1 (p + 5) (i + m) else nn_ri M1 (p + 5) j := by
        intro j
        simp [e53, e39, e25, rd_ii]
      refine ih c (by omega) M53 ?_ ?_ ?_ ?_
      · rw [e53, e39, e25]
        exact fr_ui (fr_ui (fr_ui f1 (Or.inr (Or.inr (Or.inl rfl)))) (Or.inr (Or.inr (Or.inr (Or.inl rfl))))) (Or.inr (Or.inr (Or.inr (Or.inr rfl))))
      · rw [e53, rd_fi, if_neg (by omega), e39, rd_fi, if_neg (by omega), e25, rd_fi, if_neg (by omega), e1]
      · intro j
        rw [e53, rd_ii, if_neg (by omega), e39, rd_ii, if_neg (by omega), e25, rd_ii, if_neg (by omega), g1]
      · intro j j0
        exact ⟨cu_step h0 hm j0 (by omega) (l3 j) (fun k k0 => (g2 k k0).1), cu_step h0 hm j0 (by omega) (l4 j) (fun k k0 => (g2 k k0).2.1), cu_step h0 hm j0 (by omega) (l5 j) (fun k k0 => (g2 k k0).2.2)⟩
  exact L1 f (by omega) (Int.le_refl _) M (fr_refl M) hn (fun _ => rfl) (fun j j0 => by rw [if_neg (by omega), if_neg (by omega), if_neg (by omega)]; exact ⟨rfl, rfl, rfl⟩)
/-- the numbers from s on, ahead of e, as a set -/
def sg_ (E : Int → Int) (s e : Int) (x : Int) : Prop := ∃ i, s ≤ i ∧ i < e ∧ E i = x
def so_ (E : Int → Int) (s e : Int) : Prop := ∀ i j, s ≤ i → i < j → j < e → E i ≤ E j
/-- one put in ahead of those that are greater -/
theorem so_ins {E F : Int → Int} {s i a x : Int} (ha : s ≤ a ∧ a ≤ i) (h : so_ E s i) (hlo : ∀ j, s ≤ j → j < a → E j ≤ x) (hhi : ∀ j, a ≤ j → j < i → x < E j) (hF : ∀ j, s ≤ j → j ≤ i → F j = if j < a then E j else if j = a then x else E (j - 1)) : so_ F s (i + 1) ∧ ∀ y, sg_ F s (i + 1) y ↔ (y = x ∨ sg_ E s i y) := by
  refine ⟨fun j k j0 j1 j2 => ?_, fun y => ⟨?_, ?_⟩⟩
  · rw [hF j j0 (by omega), hF k (by omega) (by omega)]
    by_cases q : k < a
    · rw [if_pos q, if_pos (by omega)]; exact h j k j0 j1 (by omega)
    · rw [if_neg q]
      by_cases r : k = a
      · rw [if_pos r, if_pos (by omega)]; exact hlo j j0 (by omega)
      · rw [if_neg r]
        by_cases s : j < a
        · rw [if_pos s]
          have := hlo j j0 s
          have := hhi (k - 1) (by omega) (by omega)
          omega
        · rw [if_neg s]
          by_cases t : j = a
          · rw [if_pos t]; exact Int.le_of_lt (hhi (k - 1) (by omega) (by omega))
          · rw [if_neg t]; exact h (j - 1) (k - 1) (by omega) (by omega) (by omega)
  · rintro ⟨j, j0, j1, j2⟩
    rw [hF j j0 (by omega)] at j2
    by_cases q : j < a
    · rw [if_pos q] at j2; exact Or.inr ⟨j, j0, by omega, j2⟩
    · rw [if_neg q] at j2
      by_cases r : j = a
      · rw [if_pos r] at j2; exact Or.inl j2.symm
      · rw [if_neg r] at j2; exact Or.inr ⟨j - 1, by omega, by omega, j2⟩
  · rintro (rfl | ⟨j, j0, j1, j2⟩)
    · exact ⟨a, ha.1, by omega, by rw [hF a ha.1 ha.2, if_neg (by omega), if_pos rfl]⟩
    · by_cases q : j < a
      · exact ⟨j, j0, by omega, by rw [hF j j0 (by omega), if_pos q, j2]⟩
      · exact ⟨j + 1, by omega, by omega, by rw [hF (j + 1) (by omega) (by omega), if_neg (by omega), if_neg (by omega), show j + 1 - 1 = j by omega, j2]⟩
def pe_ (p : Nat) (s e : Int) (o b : Nat) : Prop := o = p + 1 ∧ s ≤ (b : Int) ∧ (b : Int) < e
theorem ct_P_sort {p : Nat} {r s e : Int} {M : mm_M} {R : mm_M → Prop} (hr : 0 ≤ r ∧ r < 24) (hs : nn_ri M (p + 2) r = s) (he : nn_ri M (p + 2) (r + 1) = e) (h0 : 0 ≤ s) (hse : s ≤ e) (h1 : e ≤ 144)
    (h : ∀ M', fr_ (pe_ p s e) M M' → so_ (nn_ri M' (p + 1)) s e → (∀ x, sg_ (nn_ri M' (p + 1)) s e x ↔ sg_ (nn_ri M (p + 1)) s e x) → R M') : nr_Pile_sort p r M R := by
  refine ng_Pile_sort _ _ _ _ ⟨by omega, ?_⟩
  rintro _ rfl
  rw [hs]
  rw [mm_w_id (x := s + 1) (by omega)]
  have L : ∀ i : Int, i ≤ max e (s + 1) → s + 1 ≤ i → ∀ M1, fr_ (pe_ p s e) M M1 → so_ (nn_ri M1 (p + 1)) s i → (∀ x, sg_ (nn_ri M1 (p + 1)) s i x ↔ sg_ (nn_ri M (p + 1)) s i x) → (∀ j, i ≤ j → nn_ri M1 (p + 1) j = nn_ri M (p + 1) j) → nk_Pile_sort_11 p r s i M1 R := by
    refine lp_up (fun i hi ih hi0 M1 f1 s1 m1 g1 => ?_)
    have e1 : nn_ri M1 (p + 2) (r + 1) = e := (fr_ri f1 (fun z => by have := z.1; omega)).trans he
    refine ng_Pile_sort_11 _ _ _ _ _ _ ?_
    rw [mm_w_id (x := r + 1) (by omega), e1]
    refine ⟨by omega, fun c => ?_, fun c => ⟨by omega, ?_⟩⟩
    · by_cases z : s < e
      · have : i = e := by omega
        subst this
        exact h M1 f1 s1 m1
      · have : e = s := by omega
        subst this
        refine h M1 f1 (fun a b a0 a1 a2 => by omega) (fun x => ⟨fun ⟨a, a0, a1, _⟩ => by omega, fun ⟨a, a0, a1, _⟩ => by omega⟩)
    -- the inner loop
    have L2 : ∀ a : Int, s ≤ a → a ≤ i → ∀ M2, fr_ (pe_ p s e) M1 M2 → (∀ j, s ≤ j → j < a → nn_ri M2 (p + 1) j = nn_ri M1 (p + 1) j) → (∀ j, a ≤ j → j < i → nn_ri M2 (p + 1) (j + 1) = nn_ri M1 (p + 1) j ∧ nn_ri M1 (p + 1) i < nn_ri M1 (p + 1) j) → (∀ j, i < j → nn_ri M2 (p + 1) j = nn_ri M1 (p + 1) j) → nk_Pile_sort_34 p r s i (nn_ri M1 (p + 1) i) a M2 R := by
      refine lp_dn (fun a ha iha hai M2 f2 lo hi2 up => ?_)
      have ba : 0 ≤ a ∧ a < 144 := by omega
      have wa : mm_w (a - 1) = a - 1 := mm_w_id (by omega)
      refine ng_Pile_sort_34 _ _ _ _ _ _ _ _ ⟨fun _ => ba, fun z => by rw [wa]; omega, fun _ => ba, fun z => by rw [wa]; omega, fun _ => ba, fun q => ?_, fun q => ?_⟩
      · rintro _ rfl
        have q2 : ∀ j, s ≤ j → j < a → nn_ri M1 (p + 1) j ≤ nn_ri M1 (p + 1) i := by
          intro j j0 j1
          rcases q with q | q
          · omega
          · rw [wa, lcmp_le, lo (a - 1) (by omega) (by omega)] at q
            by_cases z : j = a - 1
            · rw [z]; exact q
            · exact Int.le_trans (s1 j (a - 1) j0 (by omega) (by omega)) q
        have hF : ∀ j, s ≤ j → j ≤ i → nn_ri (nn_ui M2 (p + 1) a (nn_ri M1 (p + 1) i)) (p + 1) j = if j < a then nn_ri M1 (p + 1) j else if j = a then nn_ri M1 (p + 1) i else nn_ri M1 (p + 1) (j - 1) := by
          intro j j0 j1
          rw [rd_ii]
          by_cases z : j = a
          · rw [if_pos ⟨rfl, by rw [z]⟩, if_neg (by omega), if_pos z]
          · rw [if_neg (by omega), if_neg (c := j = a) z]
            by_cases y : j < a
            · rw [if_pos y, lo j j0 y]
            · rw [if_neg y]
              have := (hi2 (j - 1) (by omega) (by omega)).1
              rw [show j - 1 + 1 = j by omega] at this
              exact this
        obtain ⟨k1, k2⟩ := so_ins ⟨ha, hai⟩ s1 q2 (fun j j0 j1 => (hi2 j j0 j1).2) hF
        rw [mm_w_id (x := i + 1) (by omega)]
        refine ih (by omega) (by omega) _ (fr_ui (fr_trans f1 f2) ⟨rfl, by omega, by omega⟩) k1 (fun x => ?_) (fun j j0 => ?_)
        · rw [k2 x, m1 x]
          constructor
          · rintro (rfl | ⟨j, j0, j1, j2⟩)
            · exact ⟨i, by omega, by omega, (g1 i (Int.le_refl _)).symm⟩
            · exact ⟨j, j0, by omega, j2⟩
          · rintro ⟨j, j0, j1, j2⟩
            by_cases z : j = i
            · rw [z, ← g1 i (Int.le_refl _)] at j2
              exact Or.inl j2.symm
            · exact Or.inr ⟨j, j0, by omega, j2⟩
        · rw [rd_ii, if_neg (by omega), up j (by omega)]
          exact g1 j (by omega)
      · rintro _ rfl
        have q2 := q.2
        rw [wa, lcmp_gt, lo (a - 1) (by omega) (by omega)] at q2
        rw [wa, mm_w_id (x := a + (-1)) (by omega), show a + (-1) = a - 1 by omega]
        refine iha q.1 (by omega) _ (fr_ui f2 ⟨rfl, by omega, by omega⟩) (fun j j0 j1 => ?_) (fun j j0 j1 => ?_) (fun j j0 => ?_)
        · rw [rd_ii, if_neg (by omega)]
          exact lo j j0 (by omega)
        · rw [rd_ii]
          by_cases z : j + 1 = a
          · rw [if_pos ⟨rfl, by rw [z]⟩, lo (a - 1) (by omega) (by omega), show j = a - 1 by omega]
            exact ⟨rfl, q2⟩
          · rw [if_neg (by omega)]
            exact hi2 j (by omega) j1
        · rw [rd_ii, if_neg (by omega)]
          exact up j j0
    exact L2 i (by omega) (Int.le_refl _) M1 (fr_refl M1) (fun _ _ _ => rfl) (fun j j0 j1 => by omega) (fun _ _ => rfl)
  exact L (s + 1) (by omega) (Int.le_refl _) M (fr_refl M) (fun a b a0 a1 a2 => by omega) (fun _ => Iff.rfl) (fun _ _ => rfl)
