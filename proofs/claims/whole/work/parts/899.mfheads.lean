/-! the Model: the heads of an index' runs move up by one at a flush -/
theorem ct_M_flHeads {b x n : Int} {M : mm_M} {R : mm_M → Prop} {g : Int → ab_P} (hx : 0 ≤ x ∧ x + 855 ≤ 32844) (kh : hM_ M x n g) (hn : n ≤ 22)
    (h : ∀ M', fr_ (fun o c => o = 408 ∧ ((c : Int) = x + 5 ∨ (x + 146 ≤ (c : Int) ∧ (c : Int) < x + 215))) M M' → hM_ M' x (n + 1) (inP_ 0 (0, nn_ri M 408 (x + 143), nn_ri M 408 (x + 144), nn_ri M 408 (x + 145), fun _ => False) g) → nk_M_flushesIndex_159 b x 0 M' R) : nk_M_flushesIndex_112 b x (x + 143 + 3 * n - 1) M R := by
  obtain ⟨k1, n0, n23, k4⟩ := kh
  have L : ∀ a : Int, x + 142 ≤ a → a ≤ x + 143 + 3 * n - 1 → ∀ M1, fr_ (fun o c => o = 408 ∧ (x + 146 ≤ (c : Int) ∧ (c : Int) < x + 215)) M M1 → (∀ c, x + 143 ≤ c → nn_ri M1 408 c = if a + 3 < c ∧ c < x + 146 + 3 * n then nn_ri M 408 (c - 3) else nn_ri M 408 c) → nk_M_flushesIndex_112 b x a M1 R := by
    refine lp_dn (fun a ha ih an M1 f1 g1 => ?_)
    have r5 : nn_ri M1 408 (x + 5) = n := (fr_ri f1 (fun z => by have := z.2; omega)).trans k1
    refine ng_M_flushesIndex_112 _ _ _ _ _ ?_
    rw [nf_head ⟨by omega, by omega⟩ ⟨by omega, by omega⟩, mm_w_id (x := x + 5) (by omega), r5, mm_w_id (x := n + 1) (by omega), mm_w_id (x := a + 3) (by omega), mm_w_id (x := a + -1) (by omega), show a + -1 = a - 1 by omega]
    refine ⟨fun c => ⟨by omega, by omega, ?_⟩, fun c => ⟨by omega, by omega, ?_⟩⟩
    · intro M2 eM
      rw [eM]
      have f2 : fr_ (fun o c => o = 408 ∧ ((c : Int) = x + 5 ∨ (x + 146 ≤ (c : Int) ∧ (c : Int) < x + 215))) M (nn_ui M1 408 (x + 5) (n + 1)) := fr_ui (fr_mono f1 (fun o c z => ⟨z.1, Or.inr z.2⟩)) ⟨rfl, by omega⟩
      have rd : ∀ c : Int, x + 143 ≤ c → nn_ri (nn_ui M1 408 (x + 5) (n + 1)) 408 c = if a + 3 < c ∧ c < x + 146 + 3 * n then nn_ri M 408 (c - 3) else nn_ri M 408 c := fun c hc => by
        rw [rd_ii, if_neg (by omega)]; exact g1 c hc
      refine h _ f2 ⟨by rw [rd_ii, if_pos ⟨rfl, rfl⟩], by omega, by omega, fun r r0 r1 => ?_⟩
      unfold inP_
      rw [if_neg (by omega), rd _ (by omega), rd _ (by omega), rd _ (by omega)]
      by_cases z : r = 0
      · rw [if_pos z, z, if_neg (by omega), if_neg (by omega), if_neg (by omega)]
        exact ⟨by rw [show x + 143 + 3 * 0 = x + 143 by omega], by rw [show x + 143 + 3 * 0 + 1 = x + 144 by omega], by rw [show x + 143 + 3 * 0 + 2 = x + 145 by omega]⟩
      · obtain ⟨y1, y2, y3⟩ := k4 (r - 1) (by omega) (by omega)
        rw [if_neg z, if_pos (by omega), if_pos (by omega), if_pos (by omega), show x + 143 + 3 * r - 3 = x + 143 + 3 * (r - 1) by omega, show x + 143 + 3 * r + 1 - 3 = x + 143 + 3 * (r - 1) + 1 by omega, show x + 143 + 3 * r + 2 - 3 = x + 143 + 3 * (r - 1) + 2 by omega]
        exact ⟨y1, y2, y3⟩
    · intro M2 eM
      rw [eM]
      refine ih (by omega) (by omega) _ (fr_ui f1 ⟨rfl, by omega⟩) (fun c' hc => ?_)
      rw [rd_ii]
      by_cases z : c' = a + 3
      · rw [if_pos ⟨rfl, by rw [z]⟩, z, if_pos (by omega), g1 a (by omega), if_neg (by omega), show a + 3 - 3 = a by omega]
      · rw [if_neg (by omega), g1 c' hc]
        by_cases w : a + 3 < c' ∧ c' < x + 146 + 3 * n
        · rw [if_pos w, if_pos (by omega)]
        · rw [if_neg w, if_neg (by omega)]
  refine L (x + 143 + 3 * n - 1) (by omega) (Int.le_refl _) M (fr_refl M) (fun c hc => ?_)
  rw [if_neg (by omega)]
