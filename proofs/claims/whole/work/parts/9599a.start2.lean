/-! behind both constructors -/
theorem st_x {f : Nat → Nat → Int} {M1 M3 : mm_M} {W1 W2 : List (Nat × Nat × Int)} (h1 : xr_ 0 f (406, W1) M1) (c1 : (chS_ W1 2 && (chS_ W1 161 && (chT_ W1 320 && (chO_ W1 1 406 && (List.range 3).all (fun b => decide (xlk_ W1 406 b = 0)))))) = true) (h3 : xr_ 406 M1.2 (410, W2) M3) (c3 : (chO_ W2 407 4 && (decide (xlk_ W2 408 3 = 4 ∧ xlk_ W2 408 4 = 2 ∧ xlk_ W2 408 9 = -1 ∧ xlk_ W2 408 22 = -1) && W2.all (fun w => decide (w.1 = 407 ∨ (w.1 = 408 ∧ (w.2.1 = 3 ∨ w.2.1 = 4 ∨ w.2.1 = 9 ∨ w.2.1 = 22)))))) = true) :
    (nn_L M3 ∧ M3.1 = 410) ∧ (cZ_ M3 2 Z0_ ∧ sl_ M3 320 ∧ sl_ M3 164 ∧ s0_ M3 161) ∧ mY_ 0 M3 0 Z0_ ∧ (∀ k : Int, 0 ≤ k → k < 3 → nn_rr M3 406 k = 0 ∧ nn_ri M3 409 k = 0) ∧ ∀ o b, 4999 < o → M3.2 o b = f o b := by
  obtain ⟨a1, c1⟩ := Bool.and_eq_true_iff.mp c1
  obtain ⟨a2, c1⟩ := Bool.and_eq_true_iff.mp c1
  obtain ⟨a3, c1⟩ := Bool.and_eq_true_iff.mp c1
  obtain ⟨a4, a5⟩ := Bool.and_eq_true_iff.mp c1
  obtain ⟨b1, c3⟩ := Bool.and_eq_true_iff.mp c3
  obtain ⟨b2, b3⟩ := Bool.and_eq_true_iff.mp c3
  obtain ⟨d3, d4, d9, d22⟩ := of_decide_eq_true b2
  have hW : ∀ w, w ∈ W2 → w.1 = 407 ∨ (w.1 = 408 ∧ (w.2.1 = 3 ∨ w.2.1 = 4 ∨ w.2.1 = 9 ∨ w.2.1 = 22)) := fun w hw => of_decide_eq_true (List.all_eq_true.mp b3 w hw)
  have u : fr_ (fun o _ => 406 < o ∧ o ≤ 410) M1 M3 := fun o b q => (h3.2.2.2 o b).trans (if_neg q)
  have out : ∀ o b, ¬ (406 < o ∧ o ≤ 410) → M3.2 o b = M1.2 o b := fun o b q => u o b q
  have k2 : cZ_ M3 2 Z0_ := cZ_far u (fun o b z z2 => by omega) (cZ_x h1 ⟨by omega, by omega⟩ a1)
  have k161 : cZ_ M3 161 Z0_ := cZ_far u (fun o b z z2 => by omega) (cZ_x h1 ⟨by omega, by omega⟩ a2)
  have s320 : sl_ M3 320 := sl_fr u (fun b => by omega) (sl_x h1 ⟨by omega, by omega⟩ a3)
  have g : ∀ o, o ≤ 410 → (∀ b, nn_off (mm_kd o).1 b ≠ 0 → M3.2 o b = ((o + nn_off (mm_kd o).1 b : Nat) : Int)) ∧ ((mm_kd o).1 = 42 → ∀ b, b < 24 → M3.2 o b = ((o + 3 + 3 * b : Nat) : Int)) := by
    intro o ho
    by_cases o0 : o = 0
    · rw [o0]
      exact ⟨fun b hb => absurd rfl hb, fun w => absurd w (by decide)⟩
    · by_cases o1 : o < 407
      · obtain ⟨p1, p2⟩ := O_x h1 (lo := 1) (k := 406) ⟨by omega, by omega⟩ a4 (o := o) (by omega) (by omega)
        exact ⟨fun b hb => (out o b (by omega)).trans (p1 b hb), fun w b hb => (out o b (by omega)).trans (p2 w b hb)⟩
      · exact O_x h3 (lo := 407) (k := 4) ⟨by omega, by omega⟩ b1 (o := o) (by omega) (by omega)
  have i406 : ∀ b, b < 3 → M3.2 406 b = 0 := fun b hb => (out 406 b (by omega)).trans ((rd_x h1 ⟨by omega, by omega⟩).trans (of_decide_eq_true (rg_all a5 hb)))
  have e1 : M3.1 = 410 := h3.1
  refine ⟨⟨⟨Or.inl e1, fun o b ho hb => (g o (by omega)).1 b hb, fun o b ho w hb => ⟨b, hb, (g o (by omega)).2 w b hb⟩, fun b hb => Or.inl (i406 b hb)⟩, e1⟩, ⟨k2, s320, k161.1.1.2.2.2.1, s0_cZ k161⟩, mY_x (Int.le_refl _) (fun b b0 => ?_), fun k k0 k1 => ⟨?_, ?_⟩, fun o b ho => (out o b (by omega)).trans ((h1.2.2.2 o b).trans (if_neg (by omega)))⟩
  · show M3.2 408 b.toNat = sc0_ b
    rw [rd_x h3 ⟨by omega, by omega⟩]
    unfold sc0_
    by_cases z3 : b = 3
    · rw [if_pos z3, z3]; exact d3
    · rw [if_neg z3]
      by_cases z4 : b = 4
      · rw [if_pos z4, z4]; exact d4
      · rw [if_neg z4]
        by_cases z9 : b = 9
        · rw [if_pos z9, z9]; exact d9
        · rw [if_neg z9]
          by_cases z22 : b = 22
          · rw [if_pos z22, z22]; exact d22
          · rw [if_neg z22]
            exact xlk_nob (fun w hw e => by have := hW w hw; omega)
  · show (M3.2 406 k.toNat).toNat = 0
    rw [i406 _ (by omega)]
    rfl
  · show M3.2 409 k.toNat = 0
    rw [rd_x h3 ⟨by omega, by omega⟩]
    exact xlk_no (fun w hw => by have := hW w hw; omega)
theorem xr_0 {f : Nat → Nat → Int} {n : Nat} {M : mm_M} (h : M.1 = n) (hf : M.2 = f) : xr_ n f (n + 1, []) (mm_nw M) := by
  have k : xr_ n f (n, []) M := ⟨h, Nat.le_refl _, fun w hw => absurd hw List.not_mem_nil, fun o b => by rw [if_neg (by omega), hf]⟩
  exact xr_nw k
