/-! the class's Index: the nearest, a beginning, a copy, what is told -/
def nq_ (vv : Int → Int) (value : Int) : Nat → Int × Int
  | 0 => (-1, 0)
  | k + 1 => if vv k ≠ -1 ∧ ((nq_ vv value k).1 = -1 ∨ max (vv k - value) (value - vv k) < (nq_ vv value k).2 ∨ (max (vv k - value) (value - vv k) = (nq_ vv value k).2 ∧ vv k < vv (nq_ vv value k).1)) then ((k : Int), max (vv k - value) (value - vv k)) else nq_ vv value k
theorem nq_in (vv : Int → Int) (value : Int) : ∀ k : Nat, (nq_ vv value k).1 = -1 ∨ (0 ≤ (nq_ vv value k).1 ∧ (nq_ vv value k).1 < k)
  | 0 => Or.inl rfl
  | k + 1 => by
    have := nq_in vv value k
    unfold nq_
    split
    · exact Or.inr ⟨by show (0 : Int) ≤ (k : Int); omega, by show (k : Int) < ((k + 1 : Nat) : Int); omega⟩
    · omega
theorem ct_I_nearest {x : Nat} {value : Int} {M : mm_M} {R : Int → mm_M → Prop} (hv : -2147483648 ≤ value ∧ value < 2147483648) (hvv : ∀ k, 0 ≤ k → k < 32 → -1 ≤ nn_ri M (x + 14) k ∧ nn_ri M (x + 14) k < 10000) (h : R (nq_ (nn_ri M (x + 14)) value 32).1 M) : nr_Index_nearest x value M R := by
  refine ng_Index_nearest _ _ _ _ ?_
  have L : ∀ i : Int, i ≤ 32 → 0 ≤ i → nk_Index_nearest_7 x value (nq_ (nn_ri M (x + 14)) value i.toNat).1 (nq_ (nn_ri M (x + 14)) value i.toNat).2 i M R := by
    refine lp_up (fun i hi ih h0 => ?_)
    have hin := nq_in (nn_ri M (x + 14)) value i.toNat
    refine ng_Index_nearest_7 _ _ _ _ _ _ _ ⟨fun c => ?_, fun c => ⟨by omega, ?_⟩⟩
    · have : i = 32 := by omega
      subst this
      exact h
    have hvi := hvv i h0 c
    rw [mm_w64_id (x := nn_ri M (x + 14) i - value) (by omega), mm_w64_id (x := -(nn_ri M (x + 14) i - value)) (by omega), mm_w_id (x := i + 1) (by omega)]
    have efar : (if 0 < nn_ri M (x + 14) i - value then nn_ri M (x + 14) i - value else -(nn_ri M (x + 14) i - value)) = max (nn_ri M (x + 14) i - value) (value - nn_ri M (x + 14) i) := by
      split <;> omega
    rw [efar]
    have nx := ih c (by omega)
    have e : nq_ (nn_ri M (x + 14)) value (i.toNat + 1) = if nn_ri M (x + 14) i ≠ -1 ∧ ((nq_ (nn_ri M (x + 14)) value i.toNat).1 = -1 ∨ max (nn_ri M (x + 14) i - value) (value - nn_ri M (x + 14) i) < (nq_ (nn_ri M (x + 14)) value i.toNat).2 ∨ (max (nn_ri M (x + 14) i - value) (value - nn_ri M (x + 14) i) = (nq_ (nn_ri M (x + 14)) value i.toNat).2 ∧ nn_ri M (x + 14) i < nn_ri M (x + 14) (nq_ (nn_ri M (x + 14)) value i.toNat).1)) then (i, max (nn_ri M (x + 14) i - value) (value - nn_ri M (x + 14) i)) else nq_ (nn_ri M (x + 14)) value i.toNat := by
      show (if nn_ri M (x + 14) (i.toNat : Int) ≠ -1 ∧ ((nq_ (nn_ri M (x + 14)) value i.toNat).1 = -1 ∨ max (nn_ri M (x + 14) (i.toNat : Int) - value) (value - nn_ri M (x + 14) (i.toNat : Int)) < (nq_ (nn_ri M (x + 14)) value i.toNat).2 ∨ (max (nn_ri M (x + 14) (i.toNat : Int) - value) (value - nn_ri M (x + 14) (i.toNat : Int)) = (nq_ (nn_ri M (x + 14)) value i.toNat).2 ∧ nn_ri M (x + 14) (i.toNat : Int) < nn_ri M (x + 14) (nq_ (nn_ri M (x + 14)) value i.toNat).1)) then ((i.toNat : Int), max (nn_ri M (x + 14) (i.toNat : Int) - value) (value - nn_ri M (x + 14) (i.toNat : Int))) else nq_ (nn_ri M (x + 14)) value i.toNat) = _
      rw [show ((i.toNat : Nat) : Int) = i by omega]
    rw [show (i + 1).toNat = i.toNat + 1 by omega, e] at nx
    generalize nq_ (nn_ri M (x + 14)) value i.toNat = w at nx hin ⊢
    generalize hfar : max (nn_ri M (x + 14) i - value) (value - nn_ri M (x + 14) i) = far at nx ⊢
    intro y6 ey6
    rw [ey6]
    clear ey6 y6
    have l1 : mm_lcmp far w.2 < 0 ↔ far < w.2 := by
      unfold mm_lcmp
      by_cases z : far < w.2
      · rw [if_pos z]; exact ⟨fun _ => z, fun _ => by decide⟩
      · rw [if_neg z]
        by_cases y : w.2 < far
        · rw [if_pos y]; exact ⟨fun q => absurd q (by decide), fun q => absurd q z⟩
        · rw [if_neg y]; exact ⟨fun q => absurd q (by decide), fun q => absurd q z⟩
    have l2 : (0 : Int) ≤ mm_lcmp far w.2 ↔ w.2 ≤ far := by rw [← Int.not_lt, l1, Int.not_lt]
    have l3 := lcmp_eq far w.2
    have bw : w.1 ≠ -1 → 0 ≤ w.1 ∧ w.1 < 32 := fun q => by
      have := hin.resolve_left q
      omega
    clear hin ih hvv
    rw [ne_eq, l1, l2, l3]
    refine ⟨fun _ => ⟨h0, c⟩, fun _ => ⟨h0, c⟩, fun _ => ⟨h0, c⟩, fun _ => ⟨h0, c⟩, fun q => bw q.1, fun _ => ⟨h0, c⟩, fun _ => ⟨h0, c⟩, fun q => ?_, fun q => ?_⟩
    · have hn : ¬ (nn_ri M (x + 14) i ≠ -1 ∧ (w.1 = -1 ∨ far < w.2 ∨ (far = w.2 ∧ nn_ri M (x + 14) i < nn_ri M (x + 14) w.1))) := by
        rintro ⟨h1, h2⟩
        rcases q with ⟨q1, q2⟩ | ⟨q1, ⟨q2, q3⟩ | ⟨q2, q3 | q3 | q3⟩⟩
        · exact h1 q2
        · exact h1 q3
        · rcases h2 with h2 | h2 | ⟨h2, h3⟩
          · exact q1 h2
          · exact absurd h2 (Int.not_lt.mpr q2)
          · exact q3 (l3.mpr h2)
        · rcases h2 with h2 | h2 | ⟨h2, h3⟩
          · exact q1 h2
          · exact absurd h2 (Int.not_lt.mpr q2)
          · exact absurd h3 (Int.not_lt.mpr q3)
        · exact h1 q3
      rw [if_neg hn] at nx
      exact nx
    · have hp : nn_ri M (x + 14) i ≠ -1 ∧ (w.1 = -1 ∨ far < w.2 ∨ (far = w.2 ∧ nn_ri M (x + 14) i < nn_ri M (x + 14) w.1)) := by
        rcases q with ⟨q1, q2⟩ | ⟨q1, ⟨q2, q3⟩ | ⟨q2, q3, q4, q5⟩⟩
        · exact ⟨q2, Or.inl q1⟩
        · exact ⟨q3, Or.inr (Or.inl q2)⟩
        · exact ⟨q5, Or.inr (Or.inr ⟨q3, q4⟩)⟩
      rw [if_pos hp] at nx
      exact nx
  exact L 0 (by omega) (Int.le_refl _)
