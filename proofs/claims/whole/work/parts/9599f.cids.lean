/-! ids kept: cursors -/
theorem jI_setD {c : Int} {D : ab_D} {Z : ab_Z} (h : ∀ k, D.1.1 ≠ 0 → 0 ≤ k → k < D.1.2.2.2.2.1 → alZ_ Z (D.1.2.2.2.2.2 k, D.2 k)) (j : jI_ Z) : jI_ (setD_ c D Z) := by
  have sub : ∀ p, alZ_ (setD_ c D Z) p → alZ_ Z p := by
    intro p hp
    rcases hp with ⟨q, k, q0, y1, y2, y3⟩ | y | y
    · have e : zC_ (setD_ c D Z) q = (if q = c then D else zC_ Z q) := rfl
      rw [e] at y1 y2 y3
      by_cases z : q = c
      · rw [if_pos z] at y1 y2 y3
        rw [y3]
        exact h k y1 y2.1 y2.2
      · rw [if_neg z] at y1 y2 y3
        exact Or.inl ⟨q, k, q0, y1, y2, y3⟩
    · exact Or.inr (Or.inl y)
    · exact Or.inr (Or.inr y)
  exact ⟨fun p hp => j.1 p (sub p hp), fun p p' hp hp' => j.2 p p' (sub p hp) (sub p' hp')⟩
theorem jI_nxt {c : Int} {Z : ab_Z} (hc : 0 ≤ c ∧ c < 3) (j : jI_ Z) : jI_ (nxt_ c Z) := jI_setD (fun k y0 y1 y2 => Or.inl ⟨c, k, hc, y0, ⟨y1, y2⟩, rfl⟩) j
theorem jI_clo {c : Int} {Z : ab_Z} (j : jI_ Z) : jI_ (clo_ c Z) := jI_setD (fun k y0 _ _ => absurd rfl y0) j
theorem jI_opn {i low high : Int} {Z : ab_Z} (hi : ix_ i Z) (j : jI_ Z) : jI_ (opn_ i low high Z) := by
  refine jI_setD (fun k _ y1 y2 => ?_) j
  have y2 : k < aTn_ (zT_ Z) + xn_ (aTX_ (zT_ Z) i) := y2
  show alZ_ Z (if k < aTn_ (zT_ Z) then (aTq_ (zT_ Z) k).1 else (xg_ (aTX_ (zT_ Z) i) (k - aTn_ (zT_ Z))).1, if k < aTn_ (zT_ Z) then (aTq_ (zT_ Z) k).2.1 else (xg_ (aTX_ (zT_ Z) i) (k - aTn_ (zT_ Z))).2.1)
  by_cases z : k < aTn_ (zT_ Z)
  · rw [if_pos z, if_pos z]
    exact Or.inr (Or.inl ⟨k, y1, z, rfl⟩)
  · rw [if_neg z, if_neg z]
    exact Or.inr (Or.inr ⟨i, hi.1.1, hi.1.2, hi.2, k - aTn_ (zT_ Z), by omega, by omega, rfl⟩)
