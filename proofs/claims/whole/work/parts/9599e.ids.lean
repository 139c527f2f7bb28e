/-! ids kept: define, mend, drop, what touches none -/
theorem jI_setX {i : Int} {Y : ab_X} {sc f : Int → Int} {Z : ab_Z} (h : ∀ p, alX_ Y p → alZ_ Z p) (j : jI_ Z) : jI_ (sc, setX_ i Y (zT_ Z), zC_ Z, f) := by
  have sub : ∀ p, alZ_ (sc, setX_ i Y (zT_ Z), zC_ Z, f) p → alZ_ Z p := by
    intro p hp
    rcases hp with y | y | ⟨q, q0, q1, y⟩
    · exact Or.inl y
    · exact Or.inr (Or.inl y)
    · have y : alX_ (if q = i then Y else aTX_ (zT_ Z) q) p := y
      by_cases z : q = i
      · rw [if_pos z] at y; exact h p y
      · rw [if_neg z] at y; exact Or.inr (Or.inr ⟨q, q0, q1, y⟩)
  exact ⟨fun p hp => j.1 p (sub p hp), fun p p' hp hp' => j.2 p p' (sub p hp) (sub p' hp')⟩
theorem jI_sc {sc f : Int → Int} {Z : ab_Z} (j : jI_ Z) : jI_ (sc, zT_ Z, zC_ Z, f) := j
theorem jI_men {i v : Int} {Z : ab_Z} (hi : 0 ≤ i ∧ i < 4) (j : jI_ Z) : jI_ (men_ i v Z) := jI_setX (fun p y => Or.inr (Or.inr ⟨i, hi.1, hi.2, y⟩)) j
theorem jI_dro {i : Int} {Z : ab_Z} (j : jI_ Z) : jI_ (dro_ i Z) := jI_setX (fun p y => absurd rfl y.1) j
theorem jI_dfn {Z : ab_Z} (j : jI_ Z) : jI_ (dfn_ Z) := by
  unfold dfn_
  by_cases h4 : fi_ (aTX_ (zT_ Z)) = 4
  · rw [if_pos h4]; exact j
  · rw [if_neg h4]
    by_cases w : (rZ_ Z).1 ≠ 0
    · rw [if_pos w]; exact j
    · rw [if_neg w]
      exact jI_setX (fun p y => by
        obtain ⟨_, r, r0, r1, _⟩ := y
        have r1 : r < 0 := r1
        omega) j
theorem jI_end {n : Int} {Z : ab_Z} (j : jI_ Z) : jI_ (end_ n Z) := by
  unfold end_
  by_cases z : 0 ≤ n ∧ n ≤ zs_ Z 20
  · rw [if_pos z]; exact j
  · rw [if_neg z]; exact j
theorem jI_fed {a b c d e : Int} {Z : ab_Z} (j : jI_ Z) : jI_ (fed_ a b c d e Z) := by
  unfold fed_
  by_cases z : zs_ Z 20 + 20 ≤ 200
  · rw [if_pos z]; exact j
  · rw [if_neg z]; exact j
theorem jI_ask {i low high : Int} {Z : ab_Z} (j : jI_ Z) : jI_ (ask_ i low high Z) := j
