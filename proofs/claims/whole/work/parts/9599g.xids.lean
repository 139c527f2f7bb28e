/-! ids kept: a step on one index -/
theorem jI_setC {J : ab_X → Prop} {F : Int × Int → ab_X → (Int × Int) × ab_X} {i : Int} {Z : ab_Z} (hF : Fid_ J F) (hi : 0 ≤ i ∧ i < 4) (hJ : J (aTX_ (zT_ Z) i)) (j : jI_ Z) : jI_ (zs_ Z, setC_ i (F (aTc_ (zT_ Z)) (aTX_ (zT_ Z) i)) (zT_ Z), zC_ Z, zf_ Z) := by
  have h1 := gd_set (U := fun p => alC_ (zC_ Z) p ∨ alQ_ (aTn_ (zT_ Z)) (aTq_ (zT_ Z)) p) (Xs := aTX_ (zT_ Z)) hF hi hJ (gd_sub j (fun p hp => by
    rcases hp with (y | y) | y
    · exact Or.inl y
    · exact Or.inr (Or.inl y)
    · exact Or.inr (Or.inr y)) (Int.le_refl _) (Int.le_refl _))
  refine gd_sub h1 (fun p hp => ?_) (Int.le_refl _) (Int.le_refl _)
  rcases hp with y | y | y
  · exact Or.inl (Or.inl y)
  · exact Or.inl (Or.inr y)
  · exact Or.inr y
theorem jI_rpr {i : Int} {Z : ab_Z} (hi : ix_ i Z) (hn : 0 ≤ xn_ (aTX_ (zT_ Z) i)) (j : jI_ Z) : jI_ (rpr_ i Z) := jI_setC (F := rpX_ (aTs_ (zT_ Z)) (aTl_ (zT_ Z))) Fid_rpX hi.1 ⟨hi.2, hn⟩ j
