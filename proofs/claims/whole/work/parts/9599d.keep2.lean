/-! what is so of a new index -/
theorem jX_nX {st since lvb sb nb q m a : Int} {mem lat : ab_V} {u : ab_U} (ha : 0 ≤ a ∧ a ≤ 3) (ub : ub_ u a) (hst : 0 ≤ st) (hs : 0 ≤ since) (hsb : 0 ≤ sb) (hnb : 0 ≤ nb) (hq : q = 0 ∨ q = 1) (hm : m = 0 ∨ m = 1) : jX_ st since lvb sb nb mem lat (nX_ st u q m) := by
  intro _
  have hh : (xh_ (nX_ st u q m) = 1 ∧ xl_ (nX_ st u q m) = 0) ∨ (xh_ (nX_ st u q m) = 2 ∧ xl_ (nX_ st u q m) = 32) := by
    unfold nX_
    by_cases z : st = 0
    · exact Or.inr ⟨if_pos z, if_pos z⟩
    · exact Or.inl ⟨if_neg z, if_neg z⟩
  have e0 : cz_ (xA_ (nX_ st u q m)) = 0 := cz_0
  have es : sz_ (nX_ st u q m) = 0 := by
    unfold sz_
    rw [e0]
    rfl
  have em : ∀ y, mu_ (nX_ st u q m) y = 0 := by
    intro y
    show id1_ False + 0 = 0
    unfold id1_
    rw [if_neg (fun z => z)]
    rfl
  refine ⟨⟨?_, hq, hm, ⟨hst, Int.le_refl _⟩, fun w => ?_, fun w => ?_⟩, ⟨rb_ub ha ub, fun b b0 b1 => ub.2.2.2 b b0 (by have := ub.1; have b1 : b < u.2.2 := b1; omega)⟩, ⟨⟨Int.le_refl _, ?_⟩, fun r r0 r1 => by have r1 : r < 0 := r1; omega⟩, fun y hy => ?_, fun y hy => hy.elim, ⟨fun _ => ⟨fun y hy => hy, rfl⟩, fun w => ⟨?_, fun y hy => hy.elim⟩⟩, fun y => ?_, ?_, ?_⟩
  · omega
  · omega
  · omega
  · show (0 : Int) ≤ nb + xh_ (nX_ st u q m)
    omega
  · rcases hy with y1 | y1 | ⟨r, r0, r1, _⟩
    · exact y1.elim
    · exact y1.elim
    · have r1 : r < 0 := r1
      omega
  · show (0 : Int) ≤ xl_ (nX_ st u q m)
    omega
  · rw [em]; omega
  · rw [e0]; exact hs
  · rw [es]; omega
theorem jZ_dfn {bd : Int} {Z : ab_Z} (j : jZ_ bd Z) : jZ_ bd (dfn_ Z) := by
  have jn := j.2.1.2.2.2.2.1
  unfold dfn_
  by_cases h4 : fi_ (aTX_ (zT_ Z)) = 4
  · rw [if_pos h4]
    exact jZ_scD j.1 j
  · rw [if_neg h4]
    by_cases w : (rZ_ Z).1 ≠ 0
    · rw [if_pos w]
      exact jZ_scD j.1 j
    · rw [if_neg w]
      obtain ⟨T, xt⟩ := tx_ex (f := zf_ Z) jn
      have kn := kn_of jn xt.2.1 xt.2.2.1 xt.2.2.2
      have w : (rix_ (tK_ (zf_ Z) (zs_ Z 20)) (tN_ (zf_ Z) (zs_ Z 20))).1 = 0 := by
        have : ¬ (rix_ (tK_ (zf_ Z) (zs_ Z 20)) (tN_ (zf_ Z) (zs_ Z 20))).1 ≠ 0 := w
        omega
      obtain ⟨⟨a, a0, a1, ub⟩, hq, hm⟩ := rix_ub kn w
      have hb := j.1.2.2.1
      exact jZ_scD (jT_setX j.1 (jX_nX ⟨a0, a1⟩ ub hb.1.1 hb.2.1.1 (by decide) (by decide) hq hm)) j
