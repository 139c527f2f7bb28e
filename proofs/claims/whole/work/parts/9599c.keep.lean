/-! what a feed, an end, a define keep -/
theorem jB_end {n : Int} {Z : ab_Z} (j : jB_ Z) : jB_ (end_ n Z) := by
  unfold end_
  by_cases z : 0 ≤ n ∧ n ≤ zs_ Z 20
  · rw [if_pos z]
    intro i i0 i1
    have i1 : i < up1_ 20 n (zs_ Z) 20 := i1
    rw [up1_s] at i1
    exact j i i0 (by omega)
  · rw [if_neg z]; exact j
theorem jB_dfn {Z : ab_Z} : jB_ (dfn_ Z) := by
  unfold dfn_
  split
  · exact fun i i0 i1 => by
      have i1 : i < 0 := i1
      omega
  · split
    · exact fun i i0 i1 => by
        have i1 : i < 0 := i1
        omega
    · exact fun i i0 i1 => by
        have i1 : i < 0 := i1
        omega
theorem jZ_scD {bd a b : Int} {Z : ab_Z} {T : ab_T} (kt : jT_ bd 64 11 T) (j : jZ_ bd Z) : jZ_ bd (scD_ a b (zs_ Z), T, zC_ Z, zf_ Z) := by
  obtain ⟨_, ⟨b1, b2, b3, b4, b5, b6⟩, c⟩ := j
  exact ⟨kt, ⟨b1, b2, b3, b4, ⟨Int.le_refl _, by show (0 : Int) ≤ 200; decide⟩, b6⟩, c⟩
theorem cz_0 : cz_ (fun _ => False) = 0 := by
  unfold cz_
  rw [cn_no (fun k _ => by
    cases h : pb2_ (fun _ => False) k with
    | false => rfl
    | true => exact (pb2_t.mp h).elim)]
  rfl
