/-- a text's length, a text's sign: a call of the JDK's own, four deep at most -/
def mm_str (y : Nat) (as : List mm_V) (M : mm_M) (R : mm_P) : Prop := match y, as with
  | 308, [.inr (.inr o)] => 6000 ≤ o ∧ o < 6005 ∧ R (some (.inl ((mm_strs.getD (o - 6000) []).length : Int))) M
  | 309, [.inr (.inr o), .inl i] => 6000 ≤ o ∧ o < 6005 ∧ 0 ≤ i ∧ i < ((mm_strs.getD (o - 6000) []).length : Int) ∧ R (some (.inl ((mm_strs.getD (o - 6000) []).getD i.toNat 0))) M
  | _, _ => False
theorem mm_str_mono : mm_mono mm_str := by
  intro y as M P P' hP h
  unfold mm_str at h ⊢
  split at h
  · exact ⟨h.1, h.2.1, hP _ _ h.2.2⟩
  · exact ⟨h.1, h.2.1, h.2.2.1, h.2.2.2.1, hP _ _ h.2.2.2.2⟩
  · exact h.elim
/-- a method's meaning, calls at most d deep -/
def mm_run : Nat → mm_K
  | 0 => fun _ _ _ _ => False
  | d + 1 => fun y as M R => match Nat.ble 308 y with
    | true => 5 ≤ d ∧ mm_str y as M R
    | false => match Nat.ble (mm_ws as) (mm_mx y) with
      | true => mm_Go (mm_run d) (mm_code y) R (0, mm_args 0 as, [], M)
      | false => False
theorem mm_run_mono : ∀ d, mm_mono (mm_run d)
  | 0 => fun _ _ _ _ _ _ h => h.elim
  | d + 1 => fun y as M P P' hP h => by
    unfold mm_run at h ⊢
    cases hy : Nat.ble 308 y with
    | true => rw [hy] at h; exact ⟨h.1, mm_str_mono _ _ _ _ _ hP h.2⟩
    | false =>
      rw [hy] at h
      dsimp only at h ⊢
      cases hb : Nat.ble (mm_ws as) (mm_mx y) with
      | true => rw [hb] at h; exact mm_Go_mono (mm_run_mono d) hP h
      | false => rw [hb] at h; exact h.elim
