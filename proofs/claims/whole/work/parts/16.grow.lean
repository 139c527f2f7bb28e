/-! the memory only grows -/
def mm_gr (M : mm_M) (s : Option mm_S) : Prop := match s with
  | none => True
  | some (.inl c') => M.1 ≤ c'.2.2.2.1
  | some (.inr (.inl (_, c'))) => M.1 ≤ c'.2.2.2.1
  | some (.inr (.inr (.inl (_, c1, c2)))) => M.1 ≤ c1.2.2.2.1 ∧ M.1 ≤ c2.2.2.2.1
  | some (.inr (.inr (.inr (.inl (_, _, _, k))))) => ∀ q M', M'.1 ≤ (k q M').2.2.2.1
  | some (.inr (.inr (.inr (.inr _)))) => True
set_option maxHeartbeats 4000000 in
theorem mm_do_gr (e : mm_E) (lv : mm_L) (st : List mm_V) (M : mm_M) : mm_gr M (mm_do e lv st M) := by
  obtain ⟨pc, ins, len, w, a, b, z, v⟩ := e
  unfold mm_do
  cases ins <;> dsimp only <;> (try unfold mm_b2) <;> (try unfold mm_b2l) <;> (try unfold mm_bsl) <;> (try unfold mm_ld) <;> (try unfold mm_sto) <;> (try unfold mm_ald) <;> (try unfold mm_get) <;> (try unfold mm_put) <;> (try unfold mm_ast) <;> (try unfold mm_inv) <;> (repeat' split) <;> first
    | trivial
    | exact Nat.le_refl _
    | exact Nat.le_succ _
    | exact ⟨Nat.le_refl _, Nat.le_refl _⟩
    | exact fun _ _ => Nat.le_refl _
theorem mm_Go_gr {call : mm_K} (hc : ∀ (y : Nat) (as : List mm_V) (M : mm_M) (P : mm_P), call y as M P → ∃ (v : Option mm_V) (M' : mm_M), P v M' ∧ M.1 ≤ M'.1) {code : List mm_E} {vf : Option mm_V} {Mf : mm_M} {c : mm_C} (h : mm_Go call code (fun a b => a = vf ∧ b = Mf) c) : c.2.2.2.1 ≤ Mf.1 := by
  refine h (fun c => c.2.2.2.1 ≤ Mf.1) (fun c hw => ?_)
  unfold mm_wp at hw
  cases he : mm_at code c.1 with
  | none => rw [he] at hw; exact hw.elim
  | some e =>
    rw [he] at hw
    dsimp only at hw
    have hg := mm_do_gr e c.2.1 c.2.2.1 c.2.2.2
    cases hs : mm_do e c.2.1 c.2.2.1 c.2.2.2 with
    | none => rw [hs] at hw; exact hw.elim
    | some s =>
      rw [hs] at hw hg
      rcases s with c' | ⟨C, c'⟩ | ⟨C, c1, c2⟩ | ⟨C, y, as, k⟩ | v | ⟨C, v⟩
      · exact Nat.le_trans hg hw
      · exact Nat.le_trans hg hw.2
      · by_cases q : C
        · exact Nat.le_trans hg.1 (hw.1 q)
        · exact Nat.le_trans hg.2 (hw.2 q)
      · obtain ⟨v1, M1, h1, h2⟩ := hc _ _ _ _ hw.2
        exact Nat.le_trans h2 (Nat.le_trans (hg v1 M1) h1)
      · have h2 : v = vf ∧ c.2.2.2 = Mf := hw
        rw [h2.2]
        exact Nat.le_refl _
      · have h2 : v = vf ∧ c.2.2.2 = Mf := hw.2
        rw [h2.2]
        exact Nat.le_refl _
theorem mm_run_gr : ∀ (d : Nat) (y : Nat) (as : List mm_V) (M : mm_M) (P : mm_P), mm_run d y as M P → ∃ (v : Option mm_V) (M' : mm_M), P v M' ∧ M.1 ≤ M'.1
  | 0, _, _, _, _, h => h.elim
  | d + 1, y, as, M, P, h => by
    obtain ⟨v, M', hP, h1⟩ := mm_run_one (d + 1) y as M P h
    refine ⟨v, M', hP, ?_⟩
    unfold mm_run at h1
    cases hy : Nat.ble 308 y with
    | true =>
      rw [hy] at h1
      have h2 := h1.2
      unfold mm_str at h2
      split at h2
      · rw [h2.2.2.2]; exact Nat.le_refl _
      · rw [h2.2.2.2.2.2]; exact Nat.le_refl _
      · exact h2.elim
    | false =>
      rw [hy] at h1
      dsimp only at h1
      cases hb : Nat.ble (mm_ws as) (mm_mx y) with
      | true =>
        rw [hb] at h1
        exact mm_Go_gr (mm_run_gr d) h1
      | false => rw [hb] at h1; exact h1.elim
theorem mm_run_le {d y : Nat} {as : List mm_V} {M M' : mm_M} {v : Option mm_V} (h : mm_run d y as M (fun a b => a = v ∧ b = M')) : M.1 ≤ M'.1 := by
  obtain ⟨v1, M1, ⟨-, e⟩, h2⟩ := mm_run_gr d y as M _ h
  rw [← e]
  exact h2
