/-! OPEN: the law's meaning in the small machine, for every script: pure -/
theorem mm_hgo (L : Nat) (xs : Nat → Int32) (hL : L ≤ 3072) : mm_Go (mm_run 13) (mm_code 0) (fun v M => v = some (.inl 1) ∧ M.1 ≤ mm_max) (0, [(0, .inr (.inr 5000))], [], mm_m0 L xs) := by
  sorry
