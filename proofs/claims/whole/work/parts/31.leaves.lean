/-! leaves of the Model -/
theorem pm_M_isIn (d : Nat) (x a b : Int) (M : mm_M) (R : mm_P) (h : R (some (.inl (if a ≤ x ∧ x ≤ b then 1 else 0))) M) : mm_run (d + 1) mi_M_isIn [.inl x, .inl a, .inl b] M R := by
  show mm_Go (mm_run d) mc_M_isIn R (0, [(0, .inl x), (1, .inl a), (2, .inl b)], [], M)
  have no : ¬ (a ≤ x ∧ x ≤ b) → mm_Go (mm_run d) mc_M_isIn R (14, [(0, .inl x), (1, .inl a), (2, .inl b)], [], M) := by
    intro q
    rw [if_neg q] at h
    refine mm_s1 rfl ?_
    exact mm_s1 rfl ⟨Or.inl rfl, h⟩
  refine mm_s1 rfl ?_
  refine mm_s1 rfl ?_
  refine mm_s1 rfl ⟨fun c => no (fun q => absurd q.1 (Int.not_le.mpr c)), fun c1 => ?_⟩
  refine mm_s1 rfl ?_
  refine mm_s1 rfl ?_
  refine mm_s1 rfl ⟨fun c => no (fun q => absurd q.2 (Int.not_le.mpr c)), fun c2 => ?_⟩
  rw [if_pos ⟨Int.not_lt.mp c1, Int.not_lt.mp c2⟩] at h
  refine mm_s1 rfl ?_
  refine mm_s1 rfl ?_
  exact mm_s1 rfl ⟨Or.inr rfl, h⟩
theorem pm_M_at (d : Nat) (b i : Int) (M : mm_M) (R : mm_P) (h : R (some (.inl (mm_w (mm_w (b + 1784) + mm_w (855 * i))))) M) : mm_run (d + 1) mi_M_at [.inl b, .inl i] M R := by
  show mm_Go (mm_run d) mc_M_at R (0, [(0, .inl b), (1, .inl i)], [], M)
  refine mm_s1 rfl ?_
  refine mm_s1 rfl ?_
  refine mm_s1 rfl ?_
  refine mm_s1 rfl ?_
  refine mm_s1 rfl ?_
  refine mm_s1 rfl ?_
  refine mm_s1 rfl ?_
  exact mm_s1 rfl h
theorem pm_M_head (d : Nat) (x r : Int) (M : mm_M) (R : mm_P) (h : R (some (.inl (mm_w (mm_w (x + 143) + mm_w (3 * r))))) M) : mm_run (d + 1) mi_M_head [.inl x, .inl r] M R := by
  show mm_Go (mm_run d) mc_M_head R (0, [(0, .inl x), (1, .inl r)], [], M)
  refine mm_s1 rfl ?_
  refine mm_s1 rfl ?_
  refine mm_s1 rfl ?_
  refine mm_s1 rfl ?_
  refine mm_s1 rfl ?_
  refine mm_s1 rfl ?_
  refine mm_s1 rfl ?_
  exact mm_s1 rfl h
theorem pm_kd407 : mm_kd 407 = (13, 11) := by decide +kernel
theorem pm_kd408 : mm_kd 408 = (20, 32844) := by decide +kernel
/-- the Model's own: it is there, and its numbers lie in cell 408 -/
def pm_m (M : mm_M) : Prop := M.2 407 0 = 408
theorem pm_m_up {M : mm_M} {o b : Nat} {x : Int} (h : pm_m M) (ho : o ≠ 407) : pm_m (mm_up M o b x) := by
  unfold pm_m
  rw [mm_up_o (Ne.symm ho)]
  exact h
/-- number(b): the count of numbers goes up by one, and is the answer -/
theorem pm_M_number (d : Nat) (b : Int) (M : mm_M) (R : mm_P) (hm : pm_m M) (hb : 0 ≤ b ∧ b + 8 < 32844) (hv : -2147483648 ≤ M.2 408 (b + 8).toNat + 1 ∧ M.2 408 (b + 8).toNat + 1 < 2147483648) (h : R (some (.inl (M.2 408 (b + 8).toNat + 1))) (mm_up M 408 (b + 8).toNat (M.2 408 (b + 8).toNat + 1))) : mm_run (d + 1) mi_M_number [.inr (.inr 407), .inl b] M R := by
  show mm_Go (mm_run d) mc_M_number R (0, [(0, .inr (.inr 407)), (1, .inl b)], [], M)
  have hm0 : (M.2 407 0).toNat = 408 := by unfold pm_m at hm; omega
  have k13 : (mm_kd 407).1 = 13 := by rw [pm_kd407]
  have e8 : mm_w (b + 8) = b + 8 := mm_w_id (by omega)
  have k20 : (mm_kd 408).1 = 20 ∧ 0 ≤ b + 8 ∧ b + 8 < ((mm_kd 408).2 : Int) := by
    rw [pm_kd408]
    exact ⟨rfl, by omega, by show b + 8 < 32844; omega⟩
  refine mm_s1 rfl ?_
  refine mm_s1 rfl ⟨k13, ?_⟩
  refine mm_s1 rfl ?_
  refine mm_s1 rfl ?_
  refine mm_s1 rfl ?_
  show mm_Go (mm_run d) mc_M_number R (8, [(0, .inr (.inr 407)), (1, .inl b)], [.inl (mm_w (b + 8)), .inr (.inr (M.2 407 0).toNat)], M)
  rw [hm0, e8]
  refine mm_s1 rfl ?_
  refine mm_s1 rfl ⟨k20, ?_⟩
  refine mm_s1 rfl ?_
  refine mm_s1 rfl ?_
  show mm_Go (mm_run d) mc_M_number R (12, [(0, .inr (.inr 407)), (1, .inl b)], [.inl (mm_w (M.2 408 (b + 8).toNat + 1)), .inl (b + 8), .inr (.inr 408)], M)
  rw [mm_w_id hv]
  refine mm_s1 rfl ⟨k20, ?_⟩
  show mm_Go (mm_run d) mc_M_number R (13, [(0, .inr (.inr 407)), (1, .inl b)], [], mm_up M 408 (b + 8).toNat (M.2 408 (b + 8).toNat + 1))
  have hv2 : (mm_up M 408 (b + 8).toNat (M.2 408 (b + 8).toNat + 1)).2 408 (b + 8).toNat = M.2 408 (b + 8).toNat + 1 := mm_up_s _ _ _ _
  have hm2 : ((mm_up M 408 (b + 8).toNat (M.2 408 (b + 8).toNat + 1)).2 407 0).toNat = 408 := by
    rw [mm_up_o (by decide)]
    exact hm0
  generalize mm_up M 408 (b + 8).toNat (M.2 408 (b + 8).toNat + 1) = M2 at h hv2 hm2 ⊢
  refine mm_s1 rfl ?_
  refine mm_s1 rfl ⟨k13, ?_⟩
  refine mm_s1 rfl ?_
  refine mm_s1 rfl ?_
  refine mm_s1 rfl ?_
  show mm_Go (mm_run d) mc_M_number R (21, [(0, .inr (.inr 407)), (1, .inl b)], [.inl (mm_w (b + 8)), .inr (.inr (M2.2 407 0).toNat)], M2)
  rw [hm2, e8]
  refine mm_s1 rfl ⟨k20, ?_⟩
  show mm_Go (mm_run d) mc_M_number R (22, [(0, .inr (.inr 407)), (1, .inl b)], [.inl (M2.2 408 (b + 8).toNat)], M2)
  rw [hv2]
  exact mm_s1 rfl h
