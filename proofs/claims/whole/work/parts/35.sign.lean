/-! Reader.sign: its switch is looked up; by hand -/
def nf_Reader_sign (v0 : Int) : Int := if v0 = 42 then 9 else if v0 = 43 then 8 else if v0 = 60 then 10 else if v0 = 61 then 11 else if v0 = 62 then 12 else 13
set_option maxRecDepth 20000 in
theorem np_Reader_sign {v0 : Int} {M : mm_M} {n d : Nat} {P : mm_P} (hd : 1 ≤ d) (L : nn_L M) (N : M.1 = n) (h : P (some (.inl (nf_Reader_sign v0))) M) : mm_run d mi_Reader_sign [.inl v0] M P := by
  unfold nf_Reader_sign at h
  refine nn_run_le hd ?_
  show mm_Go (mm_run 0) mc_Reader_sign _ (0, [(0, .inl v0)], [], M)
  refine mm_s1 rfl ?_
  refine mm_s1 rfl ?_
  show mm_Go (mm_run 0) mc_Reader_sign _ (mm_to 1 (mm_look 66 [(42, 54), (43, 51), (60, 57), (61, 60), (62, 63)] v0), [(0, .inl v0)], [], M)
  by_cases c1 : v0 = 42
  · subst c1; exact mm_s1 rfl (mm_s1 rfl h)
  rw [if_neg c1] at h
  by_cases c2 : v0 = 43
  · subst c2; exact mm_s1 rfl (mm_s1 rfl h)
  rw [if_neg c2] at h
  by_cases c3 : v0 = 60
  · subst c3; exact mm_s1 rfl (mm_s1 rfl h)
  rw [if_neg c3] at h
  by_cases c4 : v0 = 61
  · subst c4; exact mm_s1 rfl (mm_s1 rfl h)
  rw [if_neg c4] at h
  by_cases c5 : v0 = 62
  · subst c5; exact mm_s1 rfl (mm_s1 rfl h)
  rw [if_neg c5] at h
  have e : mm_look 66 [(42, 54), (43, 51), (60, 57), (61, 60), (62, 63)] v0 = 66 := by
    simp only [mm_look, c1, c2, c3, c4, c5, if_false]
  rw [e]
  exact mm_s1 rfl (mm_s1 rfl h)
