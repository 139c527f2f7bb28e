/-! one step at a time -/
theorem mm_s1 {d : Nat} {code : List mm_E} {R : mm_P} {pc : Nat} {lv : mm_L} {st : List mm_V} {M : mm_M} {e : mm_E} (he : mm_at code pc = some e) (hw : mm_wq (mm_run d) R (mm_Go (mm_run d) code R) M (mm_do e lv st M)) : mm_Go (mm_run d) code R (pc, lv, st, M) := by
  refine mm_fold (mm_run_mono d) ?_
  unfold mm_wp
  dsimp only
  rw [he]
  exact hw
def pm_by (four s : Int) : Int := mm_and (mm_ushr four s) 255
theorem pm_test (d : Nat) (R : mm_P) (t u : Nat) (ht : (mm_kd t).1 = 11) (hu : mm_kd u = (20, 200)) (hne : u ≠ t) (four : Int) (sh : Int) (hsh : -8 ≤ sh ∧ sh ≤ 24) (len : Int) (M : mm_M) (h0 : M.2 t 0 = (u : Int)) (h1 : M.2 t 1 = len) (hl : 0 ≤ len ∧ len < 200) (hs0 : 0 ≤ sh)
    (k : mm_Go (mm_run d) mc_Tape_add R (3, [(0, .inr (.inr t)), (1, .inl four), (2, .inl (sh - 8))], [], mm_up (mm_up M u len.toNat (pm_by four sh)) t 1 (len + 1))) :
    mm_Go (mm_run d) mc_Tape_add R (3, [(0, .inr (.inr t)), (1, .inl four), (2, .inl sh)], [], M) := by
  have e0 : (M.2 t 0).toNat = u := by omega
  refine mm_s1 rfl ?_
  refine mm_s1 rfl ⟨fun c => absurd c (show ¬ sh < 0 by omega), fun _ => ?_⟩
  refine mm_s1 rfl ?_
  refine mm_s1 rfl ⟨ht, ?_⟩
  refine mm_s1 rfl ?_
  refine mm_s1 rfl ⟨fun c => absurd c (show ¬ 200 ≤ M.2 t 1 by omega), fun _ => ?_⟩
  show mm_Go (mm_run d) mc_Tape_add R (17, [(0, .inr (.inr t)), (1, .inl four), (2, .inl sh)], [], M)
  refine mm_s1 rfl ?_
  refine mm_s1 rfl ⟨ht, ?_⟩
  refine mm_s1 rfl ?_
  refine mm_s1 rfl ⟨ht, ?_⟩
  show mm_Go (mm_run d) mc_Tape_add R (25, [(0, .inr (.inr t)), (1, .inl four), (2, .inl sh)], [.inl (M.2 t 1), .inr (.inr (M.2 t 0).toNat)], M)
  rw [e0, h1]
  refine mm_s1 rfl ?_
  refine mm_s1 rfl ?_
  refine mm_s1 rfl ?_
  refine mm_s1 rfl ?_
  refine mm_s1 rfl ?_
  show mm_Go (mm_run d) mc_Tape_add R (32, [(0, .inr (.inr t)), (1, .inl four), (2, .inl sh)], [.inl (pm_by four sh), .inl len, .inr (.inr u)], M)
  refine mm_s1 rfl ⟨⟨by rw [hu], hl.1, by rw [hu]; exact hl.2⟩, ?_⟩
  show mm_Go (mm_run d) mc_Tape_add R (33, [(0, .inr (.inr t)), (1, .inl four), (2, .inl sh)], [], mm_up M u len.toNat (pm_by four sh))
  generalize hM : mm_up M u len.toNat (pm_by four sh) = M1 at k ⊢
  have h2 : M1.2 t 1 = len := by rw [← hM, mm_up_o (Ne.symm hne), h1]
  refine mm_s1 rfl ?_
  refine mm_s1 rfl ?_
  refine mm_s1 rfl ⟨ht, ?_⟩
  refine mm_s1 rfl ?_
  refine mm_s1 rfl ?_
  show mm_Go (mm_run d) mc_Tape_add R (40, [(0, .inr (.inr t)), (1, .inl four), (2, .inl sh)], [.inl (mm_w (M1.2 t 1 + 1)), .inr (.inr t)], M1)
  rw [h2, mm_w_id (show -2147483648 ≤ len + 1 ∧ len + 1 < 2147483648 by omega)]
  refine mm_s1 rfl ⟨ht, ?_⟩
  refine mm_s1 rfl ?_
  refine mm_s1 rfl ?_
  show mm_Go (mm_run d) mc_Tape_add R (3, [(0, .inr (.inr t)), (1, .inl four), (2, .inl (mm_w (sh + -8)))], [], mm_up M1 t 1 (len + 1))
  rw [mm_w_id (show -2147483648 ≤ sh + -8 ∧ sh + -8 < 2147483648 by omega)]
  exact k
