def mm_wpN (call : mm_K) (code : List mm_E) (R : mm_P) : Nat → mm_C → Prop
  | 0 => mm_Go call code R
  | k + 1 => mm_wp call code R (mm_wpN call code R k)
theorem mm_stp {d : Nat} {code : List mm_E} {R : mm_P} : ∀ (k : Nat) {c : mm_C}, mm_wpN (mm_run d) code R k c → mm_Go (mm_run d) code R c
  | 0, _, h => h
  | k + 1, _, h => mm_fold (mm_run_mono d) (mm_wp_mono (mm_run_mono d) (fun _ _ q => q) (fun _ q => mm_stp k q) h)
/-! the tape -/
def pm_by (four s : Int) : Int := mm_and (mm_ushr four s) 255
def pm_put1 (t u : Nat) (len : Int) (x : Int) (M : mm_M) : mm_M := mm_up (mm_up M u len.toNat x) t 1 (len + 1)
theorem pm_Tape_loop (d : Nat) (R : mm_P) (t u : Nat) (ht : (mm_kd t).1 = 11) (hu : mm_kd u = (20, 200)) (hne : u ≠ t) (four : Int) (sh : Int) (hsh : -8 ≤ sh ∧ sh ≤ 24) (len : Int) (M : mm_M) (h0 : M.2 t 0 = (u : Int)) (h1 : M.2 t 1 = len) (hl : 0 ≤ len ∧ len < 200) (hs0 : 0 ≤ sh)
    (k : mm_Go (mm_run d) mc_Tape_add R (3, [(0, .inr (.inr t)), (1, .inl four), (2, .inl (sh - 8))], [], pm_put1 t u len (pm_by four sh) M)) :
    mm_Go (mm_run d) mc_Tape_add R (3, [(0, .inr (.inr t)), (1, .inl four), (2, .inl sh)], [], M) := by
  refine mm_stp 2 ?_
  refine ⟨fun c => absurd c (show ¬ sh < 0 by omega), fun _ => ?_⟩
  refine mm_stp 4 ?_
  refine ⟨ht, fun c => absurd c (show ¬ 200 ≤ M.2 t 1 by omega), fun _ => ?_⟩
  refine mm_stp 18 ?_
  have e0 : (M.2 t 0).toNat = u := by omega
  have e1 : (mm_kd (M.2 t 0).toNat).1 = 20 ∧ 0 ≤ M.2 t 1 ∧ M.2 t 1 < ((mm_kd (M.2 t 0).toNat).2 : Int) := by
    rw [e0, hu]
    exact ⟨rfl, by omega, by show M.2 t 1 < 200; omega⟩
  refine ⟨ht, ht, e1, ht, ht, ?_⟩
  have e2 : mm_w (sh + -8) = sh - 8 := by rw [mm_w_id (by omega)]; omega
  have e3 : (mm_up M (M.2 t 0).toNat (M.2 t 1).toNat (mm_and (mm_ushr four sh) 255)).2 t 1 = len := by
    rw [mm_up_o (by rw [e0]; exact Ne.symm hne), h1]
  have e4 : mm_w (len + 1) = len + 1 := mm_w_id (by omega)
  have goal : mm_Go (mm_run d) mc_Tape_add R (3, [(0, .inr (.inr t)), (1, .inl four), (2, .inl (mm_w (sh + -8)))], [], mm_up (mm_up M (M.2 t 0).toNat (M.2 t 1).toNat (mm_and (mm_ushr four sh) 255)) t 1 (mm_w ((mm_up M (M.2 t 0).toNat (M.2 t 1).toNat (mm_and (mm_ushr four sh) 255)).2 t 1 + 1))) := by
    rw [e3, e2, e4, e0, h1]
    exact k
  exact goal
