/-- the law, from its entry -/
theorem whole_start {p : Program} {e : Env} {s : State} {m : MethodId} {below : List Frame} {meth : Method} {c : Code} (l : Launch) (hflags : l.flags = flags0) {b L : Nat} {xs : Nat → Int32} (hL : L ≤ 3072) (C0 : lw_At p s m meth c b L xs) : W p l e room_1 s m #[Value.ref b] below meth c s.heap [] 0 0 (lw_Z below #[Value.ref b] s) (entryFrame m ([Value.ref b] : List Value).toArray 4) := by
  have h1 := List.all_eq_true.mp mm_mx_all
  have h2 := List.all_eq_true.mp mm_mx_28
  exact mm_whole l hL C0 mm_chk_all (fun y hy => ⟨of_decide_eq_true (h1 y (List.mem_range.mpr hy)), of_decide_eq_true (h2 y (List.mem_range.mpr hy))⟩) (mm_hstr l) (mm_hgo L xs hL)
