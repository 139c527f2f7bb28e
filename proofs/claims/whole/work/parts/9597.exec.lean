/-! the constructors run: a machine over a list of writes; that it is the small machine -/
abbrev xM_ : Type := Nat × List (Nat × Nat × Int)
abbrev xS_ : Type := (Nat × mm_L × List mm_V × xM_) ⊕ ((Nat × List mm_V × Nat × mm_L × List mm_V) ⊕ Option mm_V)
def xlk_ : List (Nat × Nat × Int) → Nat → Nat → Int
  | [], _, _ => 0
  | w :: t, o, b => match Nat.beq w.1 o && Nat.beq w.2.1 b with
    | true => w.2.2
    | false => xlk_ t o b
theorem xlk_c {o b o' b' : Nat} {x : Int} {t : List (Nat × Nat × Int)} : xlk_ ((o, b, x) :: t) o' b' = if o' = o ∧ b' = b then x else xlk_ t o' b' := by
  show (match Nat.beq o o' && Nat.beq b b' with
    | true => x
    | false => xlk_ t o' b') = _
  cases e1 : Nat.beq o o' with
  | true =>
    have h1 := Nat.eq_of_beq_eq_true e1
    cases e2 : Nat.beq b b' with
    | true =>
      have h2 := Nat.eq_of_beq_eq_true e2
      rw [if_pos ⟨h1.symm, h2.symm⟩]
      rfl
    | false =>
      have h2 := Nat.ne_of_beq_eq_false e2
      rw [if_neg (fun z => h2 z.2.symm)]
      rfl
  | false =>
    have h1 := Nat.ne_of_beq_eq_false e1
    rw [if_neg (fun z => h1 z.1.symm)]
    rfl
theorem xlk_no {o b : Nat} : ∀ {W : List (Nat × Nat × Int)}, (∀ w, w ∈ W → w.1 ≠ o) → xlk_ W o b = 0
  | [], _ => rfl
  | (o', b', x) :: t, h => by
    rw [xlk_c, if_neg (fun z => h (o', b', x) List.mem_cons_self z.1.symm)]
    exact xlk_no (fun w hw => h w (List.mem_cons_of_mem _ hw))
/-- the memory behind the writes: what lies above n0 is new, the rest is as it was -/
def xr_ (n0 : Nat) (f : Nat → Nat → Int) (m : xM_) (M : mm_M) : Prop := M.1 = m.1 ∧ n0 ≤ m.1 ∧ (∀ w, w ∈ m.2 → w.1 ≤ m.1) ∧ ∀ o b, M.2 o b = if n0 < o ∧ o ≤ m.1 then xlk_ m.2 o b else f o b
theorem xr_up {n0 : Nat} {f : Nat → Nat → Int} {m : xM_} {M : mm_M} {o b : Nat} {x : Int} (h : xr_ n0 f m M) (h0 : n0 < o ∧ o ≤ m.1) : xr_ n0 f (m.1, (o, b, x) :: m.2) (mm_up M o b x) := by
  obtain ⟨h1, h2, h3, h4⟩ := h
  refine ⟨h1, h2, fun w hw => ?_, fun o' b' => ?_⟩
  · rcases List.mem_cons.mp hw with e | e
    · rw [e]; exact h0.2
    · exact h3 w e
  · show (if o' = o ∧ b' = b then x else M.2 o' b') = if n0 < o' ∧ o' ≤ m.1 then xlk_ ((o, b, x) :: m.2) o' b' else f o' b'
    rw [xlk_c, h4]
    by_cases z : o' = o ∧ b' = b
    · rw [if_pos z, if_pos z, z.1, if_pos h0]
    · rw [if_neg z, if_neg z]
theorem xr_nw {n0 : Nat} {f : Nat → Nat → Int} {m : xM_} {M : mm_M} (h : xr_ n0 f m M) : xr_ n0 f (m.1 + 1, m.2) (mm_nw M) := by
  obtain ⟨h1, h2, h3, h4⟩ := h
  refine ⟨by show M.1 + 1 = m.1 + 1; rw [h1], Nat.le_succ_of_le h2, fun w hw => Nat.le_succ_of_le (h3 w hw), fun o b => ?_⟩
  show (if o = M.1 + 1 then 0 else M.2 o b) = if n0 < o ∧ o ≤ m.1 + 1 then xlk_ m.2 o b else f o b
  rw [h4, h1]
  by_cases z : o = m.1 + 1
  · rw [if_pos z, if_pos (by omega), xlk_no (fun w hw => by have := h3 w hw; omega)]
  · rw [if_neg z]
    by_cases y : n0 < o ∧ o ≤ m.1
    · rw [if_pos y, if_pos (by omega)]
    · rw [if_neg y, if_neg (by omega)]
def xcc_ (cc : Jvm.ClassFile.Cond) (x y : Int) : Bool := match cc with
  | .eq => decide (x = y)
  | .ne => decide (x ≠ y)
  | .lt => decide (x < y)
  | .ge => decide (y ≤ x)
  | .gt => decide (y < x)
  | .le => decide (x ≤ y)
theorem xcc_t {cc : Jvm.ClassFile.Cond} {x y : Int} : xcc_ cc x y = true ↔ mm_cc cc x y := by
  cases cc <;> exact decide_eq_true_iff
def xinv_ (pc a b z : Nat) (v : Int) (lv : mm_L) (st : List mm_V) (m : xM_) : Option xS_ := match z with
  | 10 => match st with
    | .inr (.inr o) :: r => if mm_ws r ≤ 8 ∧ (mm_kd o).1 ≠ 0 then some (.inl (pc, lv, r, m)) else none
    | _ => none
  | 15 => match st with
    | .inl y :: .inl x :: r => if mm_ws r ≤ 8 then some (.inl (pc, lv, .inl (max x y) :: r, m)) else none
    | _ => none
  | 2 => match st.drop b with
    | .inr (.inr o) :: r => if mm_ws r ≤ 8 ∧ (mm_kd o).1 = v.toNat then some (.inr (.inl (a, .inr (.inr o) :: (st.take b).reverse, pc, lv, r))) else none
    | _ => none
  | 1 => match st.drop b with
    | .inr (.inr o) :: r => if mm_ws r ≤ 8 ∧ (mm_kd o).1 = v.toNat then some (.inr (.inl (a, .inr (.inr o) :: (st.take b).reverse, pc, lv, r))) else none
    | _ => none
  | _ => none
def xldi_ (i pc : Nat) (lv : mm_L) (st : List mm_V) (m : xM_) : Option xS_ := match mm_lk lv i with
  | some (.inl x) => some (.inl (pc, lv, .inl x :: st, m))
  | _ => none
def xlda_ (i pc : Nat) (lv : mm_L) (st : List mm_V) (m : xM_) : Option xS_ := match mm_lk lv i with
  | some (.inr (.inr x)) => some (.inl (pc, lv, .inr (.inr x) :: st, m))
  | _ => none
def xput_ (n0 pc a b z : Nat) (lv : mm_L) (st : List mm_V) (m : xM_) : Option xS_ := match z with
  | 0 => match st with
    | .inl x :: .inr (.inr o) :: r => if (mm_kd o).1 = a ∧ n0 < o ∧ o ≤ m.1 then some (.inl (pc, lv, r, (m.1, (o, b, x) :: m.2))) else none
    | _ => none
  | 3 => match st with
    | .inr (.inr x) :: .inr (.inr o) :: r => if ((mm_kd o).1 = a ∧ x < 5000) ∧ n0 < o ∧ o ≤ m.1 then some (.inl (pc, lv, r, (m.1, (o, b, (x : Int)) :: m.2))) else none
    | _ => none
  | _ => none
def xdo_ (n0 : Nat) (e : mm_E) (lv : mm_L) (st : List mm_V) (m : xM_) : Option xS_ := match e with
  | (pc, ins, len, _, a, b, z, v) => match ins with
    | .iconst n => some (.inl (pc + len, lv, .inl n :: st, m))
    | .bipush n => some (.inl (pc + len, lv, .inl n :: st, m))
    | .sipush n => some (.inl (pc + len, lv, .inl n :: st, m))
    | .ldc _ => match z with
      | 0 => some (.inl (pc + len, lv, .inl v :: st, m))
      | _ => none
    | .iload_n i => xldi_ i (pc + len) lv st m
    | .aload_n i => xlda_ i (pc + len) lv st m
    | .istore_n i => match st with
      | .inl x :: r => some (.inl (pc + len, mm_set i (.inl x) lv, r, m))
      | _ => none
    | .iinc i n => match mm_lk lv i with
      | some (.inl x) => some (.inl (pc + len, mm_set i (.inl (mm_w (x + n))) lv, st, m))
      | _ => none
    | .dup => match st with
      | .inr (.inr x) :: r => some (.inl (pc + len, lv, .inr (.inr x) :: .inr (.inr x) :: r, m))
      | _ => none
    | .goto off => some (.inl (mm_to pc off, lv, st, m))
    | .if_icmp cc off => match st with
      | .inl y :: .inl x :: r => match xcc_ cc x y with
        | true => some (.inl (mm_to pc off, lv, r, m))
        | false => some (.inl (pc + len, lv, r, m))
      | _ => none
    | .getfield _ => match st with
      | .inr (.inr o) :: r => if (mm_kd o).1 = a ∧ n0 < o ∧ o ≤ m.1 then some (.inl (pc + len, lv, mm_val z (xlk_ m.2 o b) :: r, m)) else none
      | _ => none
    | .putfield _ => xput_ n0 (pc + len) a b z lv st m
    | .iastore => match st with
      | .inl x :: .inl i :: .inr (.inr o) :: r => if ((mm_kd o).1 = 20 ∧ 0 ≤ i ∧ i < ((mm_kd o).2 : Int)) ∧ n0 < o ∧ o ≤ m.1 then some (.inl (pc + len, lv, r, (m.1, (o, i.toNat, x) :: m.2))) else none
      | _ => none
    | .aastore => match st with
      | .inr (.inr x) :: .inl i :: .inr (.inr o) :: r => if ((mm_kd o).1 = 30 + (mm_kd x).1 ∧ 0 < (mm_kd x).1 ∧ (mm_kd x).1 < 20 ∧ 0 ≤ i ∧ i < ((mm_kd o).2 : Int)) ∧ n0 < o ∧ o ≤ m.1 then some (.inl (pc + len, lv, r, (m.1, (o, i.toNat, (x : Int)) :: m.2))) else none
      | _ => none
    | .arraylength => match z with
      | 0 => match st with
        | .inr (.inr o) :: r => if 20 ≤ (mm_kd o).1 then some (.inl (pc + len, lv, .inl ((mm_kd o).2 : Int) :: r, m)) else none
        | _ => none
      | _ => none
    | .new _ => if m.1 < mm_max ∧ (mm_kd (m.1 + 1)).1 = a then some (.inl (pc + len, lv, .inr (.inr (m.1 + 1)) :: st, (m.1 + 1, m.2))) else none
    | .newarray t => match st with
      | .inl n :: r => if m.1 < mm_max ∧ mm_kd (m.1 + 1) = (mm_akind t, n.toNat) ∧ 0 ≤ n then some (.inl (pc + len, lv, .inr (.inr (m.1 + 1)) :: r, (m.1 + 1, m.2))) else none
      | _ => none
    | .anewarray _ => match st with
      | .inl n :: r => if m.1 < mm_max ∧ mm_kd (m.1 + 1) = (30 + a, n.toNat) ∧ 0 ≤ n then some (.inl (pc + len, lv, .inr (.inr (m.1 + 1)) :: r, (m.1 + 1, m.2))) else none
      | _ => none
    | .invokevirtual _ => xinv_ (pc + len) a b z v lv st m
    | .invokestatic _ => xinv_ (pc + len) a b z v lv st m
    | .invokespecial _ => xinv_ (pc + len) a b z v lv st m
    | .return_ => match st with
      | [] => some (.inr (.inr none))
      | _ => none
    | _ => none
def xsk_ (call : mm_K) (R : mm_P) (P : mm_C → Prop) (n0 : Nat) (f : Nat → Nat → Int) (M : mm_M) (s : xS_) (Q : Prop) : Prop := match s with
  | .inl c => (∀ M', xr_ n0 f c.2.2.2 M' → P (c.1, c.2.1, c.2.2.1, M')) → Q
  | .inr (.inl c) => call c.1 c.2.1 M (fun v M' => P (c.2.2.1, c.2.2.2.1, v.toList ++ c.2.2.2.2, M')) → Q
  | .inr (.inr v) => R v M → Q
section xsec_
variable {call : mm_K} {R : mm_P} {P : mm_C → Prop} {n0 : Nat} {f : Nat → Nat → Int} {M : mm_M} {m : xM_} {s : xS_} {lv : mm_L} {st : List mm_V}
theorem xinv_ok {pc a b z : Nat} {v : Int} (hr : xr_ n0 f m M) (h : xinv_ pc a b z v lv st m = some s) : xsk_ call R P n0 f M s (mm_wq call R P M (mm_inv pc a b z v lv st M)) := by
  unfold xinv_ at h
  split at h
  · rcases st with _ | ⟨x | x | o, r⟩
    · cases h
    · cases h
    · cases h
    · dsimp only at h
      by_cases c : mm_ws r ≤ 8 ∧ (mm_kd o).1 ≠ 0
      · rw [if_pos c] at h
        cases h
        intro k
        show mm_wq call R P M (if mm_ws r ≤ 8 then _ else _)
        rw [if_pos c.1]
        exact ⟨c.2, k M hr⟩
      · rw [if_neg c] at h
        cases h
  · rcases st with _ | ⟨y | x | o, _ | ⟨x | x | o, r⟩⟩
    · cases h
    · cases h
    · dsimp only at h
      by_cases c : mm_ws r ≤ 8
      · rw [if_pos c] at h
        cases h
        intro k
        show mm_wq call R P M (if mm_ws r ≤ 8 then _ else _)
        rw [if_pos c]
        exact k M hr
      · rw [if_neg c] at h
        cases h
    all_goals cases h
  · unfold mm_inv
    generalize st.drop b = q at h ⊢
    rcases q with _ | ⟨x | x | o, r⟩
    · cases h
    · cases h
    · cases h
    · dsimp only at h ⊢
      by_cases c : mm_ws r ≤ 8 ∧ (mm_kd o).1 = v.toNat
      · rw [if_pos c] at h
        cases h
        intro k
        show mm_wq call R P M (if mm_ws r ≤ 8 then mm_ca ((mm_kd o).1 = v.toNat) a (Sum.inr (Sum.inr o) :: (List.take b st).reverse) (fun q M' => (pc, lv, q.toList ++ r, M')) else none)
        rw [if_pos c.1]
        exact ⟨c.2, k⟩
      · rw [if_neg c] at h
        cases h
  · unfold mm_inv
    generalize st.drop b = q at h ⊢
    rcases q with _ | ⟨x | x | o, r⟩
    · cases h
    · cases h
    · cases h
    · dsimp only at h ⊢
      by_cases c : mm_ws r ≤ 8 ∧ (mm_kd o).1 = v.toNat
      · rw [if_pos c] at h
        cases h
        intro k
        show mm_wq call R P M (if mm_ws r ≤ 8 then mm_ca ((mm_kd o).1 = v.toNat) a (Sum.inr (Sum.inr o) :: (List.take b st).reverse) (fun q M' => (pc, lv, q.toList ++ r, M')) else none)
        rw [if_pos c.1]
        exact ⟨c.2, k⟩
      · rw [if_neg c] at h
        cases h
  · cases h
theorem xldi_ok {i pc : Nat} (hr : xr_ n0 f m M) (h : xldi_ i pc lv st m = some s) : xsk_ call R P n0 f M s (mm_wq call R P M (mm_ld i pc 0 lv st M)) := by
  unfold xldi_ at h
  unfold mm_ld
  cases hk : mm_lk lv i with
  | none => rw [hk] at h; cases h
  | some q =>
    rw [hk] at h
    rcases q with x | x | x
    · cases h
      exact fun k => k M hr
    · cases h
    · cases h
theorem xlda_ok {i pc : Nat} (hr : xr_ n0 f m M) (h : xlda_ i pc lv st m = some s) : xsk_ call R P n0 f M s (mm_wq call R P M (mm_ld i pc 3 lv st M)) := by
  unfold xlda_ at h
  unfold mm_ld
  cases hk : mm_lk lv i with
  | none => rw [hk] at h; cases h
  | some q =>
    rw [hk] at h
    rcases q with x | x | x
    · cases h
    · cases h
    · cases h
      exact fun k => k M hr
theorem xput_ok {pc a b z : Nat} (hr : xr_ n0 f m M) (h : xput_ n0 pc a b z lv st m = some s) : xsk_ call R P n0 f M s (mm_wq call R P M (mm_put pc a b z lv st M)) := by
  unfold xput_ at h
  split at h
  · rcases st with _ | ⟨x | x | x, _ | ⟨y | y | o, r⟩⟩
    · cases h
    · cases h
    · cases h
    · cases h
    · dsimp only at h
      by_cases c : (mm_kd o).1 = a ∧ n0 < o ∧ o ≤ m.1
      · rw [if_pos c] at h
        cases h
        exact fun k => ⟨c.1, k _ (xr_up hr c.2)⟩
      · rw [if_neg c] at h
        cases h
    all_goals cases h
  · rcases st with _ | ⟨x | x | x, _ | ⟨y | y | o, r⟩⟩
    · cases h
    · cases h
    · cases h
    · cases h
    · cases h
    · cases h
    · cases h
    · cases h
    · cases h
    · cases h
    · cases h
    · cases h
    · dsimp only at h
      by_cases c : ((mm_kd o).1 = a ∧ x < 5000) ∧ n0 < o ∧ o ≤ m.1
      · rw [if_pos c] at h
        cases h
        exact fun k => ⟨c.1, k _ (xr_up hr c.2)⟩
      · rw [if_neg c] at h
        cases h
  · cases h
theorem xdo_ok {e : mm_E} (hr : xr_ n0 f m M) (h : xdo_ n0 e lv st m = some s) : xsk_ call R P n0 f M s (mm_wq call R P M (mm_do e lv st M)) := by
  obtain ⟨pc, ins, len, w, a, b, z, v⟩ := e
  cases ins
  case iconst n =>
    have h : some (Sum.inl (pc + len, lv, Sum.inl n :: st, m)) = some s := h
    cases h
    exact fun k => k M hr
  case bipush n =>
    have h : some (Sum.inl (pc + len, lv, Sum.inl n :: st, m)) = some s := h
    cases h
    exact fun k => k M hr
  case sipush n =>
    have h : some (Sum.inl (pc + len, lv, Sum.inl n :: st, m)) = some s := h
    cases h
    exact fun k => k M hr
  case ldc n =>
    rcases z with _ | z
    · have h : some (Sum.inl (pc + len, lv, Sum.inl v :: st, m)) = some s := h
      cases h
      exact fun k => k M hr
    · have h : (none : Option xS_) = some s := h
      cases h
  case iload_n i => exact xldi_ok hr h
  case aload_n i => exact xlda_ok hr h
  case istore_n i =>
    rcases st with _ | ⟨x | x | x, r⟩
    · cases h
    · have h : some (Sum.inl (pc + len, mm_set i (.inl x) lv, r, m)) = some s := h
      cases h
      exact fun k => k M hr
    · cases h
    · cases h
  case iinc i n =>
    have h : (match mm_lk lv i with
      | some (.inl x) => some (Sum.inl (pc + len, mm_set i (.inl (mm_w (x + n))) lv, st, m))
      | _ => none) = some s := h
    show xsk_ call R P n0 f M s (mm_wq call R P M (match mm_lk lv i with
      | some (.inl x) => mm_go (pc + len, mm_set i (.inl (mm_w (x + n))) lv, st, M)
      | _ => none))
    cases hk : mm_lk lv i with
    | none => rw [hk] at h; cases h
    | some q =>
      rw [hk] at h
      rcases q with x | x
      · cases h
        exact fun k => k M hr
      · cases h
  case dup =>
    rcases st with _ | ⟨x | x | x, r⟩
    · cases h
    · cases h
    · cases h
    · have h : some (Sum.inl (pc + len, lv, Sum.inr (Sum.inr x) :: Sum.inr (Sum.inr x) :: r, m)) = some s := h
      cases h
      exact fun k => k M hr
  case goto off =>
    have h : some (Sum.inl (mm_to pc off, lv, st, m)) = some s := h
    cases h
    exact fun k => k M hr
  case if_icmp cc off =>
    rcases st with _ | ⟨y | x | o, _ | ⟨x | x | o, r⟩⟩
    · cases h
    · cases h
    · have h : (match xcc_ cc x y with
        | true => some (Sum.inl (mm_to pc off, lv, r, m))
        | false => some (Sum.inl (pc + len, lv, r, m))) = some s := h
      cases hc : xcc_ cc x y with
      | true =>
        rw [hc] at h
        cases h
        exact fun k => ⟨fun _ => k M hr, fun w => absurd (xcc_t.mp hc) w⟩
      | false =>
        rw [hc] at h
        cases h
        exact fun k => ⟨fun w => absurd (xcc_t.mpr w) (by rw [hc]; decide), fun _ => k M hr⟩
    all_goals cases h
  case getfield i =>
    rcases st with _ | ⟨x | x | o, r⟩
    · cases h
    · cases h
    · cases h
    · have h : (if (mm_kd o).1 = a ∧ n0 < o ∧ o ≤ m.1 then some (Sum.inl (pc + len, lv, mm_val z (xlk_ m.2 o b) :: r, m)) else none) = some s := h
      by_cases c : (mm_kd o).1 = a ∧ n0 < o ∧ o ≤ m.1
      · rw [if_pos c] at h
        cases h
        intro k
        have e : M.2 o b = xlk_ m.2 o b := (hr.2.2.2 o b).trans (if_pos c.2)
        show (mm_kd o).1 = a ∧ P (pc + len, lv, mm_val z (M.2 o b) :: r, M)
        rw [e]
        exact ⟨c.1, k M hr⟩
      · rw [if_neg c] at h
        cases h
  case putfield i => exact xput_ok hr h
  case iastore =>
    rcases st with _ | ⟨x | y | y, _ | ⟨i | y | y, _ | ⟨y | y | o, r⟩⟩⟩
    case cons.inl.cons.inl.cons.inr.inr =>
      have h : (if ((mm_kd o).1 = 20 ∧ 0 ≤ i ∧ i < ((mm_kd o).2 : Int)) ∧ n0 < o ∧ o ≤ m.1 then some (Sum.inl (pc + len, lv, r, (m.1, (o, i.toNat, x) :: m.2))) else none) = some s := h
      by_cases c : ((mm_kd o).1 = 20 ∧ 0 ≤ i ∧ i < ((mm_kd o).2 : Int)) ∧ n0 < o ∧ o ≤ m.1
      · rw [if_pos c] at h
        cases h
        exact fun k => ⟨c.1, k _ (xr_up hr c.2)⟩
      · rw [if_neg c] at h
        cases h
    all_goals cases h
  case aastore =>
    rcases st with _ | ⟨y | y | x, _ | ⟨i | y | y, _ | ⟨y | y | o, r⟩⟩⟩
    case cons.inr.inr.cons.inl.cons.inr.inr =>
      have h : (if ((mm_kd o).1 = 30 + (mm_kd x).1 ∧ 0 < (mm_kd x).1 ∧ (mm_kd x).1 < 20 ∧ 0 ≤ i ∧ i < ((mm_kd o).2 : Int)) ∧ n0 < o ∧ o ≤ m.1 then some (Sum.inl (pc + len, lv, r, (m.1, (o, i.toNat, (x : Int)) :: m.2))) else none) = some s := h
      by_cases c : ((mm_kd o).1 = 30 + (mm_kd x).1 ∧ 0 < (mm_kd x).1 ∧ (mm_kd x).1 < 20 ∧ 0 ≤ i ∧ i < ((mm_kd o).2 : Int)) ∧ n0 < o ∧ o ≤ m.1
      · rw [if_pos c] at h
        cases h
        exact fun k => ⟨c.1, k _ (xr_up hr c.2)⟩
      · rw [if_neg c] at h
        cases h
    all_goals cases h
  case arraylength =>
    rcases z with _ | z
    · rcases st with _ | ⟨x | x | o, r⟩
      · cases h
      · cases h
      · cases h
      · have h : (if 20 ≤ (mm_kd o).1 then some (Sum.inl (pc + len, lv, Sum.inl ((mm_kd o).2 : Int) :: r, m)) else none) = some s := h
        by_cases c : 20 ≤ (mm_kd o).1
        · rw [if_pos c] at h
          cases h
          exact fun k => ⟨c, k M hr⟩
        · rw [if_neg c] at h
          cases h
    · have h : (none : Option xS_) = some s := h
      cases h
  case new i =>
    have h : (if m.1 < mm_max ∧ (mm_kd (m.1 + 1)).1 = a then some (Sum.inl (pc + len, lv, Sum.inr (Sum.inr (m.1 + 1)) :: st, (m.1 + 1, m.2))) else none) = some s := h
    by_cases c : m.1 < mm_max ∧ (mm_kd (m.1 + 1)).1 = a
    · rw [if_pos c] at h
      cases h
      intro k
      show (M.1 < mm_max ∧ (mm_kd (M.1 + 1)).1 = a) ∧ P (pc + len, lv, .inr (.inr (M.1 + 1)) :: st, mm_nw M)
      rw [hr.1]
      exact ⟨c, k _ (xr_nw hr)⟩
    · rw [if_neg c] at h
      cases h
  case newarray t =>
    rcases st with _ | ⟨n | x | o, r⟩
    · cases h
    · have h : (if m.1 < mm_max ∧ mm_kd (m.1 + 1) = (mm_akind t, n.toNat) ∧ 0 ≤ n then some (Sum.inl (pc + len, lv, Sum.inr (Sum.inr (m.1 + 1)) :: r, (m.1 + 1, m.2))) else none) = some s := h
      by_cases c : m.1 < mm_max ∧ mm_kd (m.1 + 1) = (mm_akind t, n.toNat) ∧ 0 ≤ n
      · rw [if_pos c] at h
        cases h
        intro k
        show (M.1 < mm_max ∧ mm_kd (M.1 + 1) = (mm_akind t, n.toNat) ∧ 0 ≤ n) ∧ P (pc + len, lv, .inr (.inr (M.1 + 1)) :: r, mm_nw M)
        rw [hr.1]
        exact ⟨c, k _ (xr_nw hr)⟩
      · rw [if_neg c] at h
        cases h
    · cases h
    · cases h
  case anewarray t =>
    rcases st with _ | ⟨n | x | o, r⟩
    · cases h
    · have h : (if m.1 < mm_max ∧ mm_kd (m.1 + 1) = (30 + a, n.toNat) ∧ 0 ≤ n then some (Sum.inl (pc + len, lv, Sum.inr (Sum.inr (m.1 + 1)) :: r, (m.1 + 1, m.2))) else none) = some s := h
      by_cases c : m.1 < mm_max ∧ mm_kd (m.1 + 1) = (30 + a, n.toNat) ∧ 0 ≤ n
      · rw [if_pos c] at h
        cases h
        intro k
        show (M.1 < mm_max ∧ mm_kd (M.1 + 1) = (30 + a, n.toNat) ∧ 0 ≤ n) ∧ P (pc + len, lv, .inr (.inr (M.1 + 1)) :: r, mm_nw M)
        rw [hr.1]
        exact ⟨c, k _ (xr_nw hr)⟩
      · rw [if_neg c] at h
        cases h
    · cases h
    · cases h
  case invokevirtual i => exact xinv_ok hr h
  case invokestatic i => exact xinv_ok hr h
  case invokespecial i => exact xinv_ok hr h
  case return_ =>
    rcases st with _ | ⟨x, r⟩
    · have h : some (Sum.inr (Sum.inr none)) = some s := h
      cases h
      exact fun k => k
    · cases h
  all_goals
    have h2 : (none : Option xS_) = some s := h
    cases h2
end xsec_
/-! whole methods -/
def xgo_ (run : Nat → List mm_V → xM_ → Option (Option mm_V × xM_)) (n0 : Nat) (code : List mm_E) : Nat → Nat × mm_L × List mm_V × xM_ → Option (Option mm_V × xM_)
  | 0, _ => none
  | k + 1, c => match mm_at code c.1 with
    | none => none
    | some e => match xdo_ n0 e c.2.1 c.2.2.1 c.2.2.2 with
      | none => none
      | some (.inl c') => xgo_ run n0 code k c'
      | some (.inr (.inl q)) => match run q.1 q.2.1 c.2.2.2 with
        | none => none
        | some w => xgo_ run n0 code k (q.2.2.1, q.2.2.2.1, w.1.toList ++ q.2.2.2.2, w.2)
      | some (.inr (.inr v)) => some (v, c.2.2.2)
def xcl_ (n0 : Nat) : Nat → Nat → List mm_V → xM_ → Option (Option mm_V × xM_)
  | 0, _, _, _ => none
  | d + 1, y, as, m => if y < 308 ∧ mm_ws as ≤ mm_mx y then xgo_ (xcl_ n0 d) n0 (mm_code y) 400 (0, mm_args 0 as, [], m) else none
theorem xgo_ok {d n0 : Nat} {f : Nat → Nat → Int} {code : List mm_E} {R : mm_P} {run : Nat → List mm_V → xM_ → Option (Option mm_V × xM_)} (hrun : ∀ y as m w M P, run y as m = some w → xr_ n0 f m M → (∀ M', xr_ n0 f w.2 M' → P w.1 M') → mm_run d y as M P) : ∀ (k : Nat) (c : Nat × mm_L × List mm_V × xM_) (w : Option mm_V × xM_) (M : mm_M), xgo_ run n0 code k c = some w → xr_ n0 f c.2.2.2 M → (∀ M', xr_ n0 f w.2 M' → R w.1 M') → mm_Go (mm_run d) code R (c.1, c.2.1, c.2.2.1, M)
  | 0, _, _, _, h, _, _ => by cases h
  | k + 1, c, w, M, h, hr, hR => by
    have ih := xgo_ok (code := code) (R := R) hrun k
    refine mm_fold (mm_run_mono d) ?_
    unfold xgo_ at h
    cases he : mm_at code c.1 with
    | none => rw [he] at h; cases h
    | some e =>
      rw [nn_wp_wq he]
      rw [he] at h
      dsimp only at h
      cases hs : xdo_ n0 e c.2.1 c.2.2.1 c.2.2.2 with
      | none => rw [hs] at h; cases h
      | some s =>
        rw [hs] at h
        have ok := xdo_ok (call := mm_run d) (R := R) (P := mm_Go (mm_run d) code R) hr hs
        rcases s with c' | q | v
        · exact ok (fun M' hr' => ih c' w M' h hr' hR)
        · dsimp only at h
          cases hv : run q.1 q.2.1 c.2.2.2 with
          | none => rw [hv] at h; cases h
          | some u =>
            rw [hv] at h
            exact ok (hrun q.1 q.2.1 _ u M _ hv hr (fun M' hr' => ih (q.2.2.1, q.2.2.2.1, u.1.toList ++ q.2.2.2.2, u.2) w M' h hr' hR))
        · cases h
          exact ok (hR M hr)
theorem xcl_ok {n0 : Nat} {f : Nat → Nat → Int} : ∀ (d y : Nat) (as : List mm_V) (m : xM_) (w : Option mm_V × xM_) (M : mm_M) (P : mm_P), xcl_ n0 d y as m = some w → xr_ n0 f m M → (∀ M', xr_ n0 f w.2 M' → P w.1 M') → mm_run d y as M P
  | 0, _, _, _, _, _, _, h, _, _ => by cases h
  | d + 1, y, as, m, w, M, P, h, hr, hP => by
    unfold xcl_ at h
    by_cases c : y < 308 ∧ mm_ws as ≤ mm_mx y
    · rw [if_pos c] at h
      have hy : Nat.ble 308 y = false := by
        cases hb : Nat.ble 308 y with
        | false => rfl
        | true => have := Nat.le_of_ble_eq_true hb; omega
      have hb : Nat.ble (mm_ws as) (mm_mx y) = true := Nat.ble_eq_true_of_le c.2
      unfold mm_run
      rw [hy]
      dsimp only
      rw [hb]
      exact xgo_ok (fun y as m w M P => xcl_ok d y as m w M P) 400 (0, mm_args 0 as, [], m) w M h hr hP
    · rw [if_neg c] at h
      cases h
