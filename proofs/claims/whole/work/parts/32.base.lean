/-! the ground of the pure work: locals more than wanted do no harm; depth; where references lie; what a method answers, with that -/
abbrev nn_ext (lv lv' : mm_L) : Prop := ∀ q, q ∈ lv → mm_lk lv' q.1 = some q.2
theorem nn_xn {lv' : mm_L} : nn_ext [] lv' := fun q hq => absurd hq List.not_mem_nil
theorem nn_xc {i : Nat} {v : mm_V} {t lv' : mm_L} (h : mm_lk lv' i = some v) (ht : nn_ext t lv') : nn_ext ((i, v) :: t) lv' := by
  intro q hq
  rcases List.mem_cons.mp hq with e | e
  · subst e; exact h
  · exact ht q e
theorem nn_lk_mem : ∀ {lv : mm_L} {i : Nat} {v : mm_V}, mm_lk lv i = some v → (i, v) ∈ lv
  | [], _, _, h => by cases h
  | q :: t, i, v, h => by
    unfold mm_lk at h
    by_cases e : q.1 = i
    · rw [if_pos e] at h
      have e2 : q.2 = v := Option.some.inj h
      rw [← e, ← e2]
      exact List.mem_cons_self
    · rw [if_neg e] at h
      exact List.mem_cons_of_mem _ (nn_lk_mem h)
theorem nn_ext_lk {lv lv' : mm_L} (h : nn_ext lv lv') {i : Nat} {v : mm_V} (e : mm_lk lv i = some v) : mm_lk lv' i = some v := h _ (nn_lk_mem e)
theorem nn_clash_self (i : Nat) (b : Bool) (q : Nat × mm_V) (h : q.1 = i) : mm_clash i b q = true := by
  unfold mm_clash
  rw [beq_iff_eq.mpr h]
  rfl
theorem nn_set_self : ∀ (lv : mm_L) (i : Nat) (v : mm_V), mm_lk (mm_set i v lv) i = some v
  | [], i, v => by rw [mm_set, mm_lk]; exact if_pos rfl
  | q :: t, i, v => by
    unfold mm_set
    by_cases e : q.1 = i
    · rw [if_pos e]; rw [mm_lk]; exact if_pos rfl
    · rw [if_neg e]
      by_cases e2 : mm_clash i (mm_is2 v) q = true
      · rw [if_pos e2]; exact nn_set_self t i v
      · rw [if_neg e2]; rw [mm_lk]; rw [if_neg e]; exact nn_set_self t i v
theorem nn_clr_lk : ∀ (lv : mm_L) (i : Nat) (b : Bool) (j : Nat) (u : mm_V), mm_lk lv j = some u → mm_clash i b (j, u) = false → mm_lk (mm_clr i b lv) j = some u
  | [], _, _, _, _, h, _ => by cases h
  | q :: t, i, b, j, u, h, hc => by
    unfold mm_lk at h
    unfold mm_clr
    by_cases e : q.1 = j
    · rw [if_pos e] at h
      have e2 : q.2 = u := Option.some.inj h
      have e3 : q = (j, u) := by rw [← e, ← e2]
      rw [e3, hc, if_neg (by decide), mm_lk]
      exact if_pos rfl
    · rw [if_neg e] at h
      by_cases e2 : mm_clash i b q = true
      · rw [if_pos e2]; exact nn_clr_lk t i b j u h hc
      · rw [if_neg e2]; rw [mm_lk]; rw [if_neg e]; exact nn_clr_lk t i b j u h hc
theorem nn_set_lk : ∀ (lv : mm_L) (i : Nat) (v : mm_V) (j : Nat) (u : mm_V), mm_lk lv j = some u → mm_clash i (mm_is2 v) (j, u) = false → mm_lk (mm_set i v lv) j = some u
  | [], _, _, _, _, h, _ => by cases h
  | q :: t, i, v, j, u, h, hc => by
    have hji : ¬ i = j := by
      intro e
      rw [nn_clash_self i _ (j, u) e.symm] at hc
      cases hc
    unfold mm_lk at h
    unfold mm_set
    by_cases e : q.1 = i
    · rw [if_pos e]
      rw [if_neg (by rw [e]; exact hji)] at h
      rw [mm_lk, if_neg hji]
      exact nn_clr_lk t i _ j u h hc
    · rw [if_neg e]
      by_cases e1 : q.1 = j
      · rw [if_pos e1] at h
        have e2 : q.2 = u := Option.some.inj h
        have e3 : q = (j, u) := by rw [← e1, ← e2]
        rw [e3, hc, if_neg (by decide)]
        rw [mm_lk]
        exact if_pos rfl
      · rw [if_neg e1] at h
        by_cases e2 : mm_clash i (mm_is2 v) q = true
        · rw [if_pos e2]; exact nn_set_lk t i v j u h hc
        · rw [if_neg e2]; rw [mm_lk]; rw [if_neg e1]; exact nn_set_lk t i v j u h hc
theorem nn_clr_mem : ∀ {lv : mm_L} {i : Nat} {b : Bool} {q : Nat × mm_V}, q ∈ mm_clr i b lv → q ∈ lv ∧ mm_clash i b q = false
  | [], _, _, _, h => absurd h List.not_mem_nil
  | p :: t, i, b, q, h => by
    unfold mm_clr at h
    by_cases e : mm_clash i b p = true
    · rw [if_pos e] at h
      exact ⟨List.mem_cons_of_mem _ (nn_clr_mem h).1, (nn_clr_mem h).2⟩
    · rw [if_neg e] at h
      rcases List.mem_cons.mp h with r | r
      · subst r; exact ⟨List.mem_cons_self, by simpa using e⟩
      · exact ⟨List.mem_cons_of_mem _ (nn_clr_mem r).1, (nn_clr_mem r).2⟩
theorem nn_set_mem : ∀ {lv : mm_L} {i : Nat} {v : mm_V} {q : Nat × mm_V}, q ∈ mm_set i v lv → q = (i, v) ∨ (q ∈ lv ∧ mm_clash i (mm_is2 v) q = false)
  | [], _, _, _, h => by
    unfold mm_set at h
    exact Or.inl (List.mem_singleton.mp h)
  | p :: t, i, v, q, h => by
    unfold mm_set at h
    by_cases e : p.1 = i
    · rw [if_pos e] at h
      rcases List.mem_cons.mp h with r | r
      · exact Or.inl r
      · exact Or.inr ⟨List.mem_cons_of_mem _ (nn_clr_mem r).1, (nn_clr_mem r).2⟩
    · rw [if_neg e] at h
      by_cases e2 : mm_clash i (mm_is2 v) p = true
      · rw [if_pos e2] at h
        rcases nn_set_mem h with r | r
        · exact Or.inl r
        · exact Or.inr ⟨List.mem_cons_of_mem _ r.1, r.2⟩
      · rw [if_neg e2] at h
        rcases List.mem_cons.mp h with r | r
        · subst r; exact Or.inr ⟨List.mem_cons_self, by simpa using e2⟩
        · rcases nn_set_mem r with r | r
          · exact Or.inl r
          · exact Or.inr ⟨List.mem_cons_of_mem _ r.1, r.2⟩
theorem nn_ext_set {lv lv' : mm_L} (h : nn_ext lv lv') (i : Nat) (v : mm_V) : nn_ext (mm_set i v lv) (mm_set i v lv') := by
  intro q hq
  rcases nn_set_mem hq with r | r
  · subst r; exact nn_set_self _ _ _
  · exact nn_set_lk _ _ _ _ _ (h q r.1) r.2
/-- the same step, with other locals -/
def nn_rep (l : mm_L) (s : Option mm_S) : Option mm_S := match s with
  | none => none
  | some (.inl c) => some (.inl (c.1, l, c.2.2))
  | some (.inr (.inl (C, c))) => some (.inr (.inl (C, (c.1, l, c.2.2))))
  | some (.inr (.inr (.inl (C, c1, c2)))) => some (.inr (.inr (.inl (C, (c1.1, l, c1.2.2), (c2.1, l, c2.2.2)))))
  | some (.inr (.inr (.inr (.inl (C, y, as, k))))) => some (.inr (.inr (.inr (.inl (C, y, as, fun q M' => ((k q M').1, l, (k q M').2.2))))))
  | some (.inr (.inr (.inr (.inr x)))) => some (.inr (.inr (.inr (.inr x))))
def nn_hasl (i : Instr) : Bool := match i with
  | .iload _ => true
  | .iload_n _ => true
  | .lload _ => true
  | .lload_n _ => true
  | .aload _ => true
  | .aload_n _ => true
  | .istore _ => true
  | .istore_n _ => true
  | .lstore _ => true
  | .lstore_n _ => true
  | .astore _ => true
  | .astore_n _ => true
  | .iinc _ _ => true
  | _ => false
set_option maxHeartbeats 4000000 in
theorem nn_nat (e : mm_E) (hl : nn_hasl e.2.1 = false) (l : mm_L) (st : List mm_V) (M : mm_M) : mm_do e l st M = nn_rep l (mm_do e [] st M) := by
  obtain ⟨pc, ins, len, w, a, b, z, v⟩ := e
  cases ins <;> first
    | rfl
    | (exact absurd (show true = false from hl) Bool.noConfusion)
    | (simp only [mm_do, mm_b2, mm_b2l, mm_bsl, mm_ald, mm_ast, mm_get, mm_put, nn_rep]; split <;> first | rfl | (split <;> first | rfl | (split <;> rfl)))
    | (simp only [mm_do, mm_inv]; split <;> (try split) <;> (try split) <;> first | rfl)
