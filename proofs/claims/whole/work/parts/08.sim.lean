/-! the tables' knowledge; what stands still while a method runs -/
def mm_slen : List Nat := [2, 5, 3, 6, 5]
def mm_sbyt : List (List Int32) := [[98, 121], [119, 104, 101, 114, 101], [97, 110, 100], [117, 110, 105, 113, 117, 101], [109, 101, 110, 100, 115]]
def mm_KS (γ : mm_G) (U : State) : Prop := vk_S 5 mm_slen mm_sbyt (fun j => γ.2.2.2 (6000 + j)) (fun j => γ.2.2.2 (7000 + j)) (fun q => γ.1.size ≤ q) U γ.1 ∧ va_Z "java/lang/String" "COMPACT_STRINGS" "Z" (.int 1) (fun q => γ.1.size ≤ q) U γ.1 ∧ va_Zq "jdk/internal/util/Preconditions" "SIOOBE_FORMATTER" "Ljava/util/function/BiFunction;" (fun q => γ.1.size ≤ q) U γ.1
def mm_Kn (γ : mm_G) (U : State) : Prop :=
  (∀ c : Nat, 0 < c → c < 14 → u_Kn U (mm_cn c) (mm_F c) (mm_N c) (γ.2.1.1 c) (γ.2.1.2 c)) ∧
  (∀ c : Nat, c ∈ [20, 21, 22, 33, 35, 39, 42] → ArrOfT U (γ.2.2.1 c) (mm_tyA c) ∧ va_RA U (γ.2.2.1 c) (mm_tyA c)) ∧
  (∀ c : Nat, c ∈ [3, 5, 9, 12] → va_AO (mm_cn c) U) ∧
  (∀ r : String × Nat × Nat × Nat × Nat × Nat, r ∈ mm_nests → va_Nw (mm_nestw r) U) ∧
  (∀ (j : Nat) (r : String × Nat × String), mm_sl[j]? = some r → vk_R r.1 r.2.1 r.2.2 (γ.2.2.2 (6000 + j)) U) ∧ mm_KS γ U
theorem mm_KS.moved {γ : mm_G} {u U : State} (ha : u.vm.Alike U.vm) (h : mm_KS γ u) : mm_KS γ U := ⟨h.1.moved ha, h.2.1.moved ha, h.2.2.moved ha⟩
theorem mm_Kn.same {γ : mm_G} {u U : State} (hv : u.vm = U.vm) (h : mm_Kn γ u) : mm_Kn γ U := by
  have ha : u.vm.Alike U.vm := by rw [hv]; exact Vm.Alike.refl _
  exact ⟨fun c h1 h2 => u_Kn_moved ha (h.1 c h1 h2), fun c hc => ⟨arrOfT_moved ha (h.2.1 c hc).1, (h.2.1 c hc).2.moved ha⟩, fun c hc => (h.2.2.1 c hc).moved ha, fun r hr => (h.2.2.2.1 r hr).same rfl hv, fun j r hr => (h.2.2.2.2.1 j r hr).same hv.symm, h.2.2.2.2.2.moved ha⟩
theorem mm_Kn.warm {γ : mm_G} {s U : State} (hW : s.WarmedH U.vm) (h : mm_Kn γ s) : mm_Kn γ U := by
  have ha : s.vm.Alike U.vm := hW.alike
  exact ⟨fun c h1 h2 => u_Kn_moved ha (h.1 c h1 h2), fun c hc => ⟨arrOfT_moved ha (h.2.1 c hc).1, (h.2.1 c hc).2.moved ha⟩, fun c hc => (h.2.2.1 c hc).moved ha, fun r hr => (h.2.2.2.1 r hr).warmM hW, fun j r hr => (h.2.2.2.2.1 j r hr).warm hW, h.2.2.2.2.2.moved ha⟩
def mm_Ctx (p : Program) (R : Room) (s : State) (m : MethodId) (args : Array Value) (meth : Method) (c : Code) (γ : mm_G) (y d : Nat) : Prop :=
  p.tables.exec = Jvm.exec ∧ c.code = mm_b y ∧ c.maxLocals = mm_mx y ∧ s.vm.findClass (mm_y y).cls = some m.cls ∧ (∀ w ∈ mm_W, w.before args s = true) ∧ (y ≠ 0 → meth.name = (mm_y y).name) ∧ mm_Kn γ s ∧ d + 1 ≤ R.frames ∧ 47 + 47 * d ≤ R.locals
def mm_E1 (γ : mm_G) (lv : mm_L) : List (Nat × Value) := lv.map (fun q => (q.1, mm_ev γ q.2))
theorem mm_lk_mem : ∀ {lv : mm_L} {i : Nat} {v : mm_V}, mm_lk lv i = some v → (i, v) ∈ lv
  | [], _, _, h => by cases h
  | q :: t, i, v, h => by
    unfold mm_lk at h
    by_cases e : q.1 = i
    · rw [if_pos e] at h
      cases h
      rw [← e]
      exact List.mem_cons_self
    · rw [if_neg e] at h
      exact List.mem_cons_of_mem _ (mm_lk_mem h)
theorem mm_clr_mem {i : Nat} {two : Bool} : ∀ {lv : mm_L} {q : Nat × mm_V}, q ∈ mm_clr i two lv → q ∈ lv ∧ mm_clash i two q = false
  | [], _, h => by cases h
  | t :: l, q, h => by
    unfold mm_clr at h
    by_cases e : mm_clash i two t = true
    · rw [if_pos e] at h
      exact ⟨List.mem_cons_of_mem _ (mm_clr_mem h).1, (mm_clr_mem h).2⟩
    · rw [if_neg e] at h
      rcases List.mem_cons.mp h with h | h
      · subst h
        exact ⟨List.mem_cons_self, by simpa using e⟩
      · exact ⟨List.mem_cons_of_mem _ (mm_clr_mem h).1, (mm_clr_mem h).2⟩
theorem mm_set_mem {i : Nat} {v : mm_V} : ∀ {lv : mm_L} {q : Nat × mm_V}, q ∈ mm_set i v lv → q = (i, v) ∨ (q ∈ lv ∧ mm_clash i (mm_is2 v) q = false)
  | [], q, h => by
    unfold mm_set at h
    exact Or.inl (List.mem_singleton.mp h)
  | t :: l, q, h => by
    unfold mm_set at h
    by_cases e : t.1 = i
    · rw [if_pos e] at h
      rcases List.mem_cons.mp h with h | h
      · exact Or.inl h
      · exact Or.inr ⟨List.mem_cons_of_mem _ (mm_clr_mem h).1, (mm_clr_mem h).2⟩
    · rw [if_neg e] at h
      by_cases e2 : mm_clash i (mm_is2 v) t = true
      · rw [if_pos e2] at h
        rcases mm_set_mem h with h | h
        · exact Or.inl h
        · exact Or.inr ⟨List.mem_cons_of_mem _ h.1, h.2⟩
      · rw [if_neg e2] at h
        rcases List.mem_cons.mp h with h | h
        · subst h
          exact Or.inr ⟨List.mem_cons_self, by simpa using e2⟩
        · rcases mm_set_mem h with h | h
          · exact Or.inl h
          · exact Or.inr ⟨List.mem_cons_of_mem _ h.1, h.2⟩
theorem mm_cat (γ : mm_G) (v : mm_V) : (mm_ev γ v).category = if mm_is2 v = true then 2 else 1 := by
  rcases v with x | x | k
  · rfl
  · rfl
  · show (if k = 0 then Value.null else Value.ref (mm_ad γ k)).category = 1
    by_cases h : k = 0
    · rw [if_pos h]; rfl
    · rw [if_neg h]; rfl
theorem mm_hset1 {γ : mm_G} {ls : Array Slot} {nL i : Nat} {v : mm_V} {lv : mm_L} (h2 : mm_is2 v = false) (h : lv_has ls nL ((i, mm_ev γ v) :: (mm_E1 γ lv).filter (fun q => !(q.1 == i) && !(q.1 + 1 == i && q.2.category == 2)))) : lv_has ls nL (mm_E1 γ (mm_set i v lv)) := by
  refine ⟨h.1, h.2.1, fun q hq => h.2.2 q ?_⟩
  obtain ⟨u, hu, rfl⟩ := List.mem_map.mp hq
  rcases mm_set_mem hu with e | ⟨e, f⟩
  · subst e
    exact List.mem_cons_self
  · refine List.mem_cons_of_mem _ (List.mem_filter.mpr ⟨List.mem_map.mpr ⟨u, e, rfl⟩, ?_⟩)
    unfold mm_clash at f
    rw [h2] at f
    have hc : ((mm_ev γ u.2).category == 2) = mm_is2 u.2 := by
      rw [mm_cat]
      cases mm_is2 u.2 <;> rfl
    simp only [hc]
    cases h5 : (u.1 == i) <;> cases h6 : (u.1 + 1 == i) <;> cases h7 : mm_is2 u.2 <;> simp_all
theorem mm_hset2 {γ : mm_G} {ls : Array Slot} {nL i : Nat} {v : mm_V} {lv : mm_L} (h2 : mm_is2 v = true) (h : lv_has ls nL ((i, mm_ev γ v) :: (mm_E1 γ lv).filter (fun q => !(q.1 == i) && (!(q.1 == i + 1) && !(q.1 + 1 == i && q.2.category == 2))))) : lv_has ls nL (mm_E1 γ (mm_set i v lv)) := by
  refine ⟨h.1, h.2.1, fun q hq => h.2.2 q ?_⟩
  obtain ⟨u, hu, rfl⟩ := List.mem_map.mp hq
  rcases mm_set_mem hu with e | ⟨e, f⟩
  · subst e
    exact List.mem_cons_self
  · refine List.mem_cons_of_mem _ (List.mem_filter.mpr ⟨List.mem_map.mpr ⟨u, e, rfl⟩, ?_⟩)
    unfold mm_clash at f
    rw [h2] at f
    have hc : ((mm_ev γ u.2).category == 2) = mm_is2 u.2 := by
      rw [mm_cat]
      cases mm_is2 u.2 <;> rfl
    simp only [hc]
    cases h5 : (u.1 == i) <;> cases h6 : (u.1 + 1 == i) <;> cases h7 : mm_is2 u.2 <;> cases h8 : (u.1 == i + 1) <;> simp_all
theorem mm_set_ok {n i : Nat} {v : mm_V} {lv : mm_L} (h : ∀ q ∈ lv, mm_okv n q.2) (hv : mm_okv n v) : ∀ q ∈ mm_set i v lv, mm_okv n q.2 := by
  intro q hq
  rcases mm_set_mem hq with e | e
  · rw [e]; exact hv
  · exact h q e.1
/-- the memory begins, one cell more -/
theorem mm_Rel.new {γ : mm_G} {M : mm_M} {H H' : Heap} (h : mm_Rel γ M H) (hm : M.1 < mm_max) (hz : H'.size = H.size + 1) (hq : ∀ q : Nat, q < H.size → H'[q]? = H[q]?) (hc : mm_cell γ (M.1 + 1) (fun j => mm_ev γ (mm_val (mm_zk (M.1 + 1) j) 0)) H') : mm_Rel γ (mm_nw M) H' := by
  obtain ⟨h1, h2, h3, h4⟩ := h
  have hM : mm_max = 887 := rfl
  refine ⟨by rw [hz, h1]; rfl, hm, ⟨fun q hlt => by rw [hq q (by omega)]; exact h3.1 q hlt, mm_scr_of h3.2 (if_neg (by omega)) (fun j => if_neg (by omega))⟩, fun k hk1 hk2 => ?_⟩
  by_cases hk : k = M.1 + 1
  · subst hk
    have e : ∀ j, (mm_nw M).2 (M.1 + 1) j = 0 := fun j => if_pos rfl
    have e2 : mm_fv γ (mm_nw M) (M.1 + 1) = fun j => mm_ev γ (mm_val (mm_zk (M.1 + 1) j) 0) := funext fun j => by
      unfold mm_fv
      rw [e j]
    rw [e2]
    refine ⟨hc, fun j _ => ?_⟩
    rw [e j]
    generalize mm_zk (M.1 + 1) j = z
    match z with
    | 0 => exact ⟨by decide, by decide⟩
    | 1 => exact ⟨by decide, by decide⟩
    | 2 => exact Or.inl rfl
    | _ + 3 => exact ⟨Int.le_refl _, Int.natCast_nonneg _⟩
  · have hk3 : k ≤ M.1 := by
      have : k ≤ M.1 + 1 := hk2
      omega
    have e : ∀ j, (mm_nw M).2 k j = M.2 k j := fun j => if_neg hk
    have e2 : mm_fv γ (mm_nw M) k = mm_fv γ M k := funext fun j => by
      unfold mm_fv
      rw [e j]
    rw [e2]
    have ha := mm_ad_in (γ := γ) hk1 (show k ≤ 887 by omega)
    have hqk := hq (mm_ad γ k) (by omega)
    refine ⟨⟨fun q => ((h4 k hk1 hk3).1.1 q).kept hqk, fun q => by rw [hqk]; exact (h4 k hk1 hk3).1.2 q⟩, fun j hj => ?_⟩
    rw [e j]
    exact mm_okn_mono (Nat.le_succ _) ((h4 k hk1 hk3).2 j hj)
