theorem nn_rep_wq {call : mm_K} (hm : mm_mono call) {R : mm_P} {P P' : mm_C → Prop} {l l' : mm_L} {M : mm_M} (hP : ∀ pc st M, P (pc, l, st, M) → P' (pc, l', st, M)) {s : Option mm_S} (h : mm_wq call R P M (nn_rep l s)) : mm_wq call R P' M (nn_rep l' s) := by
  rcases s with _ | ⟨pc, l0, st, M1⟩ | ⟨C, pc, l0, st, M1⟩ | ⟨C, ⟨pc, l0, st, M1⟩, ⟨pc2, l2, st2, M2⟩⟩ | ⟨C, y, as, k⟩ | v | ⟨C, v⟩
  · exact h.elim
  · exact hP _ _ _ h
  · exact ⟨h.1, hP _ _ _ h.2⟩
  · exact ⟨fun c => hP _ _ _ (h.1 c), fun c => hP _ _ _ (h.2 c)⟩
  · exact ⟨h.1, hm _ _ _ _ _ (fun v M' q => hP _ _ _ q) h.2⟩
  · exact h
  · exact h
theorem nn_do_ext {call : mm_K} (hm : mm_mono call) {R : mm_P} {P P' : mm_C → Prop} {lv lv' : mm_L} {st : List mm_V} {M : mm_M} {e : mm_E} (hx : nn_ext lv lv') (hP : ∀ pc l l' st M, nn_ext l l' → P (pc, l, st, M) → P' (pc, l', st, M)) (h : mm_wq call R P M (mm_do e lv st M)) : mm_wq call R P' M (mm_do e lv' st M) := by
  cases hl : nn_hasl e.2.1 with
  | false =>
    rw [nn_nat e hl] at h ⊢
    exact nn_rep_wq hm (fun pc st M q => hP _ _ _ _ _ hx q) h
  | true =>
    obtain ⟨pc, ins, len, w, a, b, z, v⟩ := e
    have ld : ∀ i t, mm_wq call R P M (mm_ld i (pc + len) t lv st M) → mm_wq call R P' M (mm_ld i (pc + len) t lv' st M) := by
      intro i t h
      unfold mm_ld at h ⊢
      cases hk : mm_lk lv i with
      | none => rw [hk] at h; split at h <;> first | exact h.elim | (rename_i q; cases q)
      | some x =>
        rw [hk] at h
        rw [nn_ext_lk hx hk]
        split at h <;> first | exact h.elim | exact hP _ _ _ _ _ hx h
    have so : ∀ i t, mm_wq call R P M (mm_sto i (pc + len) t lv st M) → mm_wq call R P' M (mm_sto i (pc + len) t lv' st M) := by
      intro i t h
      unfold mm_sto at h ⊢
      split at h <;> first | exact h.elim | exact hP _ _ _ _ _ (nn_ext_set hx _ _) h
    cases ins <;> first
      | (exact absurd (show false = true from hl) Bool.noConfusion)
      | exact ld _ _ h
      | exact so _ _ h
      | skip
    rename_i i n
    show mm_wq call R P' M (match mm_lk lv' i with
      | some (.inl x) => mm_go (pc + len, mm_set i (.inl (mm_w (x + n))) lv', st, M)
      | _ => none)
    have h2 : mm_wq call R P M (match mm_lk lv i with
      | some (.inl x) => mm_go (pc + len, mm_set i (.inl (mm_w (x + n))) lv, st, M)
      | _ => none) := h
    cases hk : mm_lk lv i with
    | none => rw [hk] at h2; exact h2.elim
    | some x =>
      rw [hk] at h2
      rw [nn_ext_lk hx hk]
      rcases x with x | x
      · exact hP _ _ _ _ _ (nn_ext_set hx _ _) h2
      · exact h2.elim
theorem nn_wp_wq {call : mm_K} {code : List mm_E} {R : mm_P} {P : mm_C → Prop} {pc : Nat} {lv : mm_L} {st : List mm_V} {M : mm_M} {e : mm_E} (he : mm_at code pc = some e) : mm_wp call code R P (pc, lv, st, M) ↔ mm_wq call R P M (mm_do e lv st M) := by
  unfold mm_wp
  dsimp only
  rw [he]
  exact Iff.rfl
theorem nn_go_ext0 {d : Nat} {code : List mm_E} {R : mm_P} {c : mm_C} (h : mm_Go (mm_run d) code R c) : ∀ lv', nn_ext c.2.1 lv' → mm_Go (mm_run d) code R (c.1, lv', c.2.2) := by
  refine h (fun c => ∀ lv', nn_ext c.2.1 lv' → mm_Go (mm_run d) code R (c.1, lv', c.2.2)) ?_
  intro c hw lv' hx
  obtain ⟨pc, lv, st, M⟩ := c
  refine mm_fold (mm_run_mono d) ?_
  cases he : mm_at code pc with
  | none =>
    unfold mm_wp at hw
    dsimp only at hw
    rw [he] at hw
    exact hw.elim
  | some e =>
    rw [nn_wp_wq he] at hw
    show mm_wp _ _ _ _ (pc, lv', st, M)
    rw [nn_wp_wq he]
    exact nn_do_ext (mm_run_mono d) hx (fun pc l l' st M hx q => q l' hx) hw
theorem nn_go_ext {d : Nat} {code : List mm_E} {R : mm_P} {pc : Nat} {lv lv' : mm_L} {st : List mm_V} {M : mm_M} (hx : nn_ext lv lv') (h : mm_Go (mm_run d) code R (pc, lv, st, M)) : mm_Go (mm_run d) code R (pc, lv', st, M) := nn_go_ext0 h lv' hx
theorem nn_go_call {call call' : mm_K} (hm : mm_mono call') (hc : ∀ y as M P, call y as M P → call' y as M P) {code : List mm_E} {R : mm_P} {c : mm_C} (h : mm_Go call code R c) : mm_Go call' code R c := by
  refine h _ ?_
  intro c hw
  refine mm_fold hm ?_
  unfold mm_wp at hw ⊢
  cases he : mm_at code c.1 with
  | none => rw [he] at hw; exact hw.elim
  | some e =>
    rw [he] at hw
    dsimp only at hw ⊢
    cases hs : mm_do e c.2.1 c.2.2.1 c.2.2.2 with
    | none => rw [hs] at hw; exact hw.elim
    | some s =>
      rw [hs] at hw
      rcases s with c' | ⟨C, c'⟩ | ⟨C, c1, c2⟩ | ⟨C, y, as, k⟩ | v | ⟨C, v⟩
      · exact hw
      · exact hw
      · exact hw
      · exact ⟨hw.1, hc _ _ _ _ hw.2⟩
      · exact hw
      · exact hw
theorem nn_run_1 : ∀ (d y : Nat) (as : List mm_V) (M : mm_M) (P : mm_P), mm_run d y as M P → mm_run (d + 1) y as M P
  | 0, _, _, _, _, h => h.elim
  | d + 1, y, as, M, P, h => by
    unfold mm_run at h ⊢
    cases hy : Nat.ble 308 y with
    | true => rw [hy] at h; exact ⟨Nat.le_succ_of_le h.1, h.2⟩
    | false =>
      rw [hy] at h
      dsimp only at h ⊢
      cases hb : Nat.ble (mm_ws as) (mm_mx y) with
      | true => rw [hb] at h; exact nn_go_call (mm_run_mono (d + 1)) (nn_run_1 d) h
      | false => rw [hb] at h; exact h.elim
theorem nn_run_le {d d' : Nat} (hd : d ≤ d') {y : Nat} {as : List mm_V} {M : mm_M} {P : mm_P} (h : mm_run d y as M P) : mm_run d' y as M P := by
  induction hd with
  | refl => exact h
  | step _ ih => exact nn_run_1 _ _ _ _ _ ih
theorem nn_call {D d : Nat} {y : Nat} {as : List mm_V} {M : mm_M} {P P' : mm_P} (hd : D ≤ d) (h : mm_run D y as M P) (k : ∀ v M', P v M' → P' v M') : mm_run d y as M P' := nn_run_le hd (mm_run_mono D _ _ _ _ _ k h)
/-! what is read and written -/
def nn_rf (M : mm_M) (o b : Nat) : Int := M.2 o b
def nn_ri (M : mm_M) (o : Nat) (i : Int) : Int := M.2 o i.toNat
def nn_rr (M : mm_M) (o : Nat) (i : Int) : Nat := (M.2 o i.toNat).toNat
def nn_uf (M : mm_M) (o b : Nat) (x : Int) : mm_M := mm_up M o b x
def nn_ui (M : mm_M) (o : Nat) (i x : Int) : mm_M := mm_up M o i.toNat x

/-- a reference's place in an object, or in an array of the fixed ones: how far behind it what it names lies -/
def nn_off (c b : Nat) : Nat := match c with
  | 1 => (match b with | 0 => 1 | 1 => 160 | 2 => 319 | 3 => 401 | 4 => 405 | _ => 0)
  | 3 => (match b with | 0 => 1 | 1 => 2 | _ => 0)
  | 4 => (match b with | 0 => 1 | _ => 0)
  | 5 => (match b with | 0 => 1 | 1 => 4 | 2 => 6 | 3 => 8 | 4 => 14 | _ => 0)
  | 6 => (match b with | 0 => 1 | 1 => 2 | 2 => 3 | 3 => 4 | 4 => 5 | _ => 0)
  | 7 => (match b with | 0 => 1 | 1 => 2 | 2 => 3 | _ => 0)
  | 8 => (match b with | 0 => 1 | 1 => 2 | _ => 0)
  | 9 => (match b with | 0 => 1 | 1 => 3 | 2 => 85 | 3 => 86 | 4 => 87 | 5 => 88 | 6 => 89 | _ => 0)
  | 10 => (match b with | 0 => 1 | 1 => 4 | 2 => 7 | 3 => 8 | 4 => 9 | _ => 0)
  | 11 => (match b with | 0 => 1 | _ => 0)
  | 12 => (match b with | 0 => 1 | 1 => 2 | _ => 0)
  | 13 => (match b with | 0 => 1 | 1 => 2 | 10 => 3 | _ => 0)
  | 35 => if b < 4 then 5 + 15 * b else 0
  | 33 => if b < 3 then 64 + 3 * b else 0
  | _ => 0
def nn_N (n : Nat) : Prop := n = 410 ∨ n = 569 ∨ n = 728 ∨ n = 887
def nn_C (c o n : Nat) : Prop := (mm_kd o).1 = c ∧ o ≤ n
def nn_L (M : mm_M) : Prop := nn_N M.1 ∧ (∀ o b, o ≤ M.1 → nn_off (mm_kd o).1 b ≠ 0 → M.2 o b = ((o + nn_off (mm_kd o).1 b : Nat) : Int)) ∧ (∀ o b, o ≤ M.1 → (mm_kd o).1 = 42 → b < 24 → ∃ j, j < 24 ∧ M.2 o b = ((o + 3 + 3 * j : Nat) : Int)) ∧ (∀ b, b < 3 → M.2 406 b = 0 ∨ ∃ j, j < 3 ∧ 411 + 159 * j + 158 ≤ M.1 ∧ M.2 406 b = ((411 + 159 * j : Nat) : Int))
def nn_ok (c b : Nat) : Bool := nn_off c b == 0 && (c != 42 && c != 39)
theorem nn_L_n {M : mm_M} {n : Nat} (L : nn_L M) (N : M.1 = n) : nn_N n := N ▸ L.1
theorem nn_kd406 : mm_kd 406 = (39, 3) := by decide +kernel
theorem nn_L_up {M : mm_M} {o b c : Nat} {x : Int} (L : nn_L M) (hk : (mm_kd o).1 = c) (h : nn_ok c b = true) : nn_L (mm_up M o b x) := by
  unfold nn_ok at h
  rw [Bool.and_eq_true, Bool.and_eq_true, beq_iff_eq, bne_iff_ne, bne_iff_ne] at h
  refine ⟨L.1, ?_, ?_, ?_⟩
  · intro o' b' h1 h2
    have : ¬ (o' = o ∧ b' = b) := by
      rintro ⟨rfl, rfl⟩
      rw [hk] at h2
      exact h2 h.1
    show (if o' = o ∧ b' = b then x else M.2 o' b') = _
    rw [if_neg this]
    exact L.2.1 o' b' h1 h2
  · intro o' b' h1 h2 h3
    have : ¬ (o' = o ∧ b' = b) := by
      rintro ⟨rfl, rfl⟩
      rw [hk] at h2
      exact h.2.1 h2
    show ∃ j, j < 24 ∧ (if o' = o ∧ b' = b then x else M.2 o' b') = _
    rw [if_neg this]
    exact L.2.2.1 o' b' h1 h2 h3
  · intro b' h3
    have : ¬ (406 = o ∧ b' = b) := by
      rintro ⟨rfl, rfl⟩
      rw [nn_kd406] at hk
      exact h.2.2 hk.symm
    show (if 406 = o ∧ b' = b then x else M.2 406 b') = 0 ∨ ∃ j, j < 3 ∧ 411 + 159 * j + 158 ≤ M.1 ∧ (if 406 = o ∧ b' = b then x else M.2 406 b') = _
    rw [if_neg this]
    exact L.2.2.2 b' h3
theorem nn_L_ua {M : mm_M} {o b c : Nat} {x : Int} (L : nn_L M) (hk : (mm_kd o).1 = c) (h : 20 ≤ c ∧ c < 23) : nn_L (mm_up M o b x) := by
  have : c = 20 ∨ c = 21 ∨ c = 22 := by omega
  rcases this with rfl | rfl | rfl
  · exact nn_L_up L hk rfl
  · exact nn_L_up L hk rfl
  · exact nn_L_up L hk rfl
theorem nn_L_u42 {M : mm_M} {o b : Nat} {x : Nat} (L : nn_L M) (hk : (mm_kd o).1 = 42) (h : ∃ j, j < 24 ∧ x = o + 3 + 3 * j) : nn_L (mm_up M o b (x : Int)) := by
  refine ⟨L.1, ?_, ?_, ?_⟩
  · intro o' b' h1 h2
    have : ¬ (o' = o ∧ b' = b) := by
      rintro ⟨rfl, rfl⟩
      rw [hk] at h2
      exact h2 rfl
    show (if o' = o ∧ b' = b then (x : Int) else M.2 o' b') = _
    rw [if_neg this]
    exact L.2.1 o' b' h1 h2
  · intro o' b' h1 h2 h3
    show ∃ j, j < 24 ∧ (if o' = o ∧ b' = b then (x : Int) else M.2 o' b') = _
    by_cases q : o' = o ∧ b' = b
    · rw [if_pos q]
      obtain ⟨j, hj, e⟩ := h
      exact ⟨j, hj, by rw [e, q.1]⟩
    · rw [if_neg q]
      exact L.2.2.1 o' b' h1 h2 h3
  · intro b' h3
    have : ¬ (406 = o ∧ b' = b) := by
      rintro ⟨rfl, rfl⟩
      rw [nn_kd406] at hk
      cases hk
    show (if 406 = o ∧ b' = b then (x : Int) else M.2 406 b') = 0 ∨ ∃ j, j < 3 ∧ 411 + 159 * j + 158 ≤ M.1 ∧ (if 406 = o ∧ b' = b then (x : Int) else M.2 406 b') = _
    rw [if_neg this]
    exact L.2.2.2 b' h3
theorem nn_L_cp {M : mm_M} {s d c : Nat} {sp dp n : Int} (L : nn_L M) (hk : (mm_kd d).1 = c) (h : 20 ≤ c ∧ c < 23) : nn_L (mm_cp M s sp d dp n) := by
  have hne : ∀ o' b', nn_off (mm_kd o').1 b' ≠ 0 ∨ (mm_kd o').1 = 42 ∨ o' = 406 → o' ≠ d := by
    rintro o' b' h2 rfl
    have : c = 20 ∨ c = 21 ∨ c = 22 := by omega
    rcases h2 with h2 | h2 | h2
    · rw [hk] at h2
      rcases this with rfl | rfl | rfl <;> exact h2 rfl
    · rw [hk] at h2
      omega
    · subst h2
      rw [nn_kd406] at hk
      simp only at hk
      omega
  refine ⟨L.1, ?_, ?_, ?_⟩
  · intro o' b' h1 h2
    show (if o' = d ∧ _ then _ else M.2 o' b') = _
    rw [if_neg (fun q => hne o' b' (Or.inl h2) q.1)]
    exact L.2.1 o' b' h1 h2
  · intro o' b' h1 h2 h3
    show ∃ j, j < 24 ∧ (if o' = d ∧ _ then _ else M.2 o' b') = _
    rw [if_neg (fun q => hne o' b' (Or.inr (Or.inl h2)) q.1)]
    exact L.2.2.1 o' b' h1 h2 h3
  · intro b' h3
    show (if 406 = d ∧ _ then _ else M.2 406 b') = 0 ∨ ∃ j, j < 3 ∧ 411 + 159 * j + 158 ≤ M.1 ∧ (if 406 = d ∧ _ then _ else M.2 406 b') = _
    rw [if_neg (fun q => hne 406 b' (Or.inr (Or.inr rfl)) q.1)]
    exact L.2.2.2 b' h3
/-! the kinds of what references name: looked through once -/
def nn_tab : List (Nat × Nat × Nat × Nat) := [(1, 1, 9, 14), (1, 160, 9, 14), (1, 319, 10, 9), (1, 401, 7, 5), (1, 405, 39, 3), (3, 1, 20, 32), (3, 2, 20, 48), (4, 1, 21, 0), (5, 1, 8, 3), (5, 4, 4, 2), (5, 6, 4, 2), (5, 8, 6, 6), (5, 14, 20, 32), (6, 1, 21, 144), (6, 2, 20, 25), (6, 3, 20, 24), (6, 4, 20, 24), (6, 5, 20, 24), (7, 1, 20, 201), (7, 2, 20, 201), (7, 3, 20, 201), (8, 1, 20, 35), (8, 2, 20, 3), (9, 1, 11, 2), (9, 3, 10, 9), (9, 85, 35, 4), (9, 86, 33, 3), (9, 87, 2, 6), (9, 88, 20, 6), (9, 89, 20, 32), (10, 1, 12, 5), (10, 4, 12, 5), (10, 7, 42, 24), (10, 8, 20, 24), (10, 9, 20, 24), (11, 1, 20, 200), (12, 1, 20, 32), (12, 2, 20, 32), (13, 1, 20, 32844), (13, 2, 22, 3), (13, 3, 20, 32)]
def nn_tabok (o : Nat) : Bool := let c := (mm_kd o).1; nn_tab.all (fun q => q.1 != c || ((mm_kd (o + q.2.1)).1 == q.2.2.1 && ((q.2.2.2 == 0 || (mm_kd (o + q.2.1)).2 == q.2.2.2) && [410, 569, 728, 887].all (fun n => !(Nat.ble o n) || Nat.ble (o + q.2.1) n))))
theorem nn_tab_all : (List.range 888).all nn_tabok = true := by decide +kernel
theorem nn_kid {c o n off k sz : Nat} (N : nn_N n) (C : nn_C c o n) (hm : (c, off, k, sz) ∈ nn_tab) : nn_C k (o + off) n ∧ (sz ≠ 0 → mm_kd (o + off) = (k, sz)) := by
  have ho : o < 888 := by
    have := C.2
    unfold nn_N at N
    omega
  have h := List.all_eq_true.mp nn_tab_all o (List.mem_range.mpr ho)
  have h2 := List.all_eq_true.mp h _ hm
  rw [C.1] at h2
  simp only [bne_self_eq_false, Bool.false_or, Bool.and_eq_true, beq_iff_eq, Bool.or_eq_true] at h2
  obtain ⟨h3, h4, h5⟩ := h2
  refine ⟨⟨h3, ?_⟩, ?_⟩
  · have hn : n ∈ [410, 569, 728, 887] := by
      unfold nn_N at N
      rcases N with rfl | rfl | rfl | rfl <;> simp
    have h6 := List.all_eq_true.mp h5 n hn
    simp only [Bool.or_eq_true, Bool.not_eq_true'] at h6
    rcases h6 with h6 | h6
    · have := C.2
      exact absurd (Nat.ble_eq_true_of_le this) (by rw [h6]; exact Bool.noConfusion)
    · exact Nat.le_of_ble_eq_true h6
  · intro hz
    rcases h4 with h4 | h4
    · exact absurd h4 hz
    · exact Prod.ext h3 h4
def nn_arrok (o : Nat) : Bool := let c := (mm_kd o).1; (c != 35 || (List.range 4).all (fun i => mm_kd (o + 5 + 15 * i) == (5, 10) && [410, 569, 728, 887].all (fun n => !(Nat.ble o n) || Nat.ble (o + 5 + 15 * i) n))) && ((c != 33 || (List.range 3).all (fun i => mm_kd (o + 64 + 3 * i) == (3, 6) && [410, 569, 728, 887].all (fun n => !(Nat.ble o n) || Nat.ble (o + 64 + 3 * i) n))) && (c != 42 || (List.range 24).all (fun i => mm_kd (o + 3 + 3 * i) == (12, 5) && [410, 569, 728, 887].all (fun n => !(Nat.ble o n) || Nat.ble (o + 3 + 3 * i) n))))
theorem nn_arr_all : (List.range 888).all nn_arrok = true := by decide +kernel
theorem nn_arr {o n : Nat} (N : nn_N n) (ho : o ≤ n) : ((mm_kd o).1 = 35 → ∀ i, i < 4 → nn_C 5 (o + 5 + 15 * i) n) ∧ ((mm_kd o).1 = 33 → ∀ i, i < 3 → nn_C 3 (o + 64 + 3 * i) n) ∧ ((mm_kd o).1 = 42 → ∀ i, i < 24 → nn_C 12 (o + 3 + 3 * i) n) := by
  have ho2 : o < 888 := by
    unfold nn_N at N
    omega
  have h := List.all_eq_true.mp nn_arr_all o (List.mem_range.mpr ho2)
  unfold nn_arrok at h
  simp only [Bool.and_eq_true, Bool.or_eq_true, bne_iff_ne] at h
  have hn : n ∈ [410, 569, 728, 887] := by
    unfold nn_N at N
    rcases N with rfl | rfl | rfl | rfl <;> simp
  have key : ∀ t : Nat, (∀ x ∈ [410, 569, 728, 887], (!(Nat.ble o x) || Nat.ble t x) = true) → t ≤ n := by
    intro t ht
    have h6 := ht n hn
    simp only [Bool.or_eq_true, Bool.not_eq_true'] at h6
    rcases h6 with h6 | h6
    · exact absurd (Nat.ble_eq_true_of_le ho) (by rw [h6]; exact Bool.noConfusion)
    · exact Nat.le_of_ble_eq_true h6
  refine ⟨fun hk i hi => ?_, fun hk i hi => ?_, fun hk i hi => ?_⟩
  · have h1 := List.all_eq_true.mp (h.1.resolve_left (fun q => q hk)) i (List.mem_range.mpr hi)
    rw [Bool.and_eq_true, beq_iff_eq] at h1
    exact ⟨by rw [h1.1], key _ (List.all_eq_true.mp h1.2)⟩
  · have h1 := List.all_eq_true.mp (h.2.1.resolve_left (fun q => q hk)) i (List.mem_range.mpr hi)
    rw [Bool.and_eq_true, beq_iff_eq] at h1
    exact ⟨by rw [h1.1], key _ (List.all_eq_true.mp h1.2)⟩
  · have h1 := List.all_eq_true.mp (h.2.2.resolve_left (fun q => q hk)) i (List.mem_range.mpr hi)
    rw [Bool.and_eq_true, beq_iff_eq] at h1
    exact ⟨by rw [h1.1], key _ (List.all_eq_true.mp h1.2)⟩
/-- a reference of a field that never changes -/
theorem nn_lf {M : mm_M} {n c o b : Nat} (L : nn_L M) (N : M.1 = n) (C : nn_C c o n) (off : Nat) (h : nn_off c b = off) (h0 : off ≠ 0) : M.2 o b = ((o + off : Nat) : Int) := by
  have := L.2.1 o b (by rw [N]; exact C.2) (by rw [C.1, h]; exact h0)
  rw [this, C.1, h]
theorem nn_bd {o c k : Nat} {i : Int} (K : mm_kd o = (c, k)) (b : 0 ≤ i ∧ i < (k : Int)) : (mm_kd o).1 = c ∧ 0 ≤ i ∧ i < ((mm_kd o).2 : Int) := by rw [K]; exact ⟨rfl, b⟩
theorem nn_bd30 {o c k : Nat} {i : Int} (K : mm_kd o = (c, k)) (hc : 30 < c) (b : 0 ≤ i ∧ i < (k : Int)) : 30 < (mm_kd o).1 ∧ 0 ≤ i ∧ i < ((mm_kd o).2 : Int) := by rw [K]; exact ⟨hc, b⟩
theorem nn_l35 {M : mm_M} {n o : Nat} {i : Int} (L : nn_L M) (N : M.1 = n) (C : nn_C 35 o n) (b : 0 ≤ i ∧ i < 4) : M.2 o i.toNat = ((o + 5 + 15 * i.toNat : Nat) : Int) := by
  have hi : i.toNat < 4 := by omega
  have e : nn_off 35 i.toNat = 5 + 15 * i.toNat := if_pos hi
  rw [nn_lf L N C _ e (by omega)]
  congr 1
  omega
theorem nn_l33 {M : mm_M} {n o : Nat} {i : Int} (L : nn_L M) (N : M.1 = n) (C : nn_C 33 o n) (b : 0 ≤ i ∧ i < 3) : M.2 o i.toNat = ((o + 64 + 3 * i.toNat : Nat) : Int) := by
  have hi : i.toNat < 3 := by omega
  have e : nn_off 33 i.toNat = 64 + 3 * i.toNat := if_pos hi
  rw [nn_lf L N C _ e (by omega)]
  congr 1
  omega
theorem nn_l42 {M : mm_M} {n o : Nat} {i : Int} (L : nn_L M) (N : M.1 = n) (C : nn_C 42 o n) (b : 0 ≤ i ∧ i < 24) : M.2 o i.toNat = ((nn_rr M o i : Nat) : Int) ∧ (∃ j, j < 24 ∧ nn_rr M o i = o + 3 + 3 * j) ∧ nn_C 12 (nn_rr M o i) n := by
  obtain ⟨j, hj, e⟩ := L.2.2.1 o i.toNat (by rw [N]; exact C.2) C.1 (by omega)
  have e2 : nn_rr M o i = o + 3 + 3 * j := by unfold nn_rr; omega
  refine ⟨by rw [e2]; exact e, ⟨j, hj, e2⟩, ?_⟩
  rw [e2]
  exact (nn_arr (nn_L_n L N) C.2).2.2 C.1 j hj
theorem nn_l39 {M : mm_M} {n : Nat} {i : Int} (L : nn_L M) (N : M.1 = n) (b : 0 ≤ i ∧ i < 3) : M.2 406 i.toNat = ((nn_rr M 406 i : Nat) : Int) ∧ (nn_rr M 406 i = 0 ∨ nn_C 9 (nn_rr M 406 i) n) := by
  have hn := nn_L_n L N
  rcases L.2.2.2 i.toNat (by omega) with e | ⟨j, hj, h1, e⟩
  · have e2 : nn_rr M 406 i = 0 := by unfold nn_rr; omega
    exact ⟨by rw [e2]; exact e, Or.inl e2⟩
  · have e2 : nn_rr M 406 i = 411 + 159 * j := by unfold nn_rr; omega
    refine ⟨by rw [e2]; exact e, Or.inr ?_⟩
    rw [e2]
    refine ⟨?_, by omega⟩
    have : j = 0 ∨ j = 1 ∨ j = 2 := by omega
    rcases this with rfl | rfl | rfl <;> decide +kernel
theorem nn_c1 {n : Nat} (N : nn_N n) : nn_C 1 1 n := ⟨by decide +kernel, by unfold nn_N at N; omega⟩
theorem nn_c407 {n : Nat} (N : nn_N n) : nn_C 13 407 n := ⟨by decide +kernel, by unfold nn_N at N; omega⟩
theorem nn_c402 {n : Nat} (N : nn_N n) : nn_C 7 402 n := ⟨by decide +kernel, by unfold nn_N at N; omega⟩
theorem nn_c406 {n : Nat} (N : nn_N n) : nn_C 39 406 n := ⟨by decide +kernel, by unfold nn_N at N; omega⟩
/-! what a method answers, with that -/
def nw_I (n : Nat) (R : Int → mm_M → Prop) : mm_P := fun v M => ∃ x, v = some (.inl x) ∧ nn_L M ∧ M.1 = n ∧ R x M
def nw_Z (n : Nat) (R : Int → mm_M → Prop) : mm_P := fun v M => ∃ x, v = some (.inl x) ∧ (x = 0 ∨ x = 1) ∧ nn_L M ∧ M.1 = n ∧ R x M
def nw_J (n : Nat) (R : Int → mm_M → Prop) : mm_P := fun v M => ∃ x, v = some (.inr (.inl x)) ∧ nn_L M ∧ M.1 = n ∧ R x M
def nw_A (c n : Nat) (R : Nat → mm_M → Prop) : mm_P := fun v M => ∃ x, v = some (.inr (.inr x)) ∧ (x = 0 ∨ nn_C c x n) ∧ nn_L M ∧ M.1 = n ∧ R x M
def nw_V (n : Nat) (R : mm_M → Prop) : mm_P := fun v M => v = none ∧ nn_L M ∧ M.1 = n ∧ R M
/-! steps that follow a reference -/
theorem nn_getr {d : Nat} {code : List mm_E} {R : mm_P} {pc : Nat} {lv : mm_L} {st : List mm_V} {M : mm_M} {j len w a b o t : Nat} {v : Int} (he : mm_at code pc = some (pc, .getfield j, len, w, a, b, 3, v)) (hk : (mm_kd o).1 = a) (hv : M.2 o b = (t : Int)) (h : mm_Go (mm_run d) code R (pc + len, lv, .inr (.inr t) :: st, M)) : mm_Go (mm_run d) code R (pc, lv, .inr (.inr o) :: st, M) := by
  refine mm_s1 he ⟨hk, ?_⟩
  show mm_Go (mm_run d) code R (pc + len, lv, .inr (.inr (M.2 o b).toNat) :: st, M)
  rw [hv]
  exact h
theorem nn_aald {d : Nat} {code : List mm_E} {R : mm_P} {pc : Nat} {lv : mm_L} {st : List mm_V} {M : mm_M} {len w a b z o t : Nat} {v i : Int} (he : mm_at code pc = some (pc, .aaload, len, w, a, b, z, v)) (hk : 30 < (mm_kd o).1 ∧ 0 ≤ i ∧ i < ((mm_kd o).2 : Int)) (hv : M.2 o i.toNat = (t : Int)) (h : mm_Go (mm_run d) code R (pc + len, lv, .inr (.inr t) :: st, M)) : mm_Go (mm_run d) code R (pc, lv, .inl i :: .inr (.inr o) :: st, M) := by
  refine mm_s1 he ⟨hk, ?_⟩
  show mm_Go (mm_run d) code R (pc + len, lv, .inr (.inr (M.2 o i.toNat).toNat) :: st, M)
  rw [hv]
  exact h
theorem nn_sw {d : Nat} {code : List mm_E} {R : mm_P} {pc : Nat} {lv : mm_L} {st : List mm_V} {M : mm_M} {len w a b z : Nat} {v x df lo hi : Int} {offs : Array Int} (he : mm_at code pc = some (pc, .tableswitch df lo hi offs, len, w, a, b, z, v)) (hs : hi + 1 = lo + (offs.size : Int)) (hc : ∀ k : Nat, k < offs.size → x = lo + (k : Int) → mm_Go (mm_run d) code R (mm_to pc (offs.getD k df), lv, st, M)) (hd : (x < lo ∨ hi < x) → mm_Go (mm_run d) code R (mm_to pc df, lv, st, M)) : mm_Go (mm_run d) code R (pc, lv, .inl x :: st, M) := by
  refine mm_s1 he ⟨fun c => ?_, fun c => hd (by omega)⟩
  exact hc (x - lo).toNat (by omega) (by omega)

