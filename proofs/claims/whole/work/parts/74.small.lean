/-! the class's Tape, Cursor -/
def by_ (four sh : Int) : Int := mm_and (mm_ushr four sh) 255
def tp_ (M : mm_M) (v : Nat) (len : Int) (f : Int → Int) : Prop := nn_rf M v 1 = len ∧ 0 ≤ len ∧ len ≤ 200 ∧ ∀ i, 0 ≤ i → i < len → nn_ri M (v + 1) i = f i
def ap_ (len four : Int) (f : Int → Int) : Int → Int := fun i => if i < len then f i else by_ four (24 - 8 * (i - len))
theorem tp_fr {P : Nat → Nat → Prop} {M M' : mm_M} (h : fr_ P M M') {v : Nat} {len : Int} {f : Int → Int} (hv : ∀ o b, v ≤ o → o < v + 2 → ¬ P o b) (k : tp_ M v len f) : tp_ M' v len f := ⟨(fr_rf h (hv _ _ (by omega) (by omega))).trans k.1, k.2.1, k.2.2.1, fun i i0 i1 => (fr_ri h (hv _ _ (by omega) (by omega))).trans (k.2.2.2 i i0 i1)⟩
theorem ct_Tape_add {v : Nat} {four len : Int} {f : Int → Int} {M : mm_M} {R : mm_M → Prop} (k : tp_ M v len f) (hl : len + 4 ≤ 200) (h : ∀ M', fr_ (er_ v) M M' → tp_ M' v (len + 4) (ap_ len four f) → R M') : nr_Tape_add v four M R := by
  obtain ⟨k1, k2, k3, k4⟩ := k
  refine ng_Tape_add _ _ _ _ ?_
  have T : ∀ (j : Int) (M1 : mm_M), 0 ≤ j → j < 4 → fr_ (er_ v) M M1 → nn_rf M1 v 1 = len + j → (∀ i, 0 ≤ i → i < len + j → nn_ri M1 (v + 1) i = ap_ len four f i) → (∀ M2, fr_ (er_ v) M M2 → nn_rf M2 v 1 = len + (j + 1) → (∀ i, 0 ≤ i → i < len + (j + 1) → nn_ri M2 (v + 1) i = ap_ len four f i) → nk_Tape_add_3 v four (24 - 8 * (j + 1)) M2 R) → nk_Tape_add_3 v four (24 - 8 * j) M1 R := by
    intro j M1 j0 j1 f1 e1 g1 nx
    refine ng_Tape_add_3 _ _ _ _ _ ?_
    rw [e1]
    refine ⟨fun _ => by omega, fun c => by omega, fun _ => ?_⟩
    rintro _ rfl
    have e2 : nn_rf (nn_ui M1 (v + 1) (len + j) (mm_and (mm_ushr four (24 - 8 * j)) 255)) v 1 = len + j := by rw [rd_fi, if_neg (by omega), e1]
    rw [e2, mm_w_id (x := len + j + 1) (by omega), mm_w_id (x := 24 - 8 * j + -8) (by omega)]
    rintro _ rfl
    rw [show 24 - 8 * j + -8 = 24 - 8 * (j + 1) by omega]
    refine nx _ (fr_uf (fr_ui f1 ⟨by omega, by omega⟩) ⟨by omega, by omega⟩) (by rw [rd_ff, if_pos ⟨rfl, rfl⟩]; omega) (fun i i0 i1 => ?_)
    rw [rd_if, if_neg (by omega), rd_ii]
    by_cases z : i = len + j
    · rw [if_pos ⟨rfl, by rw [z]⟩, z]
      unfold ap_ by_
      rw [if_neg (by omega), show len + j - len = j by omega]
    · rw [if_neg (by omega)]; exact g1 i i0 (by omega)
  refine T 0 M (by omega) (by omega) (fr_refl M) (by omega) (fun i i0 i1 => by rw [k4 i i0 (by omega)]; unfold ap_; rw [if_pos (by omega)]) (fun M1 f1 e1 g1 => ?_)
  refine T 1 M1 (by omega) (by omega) f1 e1 g1 (fun M2 f2 e2 g2 => ?_)
  refine T 2 M2 (by omega) (by omega) f2 e2 g2 (fun M3 f3 e3 g3 => ?_)
  refine T 3 M3 (by omega) (by omega) f3 e3 g3 (fun M4 f4 e4 g4 => ?_)
  refine ng_Tape_add_3 _ _ _ _ _ ⟨fun c => absurd c.1 (by decide), fun _ => ?_, fun c => absurd c.1 (by decide)⟩
  exact h M4 f4 ⟨e4, by omega, by omega, g4⟩
theorem ct_Tape_copy {v w : Nat} {len : Int} {f : Int → Int} {M : mm_M} {R : mm_M → Prop} (hd : v + 2 ≤ w ∨ w + 2 ≤ v) (k : tp_ M w len f) (h : ∀ M', fr_ (er_ v) M M' → tp_ M' v len f → R M') : nr_Tape_copy v w M R := by
  obtain ⟨k1, k2, k3, k4⟩ := k
  refine ng_Tape_copy _ _ _ _ ?_
  rw [k1]
  rintro _ rfl
  have e1 : nn_rf (nn_uf M v 1 len) v 1 = len := by rw [rd_ff, if_pos ⟨rfl, rfl⟩]
  rw [e1]
  refine ⟨by omega, ?_⟩
  rintro _ rfl
  refine h _ (fr_cp (fr_uf (fr_refl M) ⟨by omega, by omega⟩) (fun _ _ _ => ⟨by omega, by omega⟩)) ⟨by rw [rd_cf _ _ _ _ _ _ _ _ (by omega)]; exact e1, k2, k3, fun i i0 i1 => ?_⟩
  rw [rd_cc _ _ _ _ _ _ _ i0, if_pos (by omega), rd_if, if_neg (by omega), show i - 0 + 0 = i by omega]
  exact k4 i i0 i1
/-- a cursor: open, how many keys, where it is, the keys, how many runs it holds, their ids -/
abbrev ab_C : Type := Int × Int × Int × (Int → Int) × Int × (Int → Int)
def cu2_ (M : mm_M) (c : Nat) (s : ab_C) : Prop := nn_rf M c 2 = s.1 ∧ (s.1 = 0 ∨ s.1 = 1) ∧ (nn_rf M c 3 = s.2.1 ∧ 0 ≤ s.2.1 ∧ s.2.1 ≤ 32) ∧ (nn_rf M c 4 = s.2.2.1 ∧ 0 ≤ s.2.2.1 ∧ s.2.2.1 ≤ s.2.1) ∧ (∀ i, 0 ≤ i → i < s.2.1 → nn_ri M (c + 1) i = s.2.2.2.1 i) ∧ (nn_rf M c 5 = s.2.2.2.2.1 ∧ 0 ≤ s.2.2.2.2.1 ∧ s.2.2.2.2.1 ≤ 48) ∧ ∀ i, 0 ≤ i → i < s.2.2.2.2.1 → nn_ri M (c + 2) i = s.2.2.2.2.2 i
def cu3_ (c o _b : Nat) : Prop := c ≤ o ∧ o < c + 3
theorem cu2_fr {P : Nat → Nat → Prop} {M M' : mm_M} (h : fr_ P M M') {c : Nat} {s : ab_C} (hv : ∀ o b, c ≤ o → o < c + 3 → ¬ P o b) (k : cu2_ M c s) : cu2_ M' c s := by
  obtain ⟨k1, k2, ⟨k3, k4⟩, ⟨k5, k6⟩, k7, ⟨k8, k9⟩, k10⟩ := k
  exact ⟨(fr_rf h (hv _ _ (by omega) (by omega))).trans k1, k2, ⟨(fr_rf h (hv _ _ (by omega) (by omega))).trans k3, k4⟩, ⟨(fr_rf h (hv _ _ (by omega) (by omega))).trans k5, k6⟩, fun i i0 i1 => (fr_ri h (hv _ _ (by omega) (by omega))).trans (k7 i i0 i1), ⟨(fr_rf h (hv _ _ (by omega) (by omega))).trans k8, k9⟩, fun i i0 i1 => (fr_ri h (hv _ _ (by omega) (by omega))).trans (k10 i i0 i1)⟩
theorem ct_Cu_begin {c o : Nat} {m : Int} {M : mm_M} {R : mm_M → Prop} (ho : (mm_kd o).2 = 32) (hd : o < c ∨ c + 3 ≤ o) (hm : 0 ≤ m ∧ m ≤ 32) (h : ∀ M', fr_ (cu3_ c) M M' → cu2_ M' c (1, m, 0, nn_ri M o, 0, fun _ => 0) → R M') : nr_Cursor_begin c o m M R := by
  refine ng_Cursor_begin _ _ _ _ _ ?_
  rintro _ rfl _ rfl _ rfl _ rfl
  rw [ho]
  refine ⟨by omega, ?_⟩
  rintro _ rfl
  have f : fr_ (cu3_ c) M (mm_cp (nn_uf (nn_uf (nn_uf (nn_uf M c 2 1) c 3 m) c 4 0) c 5 0) o 0 (c + 1) 0 m) := fr_cp (fr_uf (fr_uf (fr_uf (fr_uf (fr_refl M) ⟨by omega, by omega⟩) ⟨by omega, by omega⟩) ⟨by omega, by omega⟩) ⟨by omega, by omega⟩) (fun _ _ _ => ⟨by omega, by omega⟩)
  have rc : ∀ b, nn_rf (mm_cp (nn_uf (nn_uf (nn_uf (nn_uf M c 2 1) c 3 m) c 4 0) c 5 0) o 0 (c + 1) 0 m) c b = nn_rf (nn_uf (nn_uf (nn_uf (nn_uf M c 2 1) c 3 m) c 4 0) c 5 0) c b := fun b => rd_cf _ _ _ _ _ _ _ _ (by omega)
  refine h _ f ⟨by rw [rc]; simp [rd_ff], Or.inr rfl, ⟨by rw [rc]; simp [rd_ff], hm⟩, ⟨by rw [rc]; simp [rd_ff], Int.le_refl _, hm.1⟩, fun i i0 i1 => ?_, ⟨by rw [rc]; simp [rd_ff], Int.le_refl _, by show (0 : Int) ≤ 48; omega⟩, fun i i0 i1 => ?_⟩
  · have i1' : i < m := i1
    rw [rd_cc _ _ _ _ _ _ _ i0, if_pos (by omega), rd_if, if_neg (by omega), rd_if, if_neg (by omega), rd_if, if_neg (by omega), rd_if, if_neg (by omega), show i - 0 + 0 = i by omega]
  · have i1' : i < 0 := i1
    omega
theorem ct_Cu_hold {c o : Nat} {m : Int} {M : mm_M} {R : mm_M → Prop} {s : ab_C} (hd : o < c ∨ c + 3 ≤ o) (hm : 0 ≤ m ∧ m ≤ ((mm_kd o).2 : Int)) (k : cu2_ M c s) (hcap : s.2.2.2.2.1 + m ≤ 48) (h : ∀ M', fr_ (cu3_ c) M M' → cu2_ M' c (s.1, s.2.1, s.2.2.1, s.2.2.2.1, s.2.2.2.2.1 + m, fun i => if i < s.2.2.2.2.1 then s.2.2.2.2.2 i else nn_ri M o (i - s.2.2.2.2.1)) → R M') : nr_Cursor_hold c o m M R := by
  obtain ⟨k1, k2, ⟨k3, k4⟩, ⟨k5, k6⟩, k7, ⟨k8, k9⟩, k10⟩ := k
  refine ng_Cursor_hold _ _ _ _ _ ?_
  rw [k8, mm_w_id (x := 48 - s.2.2.2.2.1) (by omega), show min m (48 - s.2.2.2.2.1) = m by omega]
  intro y ey
  rw [ey]
  refine ⟨by omega, ?_⟩
  rintro _ rfl
  have r5 : ∀ b, nn_rf (mm_cp M o 0 (c + 2) s.2.2.2.2.1 m) c b = nn_rf M c b := fun b => rd_cf _ _ _ _ _ _ _ _ (by omega)
  rw [r5, k8, mm_w_id (x := s.2.2.2.2.1 + m) (by omega)]
  rintro _ rfl
  have f : fr_ (cu3_ c) M (mm_cp M o 0 (c + 2) s.2.2.2.2.1 m) := fr_cp (fr_refl M) (fun _ _ _ => ⟨by omega, by omega⟩)
  refine h _ (fr_uf f ⟨by omega, by omega⟩) ⟨by rw [rd_ff, if_neg (by omega), r5]; exact k1, k2, ⟨by rw [rd_ff, if_neg (by omega), r5]; exact k3, k4⟩, ⟨by rw [rd_ff, if_neg (by omega), r5]; exact k5, k6⟩, fun i i0 i1 => ?_, ⟨by rw [rd_ff, if_pos ⟨rfl, rfl⟩], by show 0 ≤ s.2.2.2.2.1 + m; omega, hcap⟩, fun i i0 i1 => ?_⟩
  · rw [rd_if, if_neg (by omega), rd_ci _ _ _ _ _ _ _ _ (by omega)]
    exact k7 i i0 i1
  · have i1' : i < s.2.2.2.2.1 + m := i1
    rw [rd_if, if_neg (by omega), rd_cc _ _ _ _ _ _ _ i0]
    show _ = if i < s.2.2.2.2.1 then s.2.2.2.2.2 i else nn_ri M o (i - s.2.2.2.2.1)
    by_cases z : i < s.2.2.2.2.1
    · rw [if_neg (by omega), if_pos z]; exact k10 i i0 z
    · rw [if_pos (by omega), if_neg z, show i - s.2.2.2.2.1 + 0 = i - s.2.2.2.2.1 by omega]
theorem ct_Cu_copy {c w : Nat} {M : mm_M} {R : mm_M → Prop} {s : ab_C} (hd : c + 3 ≤ w ∨ w + 3 ≤ c) (k : cu2_ M w s) (h : ∀ M', fr_ (cu3_ c) M M' → cu2_ M' c s → R M') : nr_Cursor_copy c w M R := by
  obtain ⟨k1, k2, ⟨k3, k4⟩, ⟨k5, k6⟩, k7, ⟨k8, k9⟩, k10⟩ := k
  refine ng_Cursor_copy _ _ _ _ ?_
  rw [k1]
  refine ⟨k2, ?_⟩
  intro M5 e5
  have f5 : fr_ (cu3_ c) M M5 := by rw [e5]; exact fr_uf (fr_refl M) ⟨by omega, by omega⟩
  have far : ∀ o b, w ≤ o → o < w + 3 → ¬ cu3_ c o b := fun o b h1 h2 z => by have := z.1; have := z.2; omega
  rw [fr_rf f5 (far _ _ (by omega) (by omega)), k3]
  intro M13 e13
  have f13 : fr_ (cu3_ c) M M13 := by rw [e13]; exact fr_uf f5 ⟨by omega, by omega⟩
  rw [fr_rf f13 (far _ _ (by omega) (by omega)), k5]
  intro M21 e21
  have f21 : fr_ (cu3_ c) M M21 := by rw [e21]; exact fr_uf f13 ⟨by omega, by omega⟩
  rw [fr_rf f21 (far _ _ (by omega) (by omega)), k8]
  intro M29 e29
  have f29 : fr_ (cu3_ c) M M29 := by rw [e29]; exact fr_uf f21 ⟨by omega, by omega⟩
  have a2 : nn_rf M29 c 2 = s.1 := by rw [e29, e21, e13, e5]; simp [rd_ff]
  have a3 : nn_rf M29 c 3 = s.2.1 := by rw [e29, e21, e13, e5]; simp [rd_ff]
  have a4 : nn_rf M29 c 4 = s.2.2.1 := by rw [e29, e21, e13, e5]; simp [rd_ff]
  have a5 : nn_rf M29 c 5 = s.2.2.2.2.1 := by rw [e29, e21, e13, e5]; simp [rd_ff]
  rw [a3]
  refine ⟨by omega, ?_⟩
  intro M46 e46
  have f46 : fr_ (fun o _ => o = c + 1) M29 M46 := by rw [e46]; exact fr_cp (fr_refl M29) (fun _ _ _ => rfl)
  have g46 : fr_ (cu3_ c) M M46 := fr_trans f29 (fr_mono f46 (fun o b z => ⟨by omega, by omega⟩))
  rw [fr_rf f46 (by omega), a5]
  refine ⟨by omega, ?_⟩
  intro M63 e63
  have f63 : fr_ (fun o _ => o = c + 2) M46 M63 := by rw [e63]; exact fr_cp (fr_refl M46) (fun _ _ _ => rfl)
  have r : ∀ b, nn_rf M63 c b = nn_rf M29 c b := fun b => (fr_rf f63 (by omega)).trans (fr_rf f46 (by omega))
  refine h M63 (fr_trans g46 (fr_mono f63 (fun o b z => ⟨by omega, by omega⟩))) ⟨by rw [r]; exact a2, k2, ⟨by rw [r]; exact a3, k4⟩, ⟨by rw [r]; exact a4, k6⟩, fun i i0 i1 => ?_, ⟨by rw [r]; exact a5, k9⟩, fun i i0 i1 => ?_⟩
  · rw [fr_ri f63 (by omega), e46, rd_cc _ _ _ _ _ _ _ i0, if_pos (by omega), fr_ri f29 (far _ _ (by omega) (by omega)), show i - 0 + 0 = i by omega]
    exact k7 i i0 i1
  · rw [e63, rd_cc _ _ _ _ _ _ _ i0, if_pos (by omega), fr_ri g46 (far _ _ (by omega) (by omega)), show i - 0 + 0 = i by omega]
    exact k10 i i0 i1
