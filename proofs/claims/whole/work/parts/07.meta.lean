/-! an end is one end: what is met is met by one answer and one memory -/
def mm_one (call : mm_K) : Prop := ∀ (y : Nat) (as : List mm_V) (M : mm_M) (P : mm_P), call y as M P → ∃ (v : Option mm_V) (M' : mm_M), P v M' ∧ call y as M (fun a b => a = v ∧ b = M')
theorem mm_Go_one {call : mm_K} (hm : mm_mono call) (h1 : mm_one call) {code : List mm_E} {R : mm_P} {c : mm_C} (h : mm_Go call code R c) : ∃ (v : Option mm_V) (M' : mm_M), R v M' ∧ mm_Go call code (fun a b => a = v ∧ b = M') c := by
  refine h (fun c => ∃ (v : Option mm_V) (M' : mm_M), R v M' ∧ mm_Go call code (fun a b => a = v ∧ b = M') c) ?_
  intro c hw
  have fold : ∀ {v : Option mm_V} {M' : mm_M}, R v M' → mm_wp call code (fun a b => a = v ∧ b = M') (mm_Go call code (fun a b => a = v ∧ b = M')) c → ∃ (v : Option mm_V) (M' : mm_M), R v M' ∧ mm_Go call code (fun a b => a = v ∧ b = M') c := fun hr q => ⟨_, _, hr, mm_fold hm q⟩
  unfold mm_wp at hw fold
  cases he : mm_at code c.1 with
  | none => rw [he] at hw; exact hw.elim
  | some e =>
    rw [he] at hw
    dsimp only at hw
    simp only [he] at fold
    cases hs : mm_do e c.2.1 c.2.2.1 c.2.2.2 with
    | none => rw [hs] at hw; exact hw.elim
    | some s =>
      rw [hs] at hw
      simp only [hs] at fold
      rcases s with c' | ⟨C, c'⟩ | ⟨C, c1, c2⟩ | ⟨C, y, as, k⟩ | v | ⟨C, v⟩
      · obtain ⟨v, M', hr, hg⟩ := hw
        exact fold hr hg
      · obtain ⟨hC, v, M', hr, hg⟩ := hw
        exact fold hr ⟨hC, hg⟩
      · by_cases hC : C
        · obtain ⟨v, M', hr, hg⟩ := hw.1 hC
          exact fold hr ⟨fun _ => hg, fun q => absurd hC q⟩
        · obtain ⟨v, M', hr, hg⟩ := hw.2 hC
          exact fold hr ⟨fun q => absurd q hC, fun _ => hg⟩
      · obtain ⟨hC, hc⟩ := hw
        obtain ⟨v1, M1, ⟨v, M', hr, hg⟩, hc1⟩ := h1 _ _ _ _ hc
        exact fold hr ⟨hC, hm _ _ _ _ _ (fun a b q => by rw [q.1, q.2]; exact hg) hc1⟩
      · exact fold hw ⟨rfl, rfl⟩
      · exact fold hw.2 ⟨hw.1, rfl, rfl⟩
theorem mm_str_one : mm_one mm_str := by
  intro y as M P h
  unfold mm_str at h
  split at h
  · exact ⟨_, _, h.2.2, h.1, h.2.1, rfl, rfl⟩
  · exact ⟨_, _, h.2.2.2.2, h.1, h.2.1, h.2.2.1, h.2.2.2.1, rfl, rfl⟩
  · exact h.elim
theorem mm_run_one : ∀ d, mm_one (mm_run d)
  | 0 => fun _ _ _ _ h => h.elim
  | d + 1 => fun y as M P h => by
    unfold mm_run at h ⊢
    cases hy : Nat.ble 308 y with
    | true =>
      rw [hy] at h
      obtain ⟨v, M', h1, h2⟩ := mm_str_one _ _ _ _ h.2
      exact ⟨v, M', h1, h.1, h2⟩
    | false =>
      rw [hy] at h
      dsimp only at h ⊢
      cases hb : Nat.ble (mm_ws as) (mm_mx y) with
      | true =>
        rw [hb] at h
        exact mm_Go_one (mm_run_mono d) (mm_run_one d) h
      | false => rw [hb] at h; exact h.elim
/-! the picture: where the cells lie, what they hold -/
abbrev mm_G : Type := Heap × va_G × (Nat → ClassId) × (Nat → Nat)
def mm_ad (γ : mm_G) (k : Nat) : Nat := if k < 5000 then γ.1.size + k - 1 else γ.2.2.2 k
def mm_ev (γ : mm_G) (v : mm_V) : Value := match v with
  | .inl x => .int (Int32.ofInt x)
  | .inr (.inl x) => .long (Int64.ofInt x)
  | .inr (.inr k) => if k = 0 then .null else .ref (mm_ad γ k)
def mm_tyA (c : Nat) : FieldType := match c with
  | 20 => .int
  | 21 => .long
  | 22 => .boolean
  | _ => .object (mm_cn (c - 30))
def mm_zA (c : Nat) : Nat := match c with
  | 20 => 0
  | 21 => 1
  | 22 => 2
  | _ => 3
def mm_zk (k j : Nat) : Nat := if (mm_kd k).1 < 20 then mm_fz (mm_kd k).1 j else mm_zA (mm_kd k).1
theorem mm_up_s (M : mm_M) (o b : Nat) (x : Int) : (mm_up M o b x).2 o b = x := if_pos ⟨rfl, rfl⟩
theorem mm_up_o {M : mm_M} {o b k j : Nat} {x : Int} (h : k ≠ o) : (mm_up M o b x).2 k j = M.2 k j := if_neg (fun z => h z.1)
theorem mm_up_b {M : mm_M} {o b k j : Nat} {x : Int} (h : j ≠ b) : (mm_up M o b x).2 k j = M.2 k j := if_neg (fun z => h z.2)
def mm_fv (γ : mm_G) (M : mm_M) (k j : Nat) : Value := mm_ev γ (mm_val (mm_zk k j) (M.2 k j))
def mm_cell (γ : mm_G) (k : Nat) (V : Nat → Value) (H : Heap) : Prop :=
  ((mm_kd k).1 < 20 → t_OB (mm_ad γ k) (γ.2.1.1 (mm_kd k).1) (mm_kd k).2 (γ.2.1.2 (mm_kd k).1) H V) ∧ (20 ≤ (mm_kd k).1 → H[mm_ad γ k]? = some (arrV (γ.2.2.1 (mm_kd k).1) (mm_kd k).2 V))
def mm_okn (n z : Nat) (x : Int) : Prop := match z with
  | 0 => -2147483648 ≤ x ∧ x < 2147483648
  | 1 => -9223372036854775808 ≤ x ∧ x < 9223372036854775808
  | 2 => x = 0 ∨ x = 1
  | _ => 0 ≤ x ∧ x ≤ (n : Int)
def mm_okv (n : Nat) (v : mm_V) : Prop := match v with
  | .inl x => -2147483648 ≤ x ∧ x < 2147483648
  | .inr (.inl x) => -9223372036854775808 ≤ x ∧ x < 9223372036854775808
  | .inr (.inr k) => k ≤ n ∨ 5000 ≤ k
def mm_okc (M : mm_M) (k : Nat) : Prop := ∀ j, j < (mm_kd k).2 → mm_okn M.1 (mm_zk k j) (M.2 k j)
/-- the script, as the memory knows it -/
def mm_scr (γ : mm_G) (M : mm_M) : Prop := ∀ cell : Cell, γ.1[γ.2.2.2 5000]? = some cell → M.2 5001 0 = (cell.slots.size : Int) ∧ ∀ j, j < cell.slots.size → (-2147483648 ≤ M.2 5000 j ∧ M.2 5000 j < 2147483648) ∧ cell.slots[j]? = some (.int (Int32.ofInt (M.2 5000 j)))
theorem mm_scr_of {γ : mm_G} {M M' : mm_M} (h : mm_scr γ M) (h1 : M'.2 5001 0 = M.2 5001 0) (h2 : ∀ j, M'.2 5000 j = M.2 5000 j) : mm_scr γ M' := fun cell hc => ⟨by rw [h1]; exact (h cell hc).1, fun j hj => by rw [h2]; exact (h cell hc).2 j hj⟩
def mm_Rel (γ : mm_G) (M : mm_M) (H : Heap) : Prop := H.size = γ.1.size + M.1 ∧ M.1 ≤ mm_max ∧ ((∀ q : Nat, q < γ.1.size → H[q]? = γ.1[q]?) ∧ mm_scr γ M) ∧ ∀ k : Nat, 1 ≤ k → k ≤ M.1 → mm_cell γ k (mm_fv γ M k) H ∧ mm_okc M k
def mm_ss (n : Nat) : Nat := match n with
  | 0 => 0
  | n + 1 => mm_ss n + (mm_kd (n + 1)).2
theorem mm_ss_le {a b : Nat} (h : a ≤ b) : mm_ss a ≤ mm_ss b := by
  induction h with
  | refl => exact Nat.le_refl _
  | step _ ih => exact Nat.le_trans ih (Nat.le_add_right _ _)
/-- kinds, looked through once -/
def mm_kdok (q : Nat × Nat) : Bool := q.1 == 0 || (decide (q.1 < 14) && q.2 == mm_N q.1) || ((q.1 == 20 || (q.1 == 21 || (q.1 == 22 || (q.1 == 33 || (q.1 == 35 || (q.1 == 39 || q.1 == 42)))))) && decide (q.2 ≤ 40000))
theorem mm_kd_len : mm_kAll.length = 888 := by decide +kernel
theorem mm_kd_chk : mm_kAll.all mm_kdok = true := by decide +kernel
theorem mm_kd_out {k : Nat} (h : 888 ≤ k) : mm_kd k = (0, 0) := by
  unfold mm_kd
  rw [List.getD_eq_getElem?_getD, List.getElem?_eq_none (by rw [mm_kd_len]; exact h)]
  rfl
theorem mm_kd_ok (k : Nat) : mm_kdok (mm_kd k) = true := by
  rcases Nat.lt_or_ge k 888 with h | h
  · have hl : k < mm_kAll.length := by rw [mm_kd_len]; exact h
    have e : mm_kd k = mm_kAll[k] := by unfold mm_kd; rw [List.getD_eq_getElem?_getD, List.getElem?_eq_getElem hl]; rfl
    rw [e]
    exact List.all_eq_true.mp mm_kd_chk _ (List.getElem_mem hl)
  · rw [mm_kd_out h]; rfl
theorem mm_kd_pos {k : Nat} (h : (mm_kd k).1 ≠ 0) : 1 ≤ k ∧ k ≤ 887 := by
  refine ⟨?_, ?_⟩
  · rcases Nat.eq_zero_or_pos k with q | q
    · subst q; exact absurd rfl h
    · exact q
  · rcases Nat.lt_or_ge k 888 with q | q
    · omega
    · rw [mm_kd_out q] at h; exact absurd rfl h
theorem mm_kd_obj {k : Nat} (h0 : (mm_kd k).1 ≠ 0) (h : (mm_kd k).1 < 20) : (mm_kd k).1 < 14 ∧ (mm_kd k).2 = mm_N (mm_kd k).1 := by
  have hk := mm_kd_ok k
  unfold mm_kdok at hk
  simp only [Bool.or_eq_true, Bool.and_eq_true, beq_iff_eq, decide_eq_true_eq] at hk
  omega
theorem mm_kd_arr {k : Nat} (h : 20 ≤ (mm_kd k).1) : (mm_kd k).1 ∈ [20, 21, 22, 33, 35, 39, 42] ∧ (mm_kd k).2 ≤ 40000 := by
  have hk := mm_kd_ok k
  unfold mm_kdok at hk
  simp only [Bool.or_eq_true, Bool.and_eq_true, beq_iff_eq, decide_eq_true_eq] at hk
  refine ⟨?_, by omega⟩
  simp only [List.mem_cons, List.not_mem_nil, or_false]
  omega
theorem mm_ad_in {γ : mm_G} {k : Nat} (h1 : 1 ≤ k) (h2 : k ≤ 887) : mm_ad γ k + 1 = γ.1.size + k := by
  unfold mm_ad
  rw [if_pos (by omega)]
  omega
theorem mm_okv_mono {a b : Nat} (h : a ≤ b) {v : mm_V} (hv : mm_okv a v) : mm_okv b v := by
  rcases v with x | x | k
  · exact hv
  · exact hv
  · have : k ≤ a ∨ 5000 ≤ k := hv
    show k ≤ b ∨ 5000 ≤ k
    omega
theorem mm_okn_mono {a b : Nat} (h : a ≤ b) {z : Nat} {x : Int} (hv : mm_okn a z x) : mm_okn b z x := by
  match z, hv with
  | 0, hv => exact hv
  | 1, hv => exact hv
  | 2, hv => exact hv
  | _ + 3, hv =>
    have : 0 ≤ x ∧ x ≤ (a : Int) := hv
    show 0 ≤ x ∧ x ≤ (b : Int)
    omega
theorem mm_okn_v {n z : Nat} {x : Int} (hn : n ≤ mm_max) (h : mm_okn n z x) : mm_okv n (mm_val z x) := by
  match z, h with
  | 0, h => exact h
  | 1, h => exact h
  | 2, h =>
    have : x = 0 ∨ x = 1 := h
    show -2147483648 ≤ x ∧ x < 2147483648
    omega
  | 3, h =>
    have : 0 ≤ x ∧ x ≤ (n : Int) := h
    show x.toNat ≤ n ∨ 5000 ≤ x.toNat
    omega
  | _ + 4, h =>
    have : 0 ≤ x ∧ x ≤ (n : Int) := h
    have hm : mm_max = 887 := rfl
    show -2147483648 ≤ x ∧ x < 2147483648
    omega
/-- one cell is written: the others stay -/
theorem mm_Rel.put {γ : mm_G} {M : mm_M} {H H' : Heap} (h : mm_Rel γ M H) {o b : Nat} {x : Int} (ho : (mm_kd o).1 ≠ 0) (hon : o ≤ M.1) (hz : H'.size = H.size) (hq : ∀ q : Nat, q ≠ mm_ad γ o → H'[q]? = H[q]?)
    (hc : mm_cell γ o (mm_fv γ (mm_up M o b x) o) H') (hx : mm_okn M.1 (mm_zk o b) x) : mm_Rel γ (mm_up M o b x) H' := by
  obtain ⟨h1, h2, h3, h4⟩ := h
  have hp := mm_kd_pos ho
  have ha := mm_ad_in (γ := γ) hp.1 hp.2
  refine ⟨by rw [hz]; exact h1, h2, ⟨fun q hlt => by rw [hq q (by omega)]; exact h3.1 q hlt, mm_scr_of h3.2 (mm_up_o (by omega)) (fun j => mm_up_o (by omega))⟩, fun k hk1 hk2 => ?_⟩
  by_cases hko : k = o
  · subst hko
    refine ⟨hc, fun j hj => ?_⟩
    by_cases hjb : j = b
    · subst hjb
      rw [mm_up_s]
      exact hx
    · rw [mm_up_b hjb]
      exact (h4 k hk1 hk2).2 j hj
  · have hb : k ≤ 887 := Nat.le_trans hk2 h2
    have hak := mm_ad_in (γ := γ) hk1 hb
    have e : ∀ j, mm_fv γ (mm_up M o b x) k j = mm_fv γ M k j := fun j => by
      unfold mm_fv
      rw [mm_up_o hko]
    have he : mm_fv γ (mm_up M o b x) k = mm_fv γ M k := funext e
    have hqk := hq (mm_ad γ k) (by omega)
    refine ⟨⟨fun q => ?_, fun q => ?_⟩, fun j hj => ?_⟩
    · rw [he]; exact ((h4 k hk1 hk2).1.1 q).kept hqk
    · rw [he, hqk]; exact (h4 k hk1 hk2).1.2 q
    · rw [mm_up_o hko]
      exact (h4 k hk1 hk2).2 j hj
