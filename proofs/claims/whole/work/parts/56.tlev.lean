/-! the class's Table: a write, a flush's laying down; which runs are alike, the highest level; merges by levels -/
def upd_ (V : ab_V) (k : Nat) (x : Option (Int × Int)) : ab_V := fun j => if j = k then x else V j
def tx_ (t o b : Nat) : Prop := (o = t ∧ (b = 6 ∨ b = 7)) ∨ vr_ (t + 1) o b ∨ vr_ (t + 4) o b
theorem ct_T_write {t : Nat} {key row n : Int} {M : mm_M} {R : mm_M → Prop} {mem lat : ab_V} {q : Int → ab_R} (hk : 0 ≤ key ∧ key < 32) (k : tb_ M t mem lat n q) (h6 : 0 ≤ nn_rf M t 6 ∧ nn_rf M t 6 < 2147483647) (h7 : 0 ≤ nn_rf M t 7 ∧ nn_rf M t 7 < 2147483647)
    (h : ∀ M', fr_ (tx_ t) M M' → nn_rf M' t 6 = nn_rf M t 6 + 1 → nn_rf M' t 7 = nn_rf M t 7 + 1 → tb_ M' t (upd_ mem key.toNat (some (nn_rf M t 6 + 1, row))) (upd_ lat key.toNat (some (nn_rf M t 6 + 1, row))) n q → R M') : nr_Table_write t key row M R := by
  refine ng_Table_write _ _ _ _ _ ?_
  rintro _ rfl _ rfl
  rw [mm_w_id (x := nn_rf M t 6 + 1) (by omega)]
  have e7 : nn_rf (nn_uf M t 6 (nn_rf M t 6 + 1)) t 7 = nn_rf M t 7 := by rw [rd_ff, if_neg (by omega)]
  rw [e7, mm_w_id (x := nn_rf M t 7 + 1) (by omega)]
  have u : fr_ (fun o b => o = t ∧ (b = 6 ∨ b = 7)) M (nn_uf (nn_uf M t 6 (nn_rf M t 6 + 1)) t 7 (nn_rf M t 7 + 1)) := fr_uf (fr_uf (fr_refl M) ⟨rfl, Or.inl rfl⟩) ⟨rfl, Or.inr rfl⟩
  have g6 : nn_rf (nn_uf (nn_uf M t 6 (nn_rf M t 6 + 1)) t 7 (nn_rf M t 7 + 1)) t 6 = nn_rf M t 6 + 1 := by rw [rd_ff, if_neg (by omega), rd_ff, if_pos ⟨rfl, rfl⟩]
  have g7 : nn_rf (nn_uf (nn_uf M t 6 (nn_rf M t 6 + 1)) t 7 (nn_rf M t 7 + 1)) t 7 = nn_rf M t 7 + 1 := by rw [rd_ff, if_pos ⟨rfl, rfl⟩]
  have k1 : tb_ (nn_uf (nn_uf M t 6 (nn_rf M t 6 + 1)) t 7 (nn_rf M t 7 + 1)) t mem lat n q := tb_fr u (fun o b z y z2 => by have := y z2.1; omega) k
  generalize nn_uf (nn_uf M t 6 (nn_rf M t 6 + 1)) t 7 (nn_rf M t 7 + 1) = M1 at u g6 g7 k1 ⊢
  rw [g6]
  refine ct_V_keep hk (fun M2 f2 c2 k2 _ _ => ?_)
  have g62 : nn_rf M2 t 6 = nn_rf M t 6 + 1 := (fr_rf f2 (fun z => by have := z.1; omega)).trans g6
  rw [g62]
  refine ct_V_keep hk (fun M3 f3 c3 k3 _ _ => ?_)
  obtain ⟨⟨a1, a2⟩, ⟨b1, b2⟩, ⟨c1, c2', c3'⟩, s, r⟩ := k1
  have n23 : ∀ o b, vr_ (t + 1) o b → ¬ vr_ (t + 4) o b := fun o b z z2 => by have := z.2; have := z2.1; omega
  have n32 : ∀ o b, vr_ (t + 4) o b → ¬ vr_ (t + 1) o b := fun o b z z2 => n23 o b z2 z
  have f23 : fr_ (fun o b => vr_ (t + 1) o b ∨ vr_ (t + 4) o b) M1 M3 := fr_trans (fr_mono f2 (fun o b z => Or.inl z)) (fr_mono f3 (fun o b z => Or.inr z))
  have cell : ∀ o b, (o ≤ t ∨ t + 7 ≤ o) → ¬ (vr_ (t + 1) o b ∨ vr_ (t + 4) o b) := fun o b ho z => by
    rcases z with z | z
    · have := z.1; have := z.2; omega
    · have := z.1; have := z.2; omega
  refine h M3 ?_ ((fr_rf f3 (fun z => by have := z.1; omega)).trans g62) ((fr_rf f23 (cell _ _ (by omega))).trans g7) ⟨⟨?_, kr_fr f3 n23 k2⟩, ⟨?_, k3⟩, ⟨(fr_rf f23 (cell _ _ (by omega))).trans c1, c2', c3'⟩, sl_fr f23 (fun b => cell _ _ (by omega)) s, fun i i0 i1 => ?_⟩
  · refine fr_trans (fr_mono u (fun o b z => Or.inl z)) (fr_mono f23 (fun o b z => Or.inr z))
  · rw [cv_fr f3 n23]
    funext j
    unfold upd_
    by_cases z : j < 32
    · rw [c2 j z, a1]
    · rw [cv_out (by omega), if_neg (by omega), ← a1, cv_out (by omega)]
  · funext j
    unfold upd_
    by_cases z : j < 32
    · rw [c3 j z, cv_fr f2 n32, b1]
    · rw [cv_out (by omega), if_neg (by omega), ← b1, cv_out (by omega)]
  · have hs := sl_in s i0 (by omega)
    exact ru_fr f23 (cell _ _ (by omega)) (cell _ _ (by omega)) (cell _ _ (by omega)) (fun o b z => cell _ _ (by have := z.1; omega)) (r i i0 i1)
def sh_ (x : ab_R) (q : Int → ab_R) : Int → ab_R := fun i => if i = 0 then x else q (i - 1)
def tl_ (t o b : Nat) : Prop := tr_ t o b ∧ (o = t → b = 5 ∨ b = 7 ∨ b = 8)
theorem ct_T_layDown {t : Nat} {n : Int} (mid : Int) {M : mm_M} {R : mm_M → Prop} {mem lat : ab_V} {q : Int → ab_R} (k : tb_ M t mem lat n q) (hn : n < 24) (h6 : 0 ≤ nn_rf M t 6 ∧ nn_rf M t 6 < 2147483647) (h7 : 0 ≤ nn_rf M t 7 ∧ nn_rf M t 7 < 2147483647) (h8 : -2147483648 ≤ nn_rf M t 8 + 1 ∧ nn_rf M t 8 + 1 < 2147483648)
    (h : ∀ M', fr_ (tl_ t) M M' → nn_rf M' t 8 = nn_rf M t 8 + 1 → nn_rf M' t 7 = 0 → tb_ M' t (fun _ => none) lat (n + 1) (sh_ (nn_rf M t 8 + 1, mid, 0, nn_rf M t 6 - nn_rf M t 7 + 1, nn_rf M t 6, mem) q) → R M') : nr_Table_layDown t M R := by
  obtain ⟨⟨a1, a2⟩, ⟨b1, b2⟩, ⟨c1, c2, c3⟩, s, r⟩ := k
  refine ng_Table_layDown _ _ _ ?_
  rw [c1]
  refine ⟨fun _ => ⟨by omega, ?_⟩, fun c => absurd c (by omega)⟩
  have L : ∀ i : Int, 0 ≤ i → i ≤ n → ∀ M1, fr_ (fun o _ => o = t + 7 ∨ o = t + 8 ∨ o = t + 9) M M1 → (∀ j, 0 ≤ j → j < 24 → nn_rr M1 (t + 7) j = if i < j ∧ j ≤ n then nn_rr M (t + 7) (j - 1) else nn_rr M (t + 7) j) → (∀ j, 0 ≤ j → j < 24 → nn_ri M1 (t + 8) j = if i < j ∧ j ≤ n then nn_ri M (t + 8) (j - 1) else nn_ri M (t + 8) j) → (∀ j, 0 ≤ j → j < 24 → nn_ri M1 (t + 9) j = if i < j ∧ j ≤ n then nn_ri M (t + 9) (j - 1) else nn_ri M (t + 9) j) → nk_Table_layDown_25 t (nn_rr M (t + 7) n) i M1 R := by
    refine lp_dn (fun i hi ih hi2 M1 f1 g1 g2 g3 => ?_)
    refine ng_Table_layDown_25 _ _ _ _ _ ⟨fun c => ?_, fun c => ?_⟩
    · have i0 : i = 0 := by omega
      subst i0
      have hs := sl_in s (i := n) (by omega) (by omega)
      refine ct_V_copy (by omega) (fun M2 f2 v2 kk2 _ _ => ?_)
      have e6 : nn_rf M2 t 6 = nn_rf M t 6 := (fr_rf f2 (fun z => by have := z.1; omega)).trans (fr_rf f1 (by omega))
      have e7 : nn_rf M2 t 7 = nn_rf M t 7 := (fr_rf f2 (fun z => by have := z.1; omega)).trans (fr_rf f1 (by omega))
      rw [e6, e7, mm_w_id (x := nn_rf M t 6 - nn_rf M t 7) (by omega), mm_w_id (x := nn_rf M t 6 - nn_rf M t 7 + 1) (by omega)]
      rintro _ rfl
      have e6' : nn_rf (nn_uf M2 (nn_rr M (t + 7) n) 3 (nn_rf M t 6 - nn_rf M t 7 + 1)) t 6 = nn_rf M t 6 := by rw [rd_ff, if_neg (by omega), e6]
      rw [e6']
      rintro _ rfl
      refine ⟨by omega, ?_⟩
      rintro _ rfl _ rfl
      have fA : fr_ (fun o b => o = t + 7 ∨ o = t + 8 ∨ o = t + 9 ∨ vr_ (nn_rr M (t + 7) n) o b) M (nn_ui (nn_ui (nn_uf (nn_uf M2 (nn_rr M (t + 7) n) 3 (nn_rf M t 6 - nn_rf M t 7 + 1)) (nn_rr M (t + 7) n) 4 (nn_rf M t 6)) (t + 7) 0 ((nn_rr M (t + 7) n : Nat) : Int)) (t + 8) 0 0) :=
        fr_ui (fr_ui (fr_uf (fr_uf (fr_trans (fr_mono f1 (fun o b z => by omega)) (fr_mono f2 (fun o b z => Or.inr (Or.inr (Or.inr z))))) (Or.inr (Or.inr (Or.inr ⟨Nat.le_refl _, by omega⟩)))) (Or.inr (Or.inr (Or.inr ⟨Nat.le_refl _, by omega⟩)))) (Or.inl rfl)) (Or.inr (Or.inl rfl))
      have A3 : nn_rf (nn_ui (nn_ui (nn_uf (nn_uf M2 (nn_rr M (t + 7) n) 3 (nn_rf M t 6 - nn_rf M t 7 + 1)) (nn_rr M (t + 7) n) 4 (nn_rf M t 6)) (t + 7) 0 ((nn_rr M (t + 7) n : Nat) : Int)) (t + 8) 0 0) (nn_rr M (t + 7) n) 3 = nn_rf M t 6 - nn_rf M t 7 + 1 := by
        rw [rd_fi, if_neg (by omega), rd_fi, if_neg (by omega), rd_ff, if_neg (by omega), rd_ff, if_pos ⟨rfl, rfl⟩]
      have A4 : nn_rf (nn_ui (nn_ui (nn_uf (nn_uf M2 (nn_rr M (t + 7) n) 3 (nn_rf M t 6 - nn_rf M t 7 + 1)) (nn_rr M (t + 7) n) 4 (nn_rf M t 6)) (t + 7) 0 ((nn_rr M (t + 7) n : Nat) : Int)) (t + 8) 0 0) (nn_rr M (t + 7) n) 4 = nn_rf M t 6 := by
        rw [rd_fi, if_neg (by omega), rd_fi, if_neg (by omega), rd_ff, if_pos ⟨rfl, rfl⟩]
      have fB : fr_ (fun o b => (o = nn_rr M (t + 7) n ∧ (b = 3 ∨ b = 4)) ∨ o = t + 7 ∨ o = t + 8) M2 (nn_ui (nn_ui (nn_uf (nn_uf M2 (nn_rr M (t + 7) n) 3 (nn_rf M t 6 - nn_rf M t 7 + 1)) (nn_rr M (t + 7) n) 4 (nn_rf M t 6)) (t + 7) 0 ((nn_rr M (t + 7) n : Nat) : Int)) (t + 8) 0 0) :=
        fr_ui (fr_ui (fr_uf (fr_uf (fr_refl M2) (Or.inl ⟨rfl, Or.inl rfl⟩)) (Or.inl ⟨rfl, Or.inr rfl⟩)) (Or.inr (Or.inl rfl))) (Or.inr (Or.inr rfl))
      have A5 : cv_ (nn_ui (nn_ui (nn_uf (nn_uf M2 (nn_rr M (t + 7) n) 3 (nn_rf M t 6 - nn_rf M t 7 + 1)) (nn_rr M (t + 7) n) 4 (nn_rf M t 6)) (t + 7) 0 ((nn_rr M (t + 7) n : Nat) : Int)) (t + 8) 0 0) (nn_rr M (t + 7) n) = mem := by
        have : cv_ (nn_ui (nn_ui (nn_uf (nn_uf M2 (nn_rr M (t + 7) n) 3 (nn_rf M t 6 - nn_rf M t 7 + 1)) (nn_rr M (t + 7) n) 4 (nn_rf M t 6)) (t + 7) 0 ((nn_rr M (t + 7) n : Nat) : Int)) (t + 8) 0 0) (nn_rr M (t + 7) n) = cv_ M2 (nn_rr M (t + 7) n) := by
          funext j
          unfold cv_
          rw [fr_rf fB (by omega), fr_ri fB (by omega), fr_ri fB (by omega)]
        rw [this, cv_ext v2, cv_fr f1 (fun o b z z2 => by have := z.1; have := z.2; omega), a1]
      have A6 : kr_ (nn_ui (nn_ui (nn_uf (nn_uf M2 (nn_rr M (t + 7) n) 3 (nn_rf M t 6 - nn_rf M t 7 + 1)) (nn_rr M (t + 7) n) 4 (nn_rf M t 6)) (t + 7) 0 ((nn_rr M (t + 7) n : Nat) : Int)) (t + 8) 0 0) (nn_rr M (t + 7) n) := by
        have := kk2 (kr_fr f1 (fun o b z z2 => by have := z.1; have := z.2; omega) a2)
        unfold kr_ at this ⊢
        rw [fr_rf fB (by omega)]
        exact this
      have A7 : ∀ j, 0 ≤ j → j < 24 → nn_rr (nn_ui (nn_ui (nn_uf (nn_uf M2 (nn_rr M (t + 7) n) 3 (nn_rf M t 6 - nn_rf M t 7 + 1)) (nn_rr M (t + 7) n) 4 (nn_rf M t 6)) (t + 7) 0 ((nn_rr M (t + 7) n : Nat) : Int)) (t + 8) 0 0) (t + 7) j = if j = 0 then nn_rr M (t + 7) n else if j ≤ n then nn_rr M (t + 7) (j - 1) else nn_rr M (t + 7) j := by
        intro j j0 j1
        rw [rr_ii0 (by omega), rr_ii]
        by_cases z : j = 0
        · rw [if_pos ⟨rfl, by rw [z]⟩, if_pos z]
        · rw [if_neg (by omega), if_neg z, rr_uf0 (by omega), rr_uf0 (by omega), fr_rr f2 (fun z => by have := z.1; omega), g1 j j0 j1]
          by_cases y : j ≤ n
          · rw [if_pos (by omega), if_pos y]
          · rw [if_neg (by omega), if_neg y]
      have A8 : ∀ j, 0 ≤ j → j < 24 → nn_ri (nn_ui (nn_ui (nn_uf (nn_uf M2 (nn_rr M (t + 7) n) 3 (nn_rf M t 6 - nn_rf M t 7 + 1)) (nn_rr M (t + 7) n) 4 (nn_rf M t 6)) (t + 7) 0 ((nn_rr M (t + 7) n : Nat) : Int)) (t + 8) 0 0) (t + 8) j = if j = 0 then 0 else if j ≤ n then nn_ri M (t + 8) (j - 1) else nn_ri M (t + 8) j := by
        intro j j0 j1
        rw [rd_ii]
        by_cases z : j = 0
        · rw [if_pos ⟨rfl, by rw [z]⟩, if_pos z]
        · rw [if_neg (by omega), if_neg z, rd_ii, if_neg (by omega), rd_if, if_neg (by omega), rd_if, if_neg (by omega), fr_ri f2 (fun z => by have := z.1; omega), g2 j j0 j1]
          by_cases y : j ≤ n
          · rw [if_pos (by omega), if_pos y]
          · rw [if_neg (by omega), if_neg y]
      have A9 : ∀ j, 0 ≤ j → j < 24 → j ≠ 0 → nn_ri (nn_ui (nn_ui (nn_uf (nn_uf M2 (nn_rr M (t + 7) n) 3 (nn_rf M t 6 - nn_rf M t 7 + 1)) (nn_rr M (t + 7) n) 4 (nn_rf M t 6)) (t + 7) 0 ((nn_rr M (t + 7) n : Nat) : Int)) (t + 8) 0 0) (t + 9) j = if j ≤ n then nn_ri M (t + 9) (j - 1) else nn_ri M (t + 9) j := by
        intro j j0 j1 z
        rw [rd_ii, if_neg (by omega), rd_ii, if_neg (by omega), rd_if, if_neg (by omega), rd_if, if_neg (by omega), fr_ri f2 (fun z => by have := z.1; omega), g3 j j0 j1]
        by_cases y : j ≤ n
        · rw [if_pos (by omega), if_pos y]
        · rw [if_neg (by omega), if_neg y]
      generalize nn_ui (nn_ui (nn_uf (nn_uf M2 (nn_rr M (t + 7) n) 3 (nn_rf M t 6 - nn_rf M t 7 + 1)) (nn_rr M (t + 7) n) 4 (nn_rf M t 6)) (t + 7) 0 ((nn_rr M (t + 7) n : Nat) : Int)) (t + 8) 0 0 = MA at fA A3 A4 A5 A6 A7 A8 A9 ⊢
      have hA : ∀ o b, (o < t + 7) → ¬ (o = t + 7 ∨ o = t + 8 ∨ o = t + 9 ∨ vr_ (nn_rr M (t + 7) n) o b) := fun o b ho z => by
        rcases z with z | z | z | z
        · omega
        · omega
        · omega
        · have := z.1; omega
      have eA8 : nn_rf MA t 8 = nn_rf M t 8 := fr_rf fA (hA _ _ (by omega))
      refine ct_T_newId (by rw [eA8]; exact h8) ?_
      rw [eA8]
      rintro _ rfl
      have eA5 : nn_rf (nn_ui (nn_uf MA t 8 (nn_rf M t 8 + 1)) (t + 9) 0 (nn_rf M t 8 + 1)) t 5 = n := by
        rw [rd_fi, if_neg (by omega), rd_ff, if_neg (by omega), fr_rf fA (hA _ _ (by omega)), c1]
      rw [eA5, mm_w_id (x := n + 1) (by omega)]
      rintro _ rfl _ rfl _ rfl
      have fZ : fr_ (fun o b => (o = t ∧ (b = 5 ∨ b = 7 ∨ b = 8)) ∨ (o = t + 1 ∧ b = 2) ∨ (o = t + 9 ∧ b = 0)) MA (nn_uf (nn_uf (nn_uf (nn_ui (nn_uf MA t 8 (nn_rf M t 8 + 1)) (t + 9) 0 (nn_rf M t 8 + 1)) t 5 (n + 1)) (t + 1) 2 0) t 7 0) :=
        fr_uf (fr_uf (fr_uf (fr_ui (fr_uf (fr_refl MA) (Or.inl ⟨rfl, Or.inr (Or.inr rfl)⟩)) (Or.inr (Or.inr ⟨rfl, rfl⟩))) (Or.inl ⟨rfl, Or.inl rfl⟩)) (Or.inr (Or.inl ⟨rfl, rfl⟩))) (Or.inl ⟨rfl, Or.inr (Or.inl rfl)⟩)
      have Z8 : nn_rf (nn_uf (nn_uf (nn_uf (nn_ui (nn_uf MA t 8 (nn_rf M t 8 + 1)) (t + 9) 0 (nn_rf M t 8 + 1)) t 5 (n + 1)) (t + 1) 2 0) t 7 0) t 8 = nn_rf M t 8 + 1 := by
        rw [rd_ff, if_neg (by omega), rd_ff, if_neg (by omega), rd_ff, if_neg (by omega), rd_fi, if_neg (by omega), rd_ff, if_pos ⟨rfl, rfl⟩]
      have Z7 : nn_rf (nn_uf (nn_uf (nn_uf (nn_ui (nn_uf MA t 8 (nn_rf M t 8 + 1)) (t + 9) 0 (nn_rf M t 8 + 1)) t 5 (n + 1)) (t + 1) 2 0) t 7 0) t 7 = 0 := by
        rw [rd_ff, if_pos ⟨rfl, rfl⟩]
      have Z5 : nn_rf (nn_uf (nn_uf (nn_uf (nn_ui (nn_uf MA t 8 (nn_rf M t 8 + 1)) (t + 9) 0 (nn_rf M t 8 + 1)) t 5 (n + 1)) (t + 1) 2 0) t 7 0) t 5 = n + 1 := by
        rw [rd_ff, if_neg (by omega), rd_ff, if_neg (by omega), rd_ff, if_pos ⟨rfl, rfl⟩]
      have Z2 : nn_rf (nn_uf (nn_uf (nn_uf (nn_ui (nn_uf MA t 8 (nn_rf M t 8 + 1)) (t + 9) 0 (nn_rf M t 8 + 1)) t 5 (n + 1)) (t + 1) 2 0) t 7 0) (t + 1) 2 = 0 := by
        rw [rd_ff, if_neg (by omega), rd_ff, if_pos ⟨rfl, rfl⟩]
      have Z9 : nn_ri (nn_uf (nn_uf (nn_uf (nn_ui (nn_uf MA t 8 (nn_rf M t 8 + 1)) (t + 9) 0 (nn_rf M t 8 + 1)) t 5 (n + 1)) (t + 1) 2 0) t 7 0) (t + 9) 0 = nn_rf M t 8 + 1 := by
        rw [rd_if, if_neg (by omega), rd_if, if_neg (by omega), rd_if, if_neg (by omega), rd_ii, if_pos ⟨rfl, rfl⟩]
      generalize nn_uf (nn_uf (nn_uf (nn_ui (nn_uf MA t 8 (nn_rf M t 8 + 1)) (t + 9) 0 (nn_rf M t 8 + 1)) t 5 (n + 1)) (t + 1) 2 0) t 7 0 = MZ at fZ Z8 Z7 Z5 Z2 Z9 ⊢
      have hZ : ∀ v, t + 2 ≤ v → v + 3 ≤ t + 8 ∨ t + 10 ≤ v → ∀ o b, vr_ v o b → ¬ ((o = t ∧ (b = 5 ∨ b = 7 ∨ b = 8)) ∨ (o = t + 1 ∧ b = 2) ∨ (o = t + 9 ∧ b = 0)) := fun v h1 h2 o b z z2 => by
        have := z.1; have := z.2; omega
      have r7 : ∀ j, nn_rr MZ (t + 7) j = nn_rr MA (t + 7) j := fun j => fr_rr fZ (by omega)
      refine h MZ ?_ Z8 Z7 ⟨⟨?_, ?_⟩, ⟨?_, ?_⟩, ⟨Z5, by omega, by omega⟩, ?_, fun i i0 i1 => ?_⟩
      · refine fr_trans (fr_mono fA (fun o b z => ?_)) (fr_mono fZ (fun o b z => ?_))
        · refine ⟨?_, ?_⟩
          · rcases z with z | z | z | z
            · exact ⟨by omega, by omega⟩
            · exact ⟨by omega, by omega⟩
            · exact ⟨by omega, by omega⟩
            · exact ⟨by have := z.1; omega, by have := z.2; omega⟩
          · intro e
            rcases z with z | z | z | z
            · omega
            · omega
            · omega
            · have := z.1; omega
        · exact ⟨⟨by omega, by omega⟩, fun e => by omega⟩
      · funext j
        unfold cv_
        rw [Z2, bt_zero]
        rfl
      · unfold kr_
        rw [Z2]
        omega
      · rw [cv_fr fZ (hZ _ (by omega) (by omega)), cv_fr fA (fun o b z z2 => by
          rcases z2 with z2 | z2 | z2 | z2
          · have := z.2; omega
          · have := z.2; omega
          · have := z.2; omega
          · have := z.2; have := z2.1; omega), b1]
      · refine kr_fr fZ (hZ _ (by omega) (by omega)) (kr_fr fA (fun o b z z2 => by
          rcases z2 with z2 | z2 | z2 | z2
          · have := z.2; omega
          · have := z.2; omega
          · have := z.2; omega
          · have := z.2; have := z2.1; omega) b2)
      · have pick : ∀ j, 0 ≤ j → j < 24 → ∃ j', 0 ≤ j' ∧ j' < 24 ∧ nn_rr MZ (t + 7) j = nn_rr M (t + 7) j' ∧ ((j = 0 ∧ j' = n) ∨ (j ≠ 0 ∧ j ≤ n ∧ j' = j - 1) ∨ (n < j ∧ j' = j)) := by
          intro j p0 p1
          rw [r7, A7 j p0 p1]
          by_cases z : j = 0
          · exact ⟨n, by omega, by omega, by rw [if_pos z], Or.inl ⟨z, rfl⟩⟩
          · by_cases y : j ≤ n
            · exact ⟨j - 1, by omega, by omega, by rw [if_neg z, if_pos y], Or.inr (Or.inl ⟨z, y, rfl⟩)⟩
            · exact ⟨j, p0, p1, by rw [if_neg z, if_neg y], Or.inr (Or.inr ⟨by omega, rfl⟩)⟩
        refine ⟨fun j p0 p1 => ?_, fun j1 j2 p0 p1 p2 p3 he => ?_⟩
        · obtain ⟨j', x0, x1, x2, _⟩ := pick j p0 p1
          obtain ⟨a, ha, ea⟩ := s.1 j' x0 x1
          exact ⟨a, ha, x2.trans ea⟩
        · obtain ⟨j', x0, x1, x2, x3⟩ := pick j1 p0 p1
          obtain ⟨j'', y0, y1, y2, y3⟩ := pick j2 p2 p3
          rw [x2, y2] at he
          have := s.2 j' j'' x0 x1 y0 y1 he
          omega
      · unfold sh_
        by_cases z : i = 0
        · rw [if_pos z, z]
          have e : nn_rr MZ (t + 7) 0 = nn_rr M (t + 7) n := by rw [r7, A7 0 (by omega) (by omega), if_pos rfl]
          have hv := hZ (nn_rr M (t + 7) n) (by omega) (by omega)
          refine ⟨Z9, ?_, ?_, ?_, ?_, ?_⟩
          · rw [fr_ri fZ (by omega), A8 0 (by omega) (by omega), if_pos rfl]
          · rw [e, fr_rf fZ (hv _ 3 ⟨Nat.le_refl _, by omega⟩)]; exact A3
          · rw [e, fr_rf fZ (hv _ 4 ⟨Nat.le_refl _, by omega⟩)]; exact A4
          · rw [e, cv_fr fZ hv]; exact A5
          · rw [e]; exact kr_fr fZ hv A6
        · rw [if_neg z]
          have e : nn_rr MZ (t + 7) i = nn_rr M (t + 7) (i - 1) := by rw [r7, A7 i i0 (by omega), if_neg z, if_pos (by omega)]
          obtain ⟨r1, r2, r3, r4, r5, r6⟩ := r (i - 1) (by omega) (by omega)
          have hi1 := sl_in s (i := i - 1) (by omega) (by omega)
          have hne := sl_ne s (i := i - 1) (j := n) (by omega) (by omega) (by omega) (by omega) (by omega)
          have hv := hZ (nn_rr M (t + 7) (i - 1)) (by omega) (by omega)
          have hw : ∀ o b, vr_ (nn_rr M (t + 7) (i - 1)) o b → ¬ (o = t + 7 ∨ o = t + 8 ∨ o = t + 9 ∨ vr_ (nn_rr M (t + 7) n) o b) := fun o b z z2 => by
            rcases z2 with z2 | z2 | z2 | z2
            · have := z.1; omega
            · have := z.1; omega
            · have := z.1; omega
            · have := z.1; have := z.2; have := z2.1; have := z2.2; omega
          refine ⟨?_, ?_, ?_, ?_, ?_, ?_⟩
          · rw [fr_ri fZ (by omega), A9 i i0 (by omega) z, if_pos (by omega)]; exact r1
          · rw [fr_ri fZ (by omega), A8 i i0 (by omega), if_neg z, if_pos (by omega)]; exact r2
          · rw [e, fr_rf fZ (hv _ 3 ⟨Nat.le_refl _, by omega⟩), fr_rf fA (hw _ 3 ⟨Nat.le_refl _, by omega⟩)]; exact r3
          · rw [e, fr_rf fZ (hv _ 4 ⟨Nat.le_refl _, by omega⟩), fr_rf fA (hw _ 4 ⟨Nat.le_refl _, by omega⟩)]; exact r4
          · rw [e, cv_fr fZ hv, cv_fr fA hw]; exact r5
          · rw [e]; exact kr_fr fZ hv (kr_fr fA hw r6)
    · rw [mm_w_id (x := i - 1) (by omega), mm_w_id (x := i + (-1)) (by omega)]
      have bi : 0 ≤ i ∧ i < 24 := by omega
      have bm : 0 ≤ i - 1 ∧ i - 1 < 24 := by omega
      refine ⟨bm, bi, ?_⟩
      intro M42 e42
      refine ⟨bm, bi, ?_⟩
      intro M56 e56
      refine ⟨bm, bi, ?_⟩
      intro M70 e70
      rw [show i + (-1) = i - 1 by omega]
      refine ih c (by omega) M70 ?_ ?_ ?_ ?_
      · rw [e70, e56, e42]
        exact fr_ui (fr_ui (fr_ui f1 (Or.inl rfl)) (Or.inr (Or.inl rfl))) (Or.inr (Or.inr rfl))
      · intro j j0 j1
        rw [e70, rr_ii0 (by omega), e56, rr_ii0 (by omega), e42, rr_ii]
        by_cases z : j = i
        · rw [if_pos ⟨rfl, by rw [z]⟩, if_pos (by omega), g1 (i - 1) (by omega) (by omega), if_neg (by omega), z]
        · rw [if_neg (by omega), g1 j j0 j1]
          by_cases y : i < j ∧ j ≤ n
          · rw [if_pos y, if_pos (by omega)]
          · rw [if_neg y, if_neg (by omega)]
      · intro j j0 j1
        have l8 : nn_ri M70 (t + 8) j = if j.toNat = i.toNat then nn_ri M1 (t + 8) (i - 1) else nn_ri M1 (t + 8) j := by
          simp [e70, e56, e42, rd_ii]
        rw [l8]
        by_cases z : j = i
        · rw [if_pos (by rw [z]), if_pos (by omega), g2 (i - 1) (by omega) (by omega), if_neg (by omega), z]
        · rw [if_neg (by omega), g2 j j0 j1]
          by_cases y : i < j ∧ j ≤ n
          · rw [if_pos y, if_pos (by omega)]
          · rw [if_neg y, if_neg (by omega)]
      · intro j j0 j1
        have l9 : nn_ri M70 (t + 9) j = if j.toNat = i.toNat then nn_ri M1 (t + 9) (i - 1) else nn_ri M1 (t + 9) j := by
          simp [e70, e56, e42, rd_ii]
        rw [l9]
        by_cases z : j = i
        · rw [if_pos (by rw [z]), if_pos (by omega), g3 (i - 1) (by omega) (by omega), if_neg (by omega), z]
        · rw [if_neg (by omega), g3 j j0 j1]
          by_cases y : i < j ∧ j ≤ n
          · rw [if_pos y, if_pos (by omega)]
          · rw [if_neg y, if_neg (by omega)]
  exact L n c2 (Int.le_refl _) M (fr_refl M) (fun j _ _ => by rw [if_neg (by omega)]) (fun j _ _ => by rw [if_neg (by omega)]) (fun j _ _ => by rw [if_neg (by omega)])
