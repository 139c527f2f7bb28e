/-! Versions: what they hold, key by key -/
def cv_ (M : mm_M) (v k : Nat) : Option (Int × Int) := if bt_ (nn_rf M v 2) k = true then some (nn_ri M (v + 2) (k : Int), nn_ri M (v + 1) (k : Int)) else none
def vr_ (v o _b : Nat) : Prop := v ≤ o ∧ o < v + 3
def kr_ (M : mm_M) (v : Nat) : Prop := -2147483648 ≤ nn_rf M v 2 ∧ nn_rf M v 2 < 2147483648
theorem bb_rng (b : BitVec 32) : -2147483648 ≤ b.toInt ∧ b.toInt < 2147483648 := by
  have h1 := BitVec.toInt_lt (x := b)
  have h2 := BitVec.le_toInt (x := b)
  constructor <;> simpa using by first | exact h1 | exact h2
theorem cv_fr {P : Nat → Nat → Prop} {M M' : mm_M} (h : fr_ P M M') {v : Nat} (hv : ∀ o b, vr_ v o b → ¬ P o b) : cv_ M' v = cv_ M v := by
  funext k
  unfold cv_
  rw [fr_rf h (hv v 2 ⟨by omega, by omega⟩), fr_ri h (hv (v + 2) _ ⟨by omega, by omega⟩), fr_ri h (hv (v + 1) _ ⟨by omega, by omega⟩)]
theorem kr_fr {P : Nat → Nat → Prop} {M M' : mm_M} (h : fr_ P M M') {v : Nat} (hv : ∀ o b, vr_ v o b → ¬ P o b) (k : kr_ M v) : kr_ M' v := by
  unfold kr_
  rw [fr_rf h (hv v 2 ⟨by omega, by omega⟩)]
  exact k
theorem hs_ {M : mm_M} {v : Nat} {k : Int} (h : 0 ≤ k ∧ k < 32) : nf_Versions_has v k M = if (cv_ M v k.toNat).isSome = true then 1 else 0 := by
  unfold nf_Versions_has
  rw [bt_has _ _ h]
  unfold cv_
  cases bt_ (nn_rf M v 2) k.toNat <;> rfl
theorem hs0 {M : mm_M} {v : Nat} {k : Int} (h : 0 ≤ k ∧ k < 32) : nf_Versions_has v k M = 0 ↔ cv_ M v k.toNat = none := by
  rw [hs_ h]
  cases cv_ M v k.toNat <;> simp
theorem hs1 {M : mm_M} {v : Nat} {k : Int} (h : 0 ≤ k ∧ k < 32) : nf_Versions_has v k M ≠ 0 ↔ cv_ M v k.toNat ≠ none := not_congr (hs0 h)
theorem cv_rd {M : mm_M} {v : Nat} {k : Int} (h : 0 ≤ k ∧ k < 32) (hb : nf_Versions_has v k M ≠ 0) : cv_ M v k.toNat = some (nn_ri M (v + 2) k, nn_ri M (v + 1) k) := by
  rw [hs_ h] at hb
  unfold cv_ at hb ⊢
  cases hq : bt_ (nn_rf M v 2) k.toNat with
  | false => rw [hq] at hb; exact absurd rfl hb
  | true =>
    have e : ((k.toNat : Nat) : Int) = k := by omega
    simp only [if_true, e]
theorem ct_V_keep {v : Nat} {k row st : Int} {M : mm_M} {R : mm_M → Prop} (hk : 0 ≤ k ∧ k < 32)
    (h : ∀ M', fr_ (vr_ v) M M' → (∀ j, j < 32 → cv_ M' v j = if j = k.toNat then some (st, row) else cv_ M v j) → kr_ M' v → nn_rf M' v 3 = nn_rf M v 3 → nn_rf M' v 4 = nn_rf M v 4 → R M') : nr_Versions_keep v k row st M R := by
  refine ng_Versions_keep _ _ _ _ _ _ ⟨hk, ?_⟩
  rintro _ rfl
  refine ⟨hk, ?_⟩
  rintro _ rfl _ rfl
  refine h _ ?_ ?_ ?_ ?_ ?_
  · exact fr_uf (fr_ui (fr_ui (fr_refl M) ⟨by omega, by omega⟩) ⟨by omega, by omega⟩) ⟨by omega, by omega⟩
  · intro j hj
    unfold cv_
    simp only [rd_ff, rd_fi, rd_if, rd_ii]
    have e1 : ¬ (v = v + 2) := by omega
    have e2 : ¬ (v = v + 1) := by omega
    have e3 : ¬ (v + 2 = v) := by omega
    have e4 : ¬ (v + 1 = v) := by omega
    have e5 : ¬ (v + 1 = v + 2) := by omega
    have e6 : ¬ (v + 2 = v + 1) := by omega
    have e7 : ((j : Int)).toNat = j := by omega
    simp only [e1, e2, e3, e4, e5, e6, e7, false_and, if_false, true_and, and_self, if_true]
    rw [bt_keep _ _ hk j hj]
    by_cases hjk : j = k.toNat
    · simp [hjk]
    · simp [hjk]
  · unfold kr_
    simp only [rd_ff, and_self, if_true]
    rw [bb_or]
    exact bb_rng _
  · simp only [rd_ff, rd_fi]
    simp
  · simp only [rd_ff, rd_fi]
    simp
theorem ct_V_forget {v : Nat} {k : Int} {M : mm_M} {R : mm_M → Prop} (hk : 0 ≤ k ∧ k < 32)
    (h : ∀ M', fr_ (fun o b => o = v ∧ b = 2) M M' → (∀ j, j < 32 → cv_ M' v j = if j = k.toNat then none else cv_ M v j) → kr_ M' v → R M') : nr_Versions_forget v k M R := by
  refine ng_Versions_forget _ _ _ _ ?_
  rintro _ rfl
  refine h _ (fr_uf (fr_refl M) ⟨rfl, rfl⟩) ?_ ?_
  · intro j hj
    unfold cv_
    simp only [rd_ff, rd_if]
    have e3 : ¬ (v + 2 = v) := by omega
    have e4 : ¬ (v + 1 = v) := by omega
    simp only [e3, e4, false_and, if_false, and_self, if_true]
    rw [bt_drop _ _ hk j hj]
    by_cases hjk : j = k.toNat
    · simp [hjk]
    · simp [hjk]
  · unfold kr_
    simp only [rd_ff, and_self, if_true]
    rw [bb_and]
    exact bb_rng _
theorem ct_V_copy {v w : Nat} {M : mm_M} {R : mm_M → Prop} (hd : v + 3 ≤ w ∨ w + 3 ≤ v)
    (h : ∀ M', fr_ (vr_ v) M M' → (∀ j, j < 32 → cv_ M' v j = cv_ M w j) → (kr_ M w → kr_ M' v) → nn_rf M' v 3 = nn_rf M w 3 → nn_rf M' v 4 = nn_rf M w 4 → R M') : nr_Versions_copy v w M R := by
  refine ng_Versions_copy _ _ _ _ ⟨by omega, ?_⟩
  rintro _ rfl
  refine ⟨by omega, ?_⟩
  rintro _ rfl _ rfl _ rfl _ rfl
  have f : fr_ (vr_ v) M (mm_cp (mm_cp M (w + 1) 0 (v + 1) 0 32) (w + 2) 0 (v + 2) 0 32) := fr_cp (fr_cp (fr_refl M) (fun _ _ _ => ⟨by omega, by omega⟩)) (fun _ _ _ => ⟨by omega, by omega⟩)
  have g : ∀ b, nn_rf (mm_cp (mm_cp M (w + 1) 0 (v + 1) 0 32) (w + 2) 0 (v + 2) 0 32) w b = nn_rf M w b := fun b => fr_rf f (fun q => by have := q.1; have := q.2; omega)
  have w0 : ¬ (w = v) := by omega
  refine h _ ?_ ?_ ?_ ?_ ?_
  · exact fr_uf (fr_uf (fr_uf f ⟨by omega, by omega⟩) ⟨by omega, by omega⟩) ⟨by omega, by omega⟩
  · intro j hj
    unfold cv_
    have e3 : ¬ (v + 2 = v) := by omega
    have e4 : ¬ (v + 1 = v) := by omega
    simp only [rd_ff, rd_if, w0, e3, e4, false_and, if_false]
    simp
    have r1 : nn_ri (mm_cp (mm_cp M (w + 1) 0 (v + 1) 0 32) (w + 2) 0 (v + 2) 0 32) (v + 2) (j : Int) = nn_ri M (w + 2) (j : Int) := by
      rw [rd_cc _ _ _ _ _ _ _ (by omega), if_pos (by omega), rd_ci _ _ _ _ _ _ _ _ (by omega)]
      simp
    have r2 : nn_ri (mm_cp (mm_cp M (w + 1) 0 (v + 1) 0 32) (w + 2) 0 (v + 2) 0 32) (v + 1) (j : Int) = nn_ri M (w + 1) (j : Int) := by
      rw [rd_ci _ _ _ _ _ _ _ _ (by omega), rd_cc _ _ _ _ _ _ _ (by omega), if_pos (by omega)]
      simp
    rw [r1, r2, g]
  · intro hk
    unfold kr_ at hk ⊢
    simp only [rd_ff, w0, false_and, if_false]
    simp
    rw [g]
    exact hk
  · simp only [rd_ff, w0, false_and, if_false]
    simp
    exact g 3
  · simp only [rd_ff, w0, false_and, if_false]
    simp
    exact g 4
def cn_ (p : Nat → Bool) : Nat → Nat
  | 0 => 0
  | n + 1 => cn_ p n + (if p n = true then 1 else 0)
theorem cn_le (p : Nat → Bool) : ∀ n, cn_ p n ≤ n
  | 0 => Nat.le_refl _
  | n + 1 => by
    have := cn_le p n
    unfold cn_
    split <;> omega
theorem cn_cg {p q : Nat → Bool} : ∀ {n : Nat}, (∀ k, k < n → p k = q k) → cn_ p n = cn_ q n
  | 0, _ => rfl
  | n + 1, h => by
    unfold cn_
    rw [cn_cg (fun k hk => h k (Nat.lt_succ_of_lt hk)), h n (Nat.lt_succ_self n)]
def gn_ (x : Option (Int × Int)) : Bool := match x with
  | some q => q.2 == -1
  | none => false
theorem ct_V_gone {v : Nat} {M : mm_M} {R : Int → mm_M → Prop} (h : R (cn_ (fun k => gn_ (cv_ M v k)) 32) M) : nr_Versions_gone v M R := by
  refine ng_Versions_gone _ _ _ ?_
  have L : ∀ i : Int, i ≤ 32 → 0 ≤ i → nk_Versions_gone_4 v (cn_ (fun k => gn_ (cv_ M v k)) i.toNat) i M R := by
    refine lp_up (fun i hi ih h0 => ?_)
    refine ng_Versions_gone_4 _ _ _ _ _ ⟨fun c => ?_, fun c => ?_⟩
    · have : i = 32 := by omega
      subst this
      exact h
    have hb : 0 ≤ i ∧ i < 32 := ⟨h0, c⟩
    have hc := cn_le (fun k => gn_ (cv_ M v k)) i.toNat
    have e : (i + 1).toNat = i.toNat + 1 := by omega
    have st : ∀ b : Bool, gn_ (cv_ M v i.toNat) = b → nk_Versions_gone_4 v (mm_w ((cn_ (fun k => gn_ (cv_ M v k)) i.toNat : Int) + (if b = true then 1 else 0))) (mm_w (i + 1)) M R := by
      intro b hb2
      have := ih c (by omega)
      rw [e] at this
      unfold cn_ at this
      rw [mm_w_id (x := i + 1) (by omega), mm_w_id (by split <;> omega)]
      rw [hb2] at this
      cases b <;> simpa using this
    refine ⟨fun _ => hb, fun q => ?_, fun q => ?_⟩
    · refine st false ?_
      by_cases q0 : nf_Versions_has v i M = 0
      · rw [(hs0 hb).mp q0]
        rfl
      · rw [cv_rd hb q0]
        simpa [gn_] using q.resolve_left q0
    · refine st true ?_
      have := cv_rd (M := M) (v := v) hb q.1
      rw [this]
      simpa [gn_] using q.2
  exact L 0 (by omega) (by omega)
def or_ (a b : Option (Int × Int)) : Option (Int × Int) := match a with
  | some x => some x
  | none => b
theorem ct_V_takeOlder {v w : Nat} {M : mm_M} {R : mm_M → Prop} (hd : v + 3 ≤ w ∨ w + 3 ≤ v) (hkr : kr_ M v)
    (h : ∀ M', fr_ (vr_ v) M M' → (∀ j, j < 32 → cv_ M' v j = or_ (cv_ M v j) (cv_ M w j)) → kr_ M' v → nn_rf M' v 3 = min (nn_rf M v 3) (nn_rf M w 3) → nn_rf M' v 4 = max (nn_rf M v 4) (nn_rf M w 4) → R M') : nr_Versions_takeOlder v w M R := by
  refine ng_Versions_takeOlder _ _ _ _ ?_
  have L : ∀ i : Int, i ≤ 32 → 0 ≤ i → ∀ M1, fr_ (vr_ v) M M1 → (∀ j, j < 32 → cv_ M1 v j = if (j : Int) < i then or_ (cv_ M v j) (cv_ M w j) else cv_ M v j) → kr_ M1 v → nn_rf M1 v 3 = nn_rf M v 3 → nn_rf M1 v 4 = nn_rf M v 4 → nk_Versions_takeOlder_2 v w i M1 R := by
    refine lp_up (fun i hi ih h0 M1 f1 c1 k1 a1 b1 => ?_)
    have g : cv_ M1 w = cv_ M w := cv_fr f1 (fun o b q p => by have := q.1; have := q.2; have := p.1; have := p.2; omega)
    have gf : ∀ b, nn_rf M1 w b = nn_rf M w b := fun b => fr_rf f1 (fun q => by have := q.1; have := q.2; omega)
    refine ng_Versions_takeOlder_2 _ _ _ _ _ ⟨fun c => ?_, fun c => ?_⟩
    · rintro _ rfl _ rfl
      have w0 : ¬ (w = v) := by omega
      refine h _ (fr_uf (fr_uf f1 ⟨by omega, by omega⟩) ⟨by omega, by omega⟩) ?_ ?_ ?_ ?_
      · intro j hj
        have := c1 j hj
        rw [if_pos (by omega)] at this
        rw [← this]
        unfold cv_
        simp only [rd_ff, rd_if]
        simp
      · unfold kr_ at k1 ⊢
        simp only [rd_ff]
        simpa using k1
      · simp only [rd_ff, w0, false_and, if_false]
        simp [a1, gf]
      · simp only [rd_ff, w0, false_and, if_false]
        simp [b1, gf]
    have hb : 0 ≤ i ∧ i < 32 := ⟨h0, c⟩
    have nx := ih c (by omega)
    have wi : mm_w (i + 1) = i + 1 := mm_w_id (by omega)
    have ti : ((i.toNat : Nat) : Int) = i := by omega
    have c1i := c1 i.toNat (by omega)
    rw [if_neg (by omega)] at c1i
    refine ⟨fun _ => hb, fun _ => hb, fun q => ?_, fun q => ?_⟩
    · rw [wi]
      refine nx M1 f1 (fun j hj => ?_) k1 a1 b1
      rw [c1 j hj]
      by_cases hji : (j : Int) < i
      · rw [if_pos hji, if_pos (by omega)]
      · rw [if_neg hji]
        by_cases he : (j : Int) < i + 1
        · rw [if_pos he]
          have : j = i.toNat := by omega
          subst this
          rw [hs0 hb, hs1 hb, g, c1i] at q
          rcases q with q | q
          · rw [q]
            cases cv_ M v i.toNat <;> rfl
          · cases hv : cv_ M v i.toNat with
            | none => exact absurd hv q
            | some p => rfl
        · rw [if_neg he]
    · refine ct_V_keep hb (fun M2 f2 c2 k2 a2 b2 => ?_)
      rw [wi]
      refine nx M2 (fr_trans f1 f2) (fun j hj => ?_) k2 (a2.trans a1) (b2.trans b1)
      rw [c2 j hj]
      have hw := cv_rd (M := M1) (v := w) hb q.1
      rw [g] at hw
      by_cases he : j = i.toNat
      · rw [if_pos he, if_pos (by omega), he, ← hw]
        have q2 := q.2
        rw [hs0 hb, c1i] at q2
        rw [q2]
        rfl
      · rw [if_neg he, c1 j hj]
        by_cases hji : (j : Int) < i
        · rw [if_pos hji, if_pos (by omega)]
        · rw [if_neg hji, if_neg (by omega)]
  exact L 0 (by omega) (by omega) M (fr_refl M) (fun j _ => by rw [if_neg (by omega)]) hkr rfl rfl
