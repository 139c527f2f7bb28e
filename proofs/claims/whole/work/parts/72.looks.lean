/-! the class's Table: filters, looks; a copy -/
theorem bt_ushr (x : Int) (k i : Nat) (hk : k < 32) : bt_ (mm_ushr x (k : Int)) i = bt_ x (k + i) := by
  unfold bt_
  rw [bb_ushr x k hk, BitVec.ofInt_toInt, BitVec.getLsbD_ushiftRight]
theorem bt_255 (i : Nat) (hi : i < 32) : bt_ 255 i = decide (i < 8) := by
  unfold bt_
  have : ∀ i : Nat, i < 32 → (BitVec.ofInt 32 255).getLsbD i = decide (i < 8) := by decide
  exact this i hi
theorem bt_out (x : Int) (i : Nat) (hi : 32 ≤ i) : bt_ x i = false := by
  unfold bt_
  rw [BitVec.getLsbD_of_ge _ _ hi]
theorem bt_filter {v : Nat} {M : mm_M} (i : Nat) (hi : i < 8) : bt_ (nf_Versions_filter v M) i = (bt_ (nn_rf M v 2) i || bt_ (nn_rf M v 2) (8 + i) || bt_ (nn_rf M v 2) (16 + i) || bt_ (nn_rf M v 2) (24 + i)) := by
  unfold nf_Versions_filter
  have e8 := bt_ushr (nn_rf M v 2) 8 i (by decide)
  have e16 := bt_ushr (nn_rf M v 2) 16 i (by decide)
  have e24 := bt_ushr (nn_rf M v 2) 24 i (by decide)
  rw [bt_and, bt_255 i (by omega), bt_or, bt_or, bt_or]
  rw [show mm_ushr (nn_rf M v 2) 8 = mm_ushr (nn_rf M v 2) ((8 : Nat) : Int) from rfl, show mm_ushr (nn_rf M v 2) 16 = mm_ushr (nn_rf M v 2) ((16 : Nat) : Int) from rfl, show mm_ushr (nn_rf M v 2) 24 = mm_ushr (nn_rf M v 2) ((24 : Nat) : Int) from rfl, e8, e16, e24]
  rw [decide_eq_true hi, Bool.and_true]
def fl_ (V : ab_V) (i : Nat) : Bool := (V i).isSome || (V (8 + i)).isSome || (V (16 + i)).isSome || (V (24 + i)).isSome
theorem cv_some (M : mm_M) (v k : Nat) : (cv_ M v k).isSome = bt_ (nn_rf M v 2) k := by
  unfold cv_
  cases bt_ (nn_rf M v 2) k <;> rfl
theorem bt_fl {v : Nat} {M : mm_M} (i : Nat) (hi : i < 8) : bt_ (nf_Versions_filter v M) i = fl_ (cv_ M v) i := by
  rw [bt_filter i hi]
  unfold fl_
  rw [cv_some, cv_some, cv_some, cv_some]
/-- the looks at one key: how many, whether it is found -/
def lo_ (mem : Bool) (q : Int → ab_R) (key rep : Int) : Nat → Int × Bool
  | 0 => (1, mem)
  | k + 1 => if (lo_ mem q key rep k).2 = false ∧ rep < (q k).2.2.2.2.1 ∧ fl_ (q k).2.2.2.2.2 (key % 8).toNat = true then ((lo_ mem q key rep k).1 + 1, ((q k).2.2.2.2.2 key.toNat).isSome) else lo_ mem q key rep k
theorem lo_in (mem : Bool) (q : Int → ab_R) (key rep : Int) : ∀ k : Nat, 1 ≤ (lo_ mem q key rep k).1 ∧ (lo_ mem q key rep k).1 ≤ 1 + k
  | 0 => ⟨Int.le_refl _, by show (1 : Int) ≤ 1 + ((0 : Nat) : Int); omega⟩
  | k + 1 => by
    have := lo_in mem q key rep k
    unfold lo_
    split
    · show 1 ≤ (lo_ mem q key rep k).1 + 1 ∧ (lo_ mem q key rep k).1 + 1 ≤ 1 + ((k + 1 : Nat) : Int)
      omega
    · omega
theorem lo_found {mem : Bool} {q : Int → ab_R} {key rep : Int} : ∀ {k m : Nat}, k ≤ m → (lo_ mem q key rep k).2 = true → lo_ mem q key rep m = lo_ mem q key rep k
  | k, 0, h, _ => by
    have : k = 0 := by omega
    rw [this]
  | k, m + 1, h, hf => by
    by_cases z : k = m + 1
    · rw [z]
    · have e := lo_found (k := k) (m := m) (by omega) hf
      have hn : ¬ ((lo_ mem q key rep m).2 = false ∧ rep < (q m).2.2.2.2.1 ∧ fl_ (q m).2.2.2.2.2 (key % 8).toNat = true) := by
        rw [e, hf]
        rintro ⟨a, _⟩
        cases a
      show (if (lo_ mem q key rep m).2 = false ∧ rep < (q m).2.2.2.2.1 ∧ fl_ (q m).2.2.2.2.2 (key % 8).toNat = true then ((lo_ mem q key rep m).1 + 1, ((q m).2.2.2.2.2 key.toNat).isSome) else lo_ mem q key rep m) = _
      rw [if_neg hn, e]
theorem ct_T_looks {t : Nat} {key rep n : Int} {M : mm_M} {R : Int → mm_M → Prop} {mem lat : ab_V} {q : Int → ab_R} (hk : 0 ≤ key ∧ key < 32) (k : tb_ M t mem lat n q) (h : R (lo_ (mem key.toNat).isSome q key rep n.toNat).1 M) : nr_Table_looks t key rep M R := by
  obtain ⟨n0, n24⟩ := k.2.2.1.2
  have hb2 : ∀ b : Bool, (if b = true then (1 : Int) else 0) ≠ 0 ↔ b = true := fun b => by cases b <;> simp
  have hb3 : ∀ b : Bool, (if b = true then (1 : Int) else 0) = 0 ↔ b = false := fun b => by cases b <;> simp
  refine ng_Table_looks _ _ _ _ _ ?_
  rintro _ rfl
  have L : ∀ i : Int, i ≤ n → 0 ≤ i → nk_Table_looks_15 t key rep (lo_ (mem key.toNat).isSome q key rep i.toNat).1 (if (lo_ (mem key.toNat).isSome q key rep i.toNat).2 = true then 1 else 0) i M R := by
    refine lp_up (fun i hi ih h0 => ?_)
    have hl := lo_in (mem key.toNat).isSome q key rep i.toNat
    refine ng_Table_looks_15 _ _ _ _ _ _ _ _ ?_
    rw [k.2.2.1.1, hb2, hb3]
    refine ⟨fun c => ?_, fun c => ⟨fun z => ?_, fun z => ?_⟩⟩
    · have : i = n := by omega
      subst this
      exact h
    · rw [lo_found (k := i.toNat) (m := n.toNat) (by omega) z] at h
      exact h
    obtain ⟨r1, r2, r3, r4, r5, r6⟩ := k.2.2.2.2 i h0 c
    have nx := ih c (by omega)
    have e : lo_ (mem key.toNat).isSome q key rep (i.toNat + 1) = if (lo_ (mem key.toNat).isSome q key rep i.toNat).2 = false ∧ rep < (q i).2.2.2.2.1 ∧ fl_ (q i).2.2.2.2.2 (key % 8).toNat = true then ((lo_ (mem key.toNat).isSome q key rep i.toNat).1 + 1, ((q i).2.2.2.2.2 key.toNat).isSome) else lo_ (mem key.toNat).isSome q key rep i.toNat := by
      show (if (lo_ (mem key.toNat).isSome q key rep i.toNat).2 = false ∧ rep < (q (i.toNat : Int)).2.2.2.2.1 ∧ fl_ (q (i.toNat : Int)).2.2.2.2.2 (key % 8).toNat = true then ((lo_ (mem key.toNat).isSome q key rep i.toNat).1 + 1, ((q (i.toNat : Int)).2.2.2.2.2 key.toNat).isSome) else lo_ (mem key.toNat).isSome q key rep i.toNat) = _
      rw [show ((i.toNat : Nat) : Int) = i by omega]
    rw [show (i + 1).toNat = i.toNat + 1 by omega, e] at nx
    have hm8 : 0 ≤ key % 8 ∧ key % 8 < 8 := by omega
    have ef : mm_and (mm_ushr (nf_Versions_filter (nn_rr M (t + 7) i) M) (mm_and key 7)) 1 = if fl_ (q i).2.2.2.2.2 (key % 8).toNat = true then 1 else 0 := by
      rw [and7 key hk.1 (by omega), bt_has _ _ (by omega), bt_fl _ (by omega), r5]
    rw [r4, ef, hb2, hb3, mm_w_id (x := i + 1) (by omega), mm_w_id (x := _ + (1 : Int)) (by omega)]
    refine ⟨by omega, fun _ => by omega, fun _ => by omega, fun w => ?_, fun w => ?_⟩
    · have hn : ¬ ((lo_ (mem key.toNat).isSome q key rep i.toNat).2 = false ∧ rep < (q i).2.2.2.2.1 ∧ fl_ (q i).2.2.2.2.2 (key % 8).toNat = true) := by
        rintro ⟨_, a2, a3⟩
        rcases w with w | w
        · exact absurd a2 (Int.not_lt.mpr w)
        · rw [a3] at w; cases w
      rw [if_neg hn] at nx
      exact nx
    · have hp : (lo_ (mem key.toNat).isSome q key rep i.toNat).2 = false ∧ rep < (q i).2.2.2.2.1 ∧ fl_ (q i).2.2.2.2.2 (key % 8).toNat = true := ⟨z, w.1, w.2⟩
      rw [if_pos hp] at nx
      intro y ey
      rw [ey, hs_ hk, r5]
      exact nx
  have := L 0 n0 (Int.le_refl _)
  rw [hs_ hk, k.1.1]
  exact this
theorem ct_T_copy {t w : Nat} {n : Int} {M : mm_M} {R : mm_M → Prop} {mem lat : ab_V} {q : Int → ab_R} (hd : t + 82 ≤ w ∨ w + 82 ≤ t) (k : tb_ M w mem lat n q) (hsl : sl_ M t)
    (h : ∀ M', fr_ (tr_ t) M M' → tb_ M' t mem lat n q → nn_rf M' t 6 = nn_rf M w 6 → nn_rf M' t 7 = nn_rf M w 7 → nn_rf M' t 8 = nn_rf M w 8 → R M') : nr_Table_copy t w M R := by
  obtain ⟨n0, n24⟩ := k.2.2.1.2
  have sw := k.2.2.2.1
  refine ng_Table_copy _ _ _ _ ?_
  refine ct_V_copy (by omega) (fun M1 f1 c1 k1 _ _ => ?_)
  have g1 : fr_ (tr_ t) M M1 := fr_mono f1 (fun o b z => ⟨by have := z.1; omega, by have := z.2; omega⟩)
  refine ct_V_copy (by omega) (fun M2 f2 c2 k2 _ _ => ?_)
  have g2 : fr_ (tr_ t) M M2 := fr_trans g1 (fr_mono f2 (fun o b z => ⟨by have := z.1; omega, by have := z.2; omega⟩))
  have far : ∀ v, w ≤ v → v + 3 ≤ w + 82 → ∀ o b, vr_ v o b → ¬ tr_ t o b := fun v h1 h2 o b z z2 => by
    have := z.1; have := z.2; have := z2.1; have := z2.2; omega
  have m2 : cv_ M2 (t + 1) = mem := by
    rw [cv_fr f2 (fun o b z z2 => by have := z.2; have := z2.1; omega), cv_ext c1, k.1.1]
  have l2 : cv_ M2 (t + 4) = lat := by
    rw [cv_ext c2, cv_fr f1 (fun o b z z2 => by have := z.1; have := z.2; have := z2.1; have := z2.2; omega), k.2.1.1]
  have km2 : kr_ M2 (t + 1) := kr_fr f2 (fun o b z z2 => by have := z.2; have := z2.1; omega) (k1 k.1.2)
  have kl2 : kr_ M2 (t + 4) := k2 (kr_fr f1 (fun o b z z2 => by have := z.1; have := z.2; have := z2.1; have := z2.2; omega) k.2.1.2)
  have L : ∀ i : Int, i ≤ n → 0 ≤ i → ∀ M3, fr_ (fun o b => tr_ t o b ∧ t + 8 ≤ o) M2 M3 → (∀ j, 0 ≤ j → j < i → ru_ M3 t j (q j)) → nk_Table_copy_24 t w i M3 R := by
    refine lp_up (fun i hi ih h0 M3 f3 r3 => ?_)
    have g3 : fr_ (tr_ t) M M3 := fr_trans g2 (fr_mono f3 (fun o b z => z.1))
    have kw3 : tb_ M3 w mem lat n q := tb_fr g3 (fun o b z _ z2 => by have := z.1; have := z.2; have := z2.1; have := z2.2; omega) k
    have rd : ∀ b, nn_rf M3 w b = nn_rf M w b := fun b => fr_rf g3 (fun z => by have := z.1; have := z.2; omega)
    refine ng_Table_copy_24 _ _ _ _ _ ?_
    rw [kw3.2.2.1.1]
    have sl3 : sl_ M3 t := sl_fr f3 (fun b z => by omega) (sl_fr f2 (fun b z => by have := z.1; have := z.2; omega) (sl_fr f1 (fun b z => by have := z.1; have := z.2; omega) hsl))
    refine ⟨fun c => ?_, fun c => ⟨by omega, by omega, ?_⟩⟩
    · have hin : i = n := by omega
      subst hin
      rintro _ rfl
      rw [show nn_rf (nn_uf M3 t 5 i) w 6 = nn_rf M w 6 by rw [rd_ff, if_neg (by omega), rd]]
      rintro _ rfl
      rw [show nn_rf (nn_uf (nn_uf M3 t 5 i) t 6 (nn_rf M w 6)) w 7 = nn_rf M w 7 by rw [rd_ff, if_neg (by omega), rd_ff, if_neg (by omega), rd]]
      rintro _ rfl
      rw [show nn_rf (nn_uf (nn_uf (nn_uf M3 t 5 i) t 6 (nn_rf M w 6)) t 7 (nn_rf M w 7)) w 8 = nn_rf M w 8 by rw [rd_ff, if_neg (by omega), rd_ff, if_neg (by omega), rd_ff, if_neg (by omega), rd]]
      rintro _ rfl
      have f4 : fr_ (fun o b => o = t ∧ 5 ≤ b) M3 (nn_uf (nn_uf (nn_uf (nn_uf M3 t 5 i) t 6 (nn_rf M w 6)) t 7 (nn_rf M w 7)) t 8 (nn_rf M w 8)) := fr_uf (fr_uf (fr_uf (fr_uf (fr_refl M3) ⟨rfl, by omega⟩) ⟨rfl, by omega⟩) ⟨rfl, by omega⟩) ⟨rfl, by omega⟩
      have f24 : fr_ (fun o b => (o = t ∧ 5 ≤ b) ∨ (tr_ t o b ∧ t + 8 ≤ o)) M2 (nn_uf (nn_uf (nn_uf (nn_uf M3 t 5 i) t 6 (nn_rf M w 6)) t 7 (nn_rf M w 7)) t 8 (nn_rf M w 8)) := fr_trans (fr_mono f3 (fun o b z => Or.inr z)) (fr_mono f4 (fun o b z => Or.inl z))
      refine h _ (fr_trans g3 (fr_mono f4 (fun o b z => ⟨by omega, by omega⟩))) ⟨⟨?_, ?_⟩, ⟨?_, ?_⟩, ⟨by simp [rd_ff], n0, n24⟩, ?_, fun j j0 j1 => ?_⟩ (by simp [rd_ff]) (by simp [rd_ff]) (by simp [rd_ff])
      · rw [cv_fr f24 (fun o b z z2 => by have := z.1; have := z.2; omega)]; exact m2
      · exact kr_fr f24 (fun o b z z2 => by have := z.1; have := z.2; omega) km2
      · rw [cv_fr f24 (fun o b z z2 => by have := z.1; have := z.2; omega)]; exact l2
      · exact kr_fr f24 (fun o b z z2 => by have := z.1; have := z.2; omega) kl2
      · exact sl_fr f4 (fun b z => by omega) sl3
      · have hin := sl_in sl3 j0 (by omega)
        exact ru_fr f4 (by omega) (by omega) (by omega) (fun o b z z2 => by have := z.1; omega) (r3 j j0 j1)
    · have ht := sl_in sl3 h0 (by omega)
      have hw := sl_in kw3.2.2.2.1 h0 (by omega)
      refine ct_V_copy (by omega) (fun M4 f4 c4 k4 a4 b4 => ?_)
      refine ⟨by omega, by omega, ?_⟩
      rintro _ rfl
      refine ⟨by omega, by omega, ?_⟩
      rintro _ rfl
      rw [mm_w_id (x := i + 1) (by omega)]
      obtain ⟨w1, w2, w3, w4, w5, w6⟩ := kw3.2.2.2.2 i h0 c
      have e8 : nn_ri M4 (w + 8) i = (q i).2.2.1 := (fr_ri f4 (fun z => by have := z.1; have := z.2; omega)).trans w2
      have e9 : nn_ri (nn_ui M4 (t + 8) i (nn_ri M4 (w + 8) i)) (w + 9) i = (q i).1 := by
        rw [rd_ii, if_neg (by omega), fr_ri f4 (fun z => by have := z.1; have := z.2; omega)]; exact w1
      rw [e9, e8]
      have f5 : fr_ (fun o b => (o = t + 8 ∧ b = i.toNat) ∨ (o = t + 9 ∧ b = i.toNat)) M4 (nn_ui (nn_ui M4 (t + 8) i (q i).2.2.1) (t + 9) i (q i).1) := fr_ui (fr_ui (fr_refl M4) (Or.inl ⟨rfl, rfl⟩)) (Or.inr ⟨rfl, rfl⟩)
      have e10 : nn_ri (nn_ui (nn_ui M4 (t + 8) i (q i).2.2.1) (t + 9) i (q i).1) (t + 9) i = (q i).1 := by rw [rd_ii, if_pos ⟨rfl, rfl⟩]
      have e11 : nn_ri (nn_ui (nn_ui M4 (t + 8) i (q i).2.2.1) (t + 9) i (q i).1) (t + 8) i = (q i).2.2.1 := by rw [rd_ii, if_neg (by omega), rd_ii, if_pos ⟨rfl, rfl⟩]
      generalize nn_ui (nn_ui M4 (t + 8) i (q i).2.2.1) (t + 9) i (q i).1 = M5 at f5 e10 e11 ⊢
      have f45 : fr_ (fun o b => vr_ (nn_rr M3 (t + 7) i) o b ∨ (o = t + 8 ∧ b = i.toNat) ∨ (o = t + 9 ∧ b = i.toNat)) M3 M5 := fr_trans (fr_mono f4 (fun o b z => Or.inl z)) (fr_mono f5 (fun o b z => Or.inr z))
      refine ih c (by omega) M5 (fr_trans f3 (fr_mono f45 (fun o b z => ?_))) (fun j j0 j1 => ?_)
      · rcases z with z | z | z
        · exact ⟨⟨by have := z.1; omega, by have := z.2; omega⟩, by have := z.1; omega⟩
        · exact ⟨⟨by omega, by omega⟩, by omega⟩
        · exact ⟨⟨by omega, by omega⟩, by omega⟩
      · by_cases z : j = i
        · subst z
          have er : nn_rr M5 (t + 7) j = nn_rr M3 (t + 7) j := fr_rr f45 (fun z => by
            rcases z with z | z | z
            · have := z.1; omega
            · omega
            · omega)
          have fs : ∀ o b, vr_ (nn_rr M3 (t + 7) j) o b → ¬ ((o = t + 8 ∧ b = j.toNat) ∨ (o = t + 9 ∧ b = j.toNat)) := fun o b z z2 => by have := z.1; omega
          refine ⟨e10, e11, ?_, ?_, ?_, ?_⟩
          · rw [er, fr_rf f5 (fs _ 3 ⟨Nat.le_refl _, by omega⟩), a4]; exact w3
          · rw [er, fr_rf f5 (fs _ 4 ⟨Nat.le_refl _, by omega⟩), b4]; exact w4
          · rw [er, cv_fr f5 fs, cv_ext c4]; exact w5
          · rw [er]; exact kr_fr f5 fs (k4 w6)
        · have hne := sl_ne sl3 (i := j) (j := i) j0 (by omega) h0 (by omega) z
          have hj := sl_in sl3 j0 (by omega)
          refine ru_fr f45 ?_ ?_ ?_ ?_ (r3 j j0 (by omega))
          · rintro (z2 | z2 | z2)
            · have := z2.1; omega
            · omega
            · omega
          · rintro (z2 | z2 | z2)
            · have := z2.1; omega
            · omega
            · omega
          · rintro (z2 | z2 | z2)
            · have := z2.1; omega
            · omega
            · omega
          · intro o b z1 z2
            rcases z2 with z2 | z2 | z2
            · have := z1.1; have := z1.2; have := z2.1; have := z2.2; omega
            · have := z1.1; omega
            · have := z1.1; omega
  exact L 0 n0 (Int.le_refl _) M2 (fr_refl M2) (fun j j0 j1 => by omega)
