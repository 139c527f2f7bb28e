/-! the class's copies: cost, index, store -/
theorem ct_Co_copy {v w : Nat} {M : mm_M} {R : mm_M → Prop} (hd : v ≠ w) (h0 : nn_rf M w 0 = 0 ∨ nn_rf M w 0 = 1) (h : ∀ M', fr_ (fun o _ => o = v) M M' → (∀ b, b < 5 → nn_rf M' v b = nn_rf M w b) → R M') : nr_Cost_copy v w M R := by
  refine ng_Cost_copy _ _ _ _ ⟨h0, ?_⟩
  intro M1 e1
  have w1 : ∀ b, nn_rf M1 w b = nn_rf M w b := fun b => by rw [e1, rd_ff, if_neg (fun z => hd z.1.symm)]
  rw [w1]
  intro M2 e2
  have w2 : ∀ b, nn_rf M2 w b = nn_rf M w b := fun b => by rw [e2, rd_ff, if_neg (fun z => hd z.1.symm)]; exact w1 b
  rw [w2]
  intro M3 e3
  have w3 : ∀ b, nn_rf M3 w b = nn_rf M w b := fun b => by rw [e3, rd_ff, if_neg (fun z => hd z.1.symm)]; exact w2 b
  rw [w3]
  intro M4 e4
  have w4 : ∀ b, nn_rf M4 w b = nn_rf M w b := fun b => by rw [e4, rd_ff, if_neg (fun z => hd z.1.symm)]; exact w3 b
  rw [w4]
  intro M5 e5
  refine h M5 ?_ ?_
  · rw [e5, e4, e3, e2, e1]
    exact fr_uf (fr_uf (fr_uf (fr_uf (fr_uf (fr_refl M) rfl) rfl) rfl) rfl) rfl
  · intro b hb
    have hb : b = 0 ∨ b = 1 ∨ b = 2 ∨ b = 3 ∨ b = 4 := by omega
    rcases hb with z | z | z | z | z <;> rw [z, e5, e4, e3, e2, e1] <;> simp [rd_ff]
theorem ct_I_copy {x w : Nat} {st since lvb sb nb : Int} {mem lat : ab_V} {X : ab_X} {M : mm_M} {R : mm_M → Prop} (hd : x + 15 ≤ w ∨ w + 15 ≤ x) (hx : xk_ x) (hw : xk_ w) (k : cX_ M w lat X) (hs0 : nn_ri M (x + 10) 0 = 0) (j : jX_ st since lvb sb nb mem lat X)
    (h : ∀ M', fr_ (fun o _ => x ≤ o ∧ o < x + 15) M M' → cX_ M' x lat X → R M') : nr_Index_copy x w M R := by
  obtain ⟨k0, _, k1⟩ := k
  refine ng_Index_copy _ _ _ _ ?_
  rw [k0]
  intro M1 e1
  have f1 : fr_ (fun o _ => o = x) M M1 := by rw [e1]; exact fr_uf (fr_refl M) rfl
  have a5 : nn_rf M1 x 5 = xh_ X := by rw [e1, rd_ff, if_pos ⟨rfl, rfl⟩]
  rw [a5]
  refine ⟨fun hz => ?_, fun hz => ?_⟩
  · obtain ⟨⟨p1, p2, p3, p4⟩, q1, q2, ⟨q3, q4⟩, q5, q6⟩ := k1 hz
    obtain ⟨vA, vK, vP⟩ := jX_vl j hz
    obtain ⟨⟨_, jq, jm, _⟩, _⟩ := j hz
    refine ct_R_copy (by omega) (rl_fr f1 (fun o b z z2 => by omega) q1) (fun M2 f2 r2 => ?_)
    have F2 : fr_ (fun o _ => x ≤ o ∧ o < x + 4) M M2 := fr_trans (fr_mono f1 (fun o b z => by omega)) (fr_mono f2 (fun o b z => by omega))
    refine ct_E_copy (by omega) (es_fr F2 (fun o b z => by have := z.1; have := z.2; omega) q2) (by rw [show x + 4 + 1 = x + 5 by omega, show w + 4 + 1 = w + 5 by omega, hx.1, hw.1]) (fun M3 f3 r3 => ?_)
    have F3 : fr_ (fun o _ => x ≤ o ∧ o < x + 6) M M3 := fr_trans (fr_mono F2 (fun o b z => by omega)) (fr_mono f3 (fun o b z => by have := z.1; have := z.2; omega))
    refine ct_E_copy (by omega) (es_fr F3 (fun o b z => by have := z.1; have := z.2; omega) q3) (by rw [show x + 6 + 1 = x + 7 by omega, show w + 6 + 1 = w + 7 by omega, hx.2.1, hw.2.1]) (fun M4 f4 r4 => ?_)
    have F4 : fr_ (fun o _ => x ≤ o ∧ o < x + 8) M M4 := fr_trans (fr_mono F3 (fun o b z => by omega)) (fr_mono f4 (fun o b z => by have := z.1; have := z.2; omega))
    refine ct_P_copy (by omega) (pl_fr F4 (fun o b z z2 => by omega) q5) (fun M5 f5 r5 => ⟨by omega, ?_⟩)
    have f5' : fr_ (fun o _ => x + 8 ≤ o ∧ o < x + 14) M4 M5 := fr_mono f5 (fun o b z => by have := z.1; have := z.2; omega)
    have F5 : fr_ (fun o _ => x ≤ o ∧ o < x + 14) M M5 := fr_trans (fr_mono F4 (fun o b z => by omega)) (fr_mono f5' (fun o b z => by omega))
    intro M6 e6
    have f6 : fr_ (fun o _ => o = x + 14) M5 M6 := by rw [e6]; exact fr_cp (fr_refl M5) (fun _ _ _ => rfl)
    have F6 : fr_ (fun o _ => x ≤ o ∧ o < x + 15) M M6 := fr_trans (fr_mono F5 (fun o b z => by omega)) (fr_mono f6 (fun o b z => by omega))
    have v6 : ∀ q, 0 ≤ q → q < 32 → nn_ri M6 (x + 14) q = vk_ (xu_ X) (lat q.toNat) := by
      intro q q0 q1'
      rw [e6, rd_cc _ _ _ _ _ _ _ q0, if_pos (by omega), show q - 0 + 0 = q by omega, fr_ri F5 (by omega)]
      exact q6 q q0 q1'
    have w6 : nn_rf M6 w 6 = xq_ X := (fr_rf F6 (by omega)).trans p1
    rw [w6]
    refine ⟨jq, ?_⟩
    intro M7 e7
    have w7 : nn_rf M7 w 7 = xm_ X := by rw [e7, rd_ff, if_neg (by omega)]; exact (fr_rf F6 (by omega)).trans p2
    rw [w7]
    refine ⟨jm, ?_⟩
    intro M8 e8
    have w8 : nn_rf M8 w 8 = xb_ X := by rw [e8, rd_ff, if_neg (by omega), e7, rd_ff, if_neg (by omega)]; exact (fr_rf F6 (by omega)).trans p3
    rw [w8]
    intro M9 e9
    have w9 : nn_rf M9 w 9 = xl_ X := by rw [e9, rd_ff, if_neg (by omega), e8, rd_ff, if_neg (by omega), e7, rd_ff, if_neg (by omega)]; exact (fr_rf F6 (by omega)).trans p4
    rw [w9]
    intro M10 e10
    have f10 : fr_ (fun o _ => o = x) M6 M10 := by
      rw [e10, e9, e8, e7]
      exact fr_uf (fr_uf (fr_uf (fr_uf (fr_refl M6) rfl) rfl) rfl) rfl
    have g5 : fr_ (fun o _ => o = x ∨ o = x + 14) M5 M10 := fr_trans (fr_mono f6 (fun o b z => Or.inr z)) (fr_mono f10 (fun o b z => Or.inl z))
    have g4 : fr_ (fun o _ => o = x ∨ (x + 8 ≤ o ∧ o < x + 15)) M4 M10 := fr_trans (fr_mono f5' (fun o b z => by omega)) (fr_mono g5 (fun o b z => by omega))
    have g3 : fr_ (fun o _ => o = x ∨ (x + 6 ≤ o ∧ o < x + 15)) M3 M10 := fr_trans (fr_mono f4 (fun o b z => by have := z.1; have := z.2; omega)) (fr_mono g4 (fun o b z => by omega))
    have g2 : fr_ (fun o _ => o = x ∨ (x + 4 ≤ o ∧ o < x + 15)) M2 M10 := fr_trans (fr_mono f3 (fun o b z => by have := z.1; have := z.2; omega)) (fr_mono g3 (fun o b z => by omega))
    have k4 : es_ M10 (x + 6) (xK_ X) := es_fr g4 (fun o b z => by have := z.1; have := z.2; omega) r4
    refine h M10 (fr_trans F6 (fr_mono f10 (fun o b z => by omega))) ⟨?_, (pl_fr g5 (fun o b z z2 => by omega) r5).2.1.1, fun _ => ⟨⟨?_, ?_, ?_, ?_⟩, rl_fr g2 (fun o b z z2 => by omega) r2, es_fr g3 (fun o b z => by have := z.1; have := z.2; omega) r3, ⟨k4, ?_⟩, pl_fr g5 (fun o b z z2 => by omega) r5, fun q q0 q1' => (fr_ri f10 (by omega)).trans (v6 q q0 q1')⟩⟩
    · rw [e10, rd_ff, if_neg (by omega), e9, rd_ff, if_neg (by omega), e8, rd_ff, if_neg (by omega), e7, rd_ff, if_neg (by omega), fr_rf f6 (by omega), fr_rf f5' (by omega), fr_rf f4 (fun z => by have := z.1; omega), fr_rf f3 (fun z => by have := z.1; omega), fr_rf f2 (by omega)]
      exact a5
    · rw [e10, rd_ff, if_neg (by omega), e9, rd_ff, if_neg (by omega), e8, rd_ff, if_neg (by omega), e7, rd_ff, if_pos ⟨rfl, rfl⟩]
    · rw [e10, rd_ff, if_neg (by omega), e9, rd_ff, if_neg (by omega), e8, rd_ff, if_pos ⟨rfl, rfl⟩]
    · rw [e10, rd_ff, if_neg (by omega), e9, rd_ff, if_pos ⟨rfl, rfl⟩]
    · rw [e10, rd_ff, if_pos ⟨rfl, rfl⟩]
    · rw [es_cz k4 vK, ← es_cz q3 vK]; exact q4
  · exact h M1 (fr_mono f1 (fun o b z => by omega)) ⟨a5, (fr_ri f1 (by omega)).trans hs0, fun w => absurd hz w⟩
theorem cZ_far {P : Nat → Nat → Prop} {M M' : mm_M} (f : fr_ P M M') {w : Nat} {Z : ab_Z} (h : ∀ o b, w ≤ o → o < w + 159 → ¬ P o b) (k : cZ_ M w Z) : cZ_ M' w Z := ⟨cT_fr f (fun o b y => h o b (by unfold sw_ at y; omega) (by unfold sw_ at y; omega)) k.1, cR_fr f (fun o b y => h o b (by unfold crr_ at y; omega) (by unfold crr_ at y; omega)) k.2⟩
/-- tape, table, cost -/
def cq_ (M : mm_M) (s : Nat) (Z : ab_Z) : Prop := tp_ M (s + 1) (zs_ Z 20) (zf_ Z) ∧ tb_ M (s + 3) (aTm_ (zT_ Z)) (aTl_ (zT_ Z)) (aTn_ (zT_ Z)) (aTq_ (zT_ Z)) ∧ (nn_rf M (s + 3) 6 = aTs_ (zT_ Z) ∧ nn_rf M (s + 3) 7 = aTi_ (zT_ Z) ∧ nn_rf M (s + 3) 8 = (aTc_ (zT_ Z)).1) ∧ (nn_rf M (s + 87) 0 = zs_ Z 15 ∧ nn_rf M (s + 87) 1 = zs_ Z 16 ∧ nn_rf M (s + 87) 2 = zs_ Z 17 ∧ nn_rf M (s + 87) 3 = zs_ Z 18 ∧ nn_rf M (s + 87) 4 = zs_ Z 19)
theorem cq_fr {P : Nat → Nat → Prop} {M M' : mm_M} (f : fr_ P M M') {s : Nat} {Z : ab_Z} (h : ∀ o b, s + 1 ≤ o → o < s + 88 → ¬ P o b) (k : cq_ M s Z) : cq_ M' s Z := by
  obtain ⟨a, b, ⟨c1, c2, c3⟩, d1, d2, d3, d4, d5⟩ := k
  have rf : ∀ o b, s + 1 ≤ o → o < s + 88 → nn_rf M' o b = nn_rf M o b := fun o b z z2 => fr_rf f (h o b z z2)
  exact ⟨tp_fr f (fun o b z z2 => h o b (by omega) (by omega)) a, tb_fr f (fun o b z _ => h o b (by unfold tr_ at z; omega) (by unfold tr_ at z; omega)) b, ⟨(rf _ _ (by omega) (by omega)).trans c1, (rf _ _ (by omega) (by omega)).trans c2, (rf _ _ (by omega) (by omega)).trans c3⟩, (rf _ _ (by omega) (by omega)).trans d1, (rf _ _ (by omega) (by omega)).trans d2, (rf _ _ (by omega) (by omega)).trans d3, (rf _ _ (by omega) (by omega)).trans d4, (rf _ _ (by omega) (by omega)).trans d5⟩
/-- the first start of each index's runs is 0 -/
def s0_ (M : mm_M) (s : Nat) : Prop := ∀ i : Int, 0 ≤ i → i < 4 → nn_ri M (s + 90 + 15 * i.toNat + 10) 0 = 0
theorem s0_fr {P : Nat → Nat → Prop} {M M' : mm_M} (f : fr_ P M M') {s : Nat} (h : ∀ o b, s + 90 ≤ o → o < s + 150 → ¬ P o b) (k : s0_ M s) : s0_ M' s := fun i i0 i1 => (fr_ri f (h _ _ (by omega) (by omega))).trans (k i i0 i1)
theorem s0_cZ {M : mm_M} {s : Nat} {Z : ab_Z} (k : cZ_ M s Z) : s0_ M s := fun i i0 i1 => (k.1.2.2 i i0 i1).2.1
theorem ct_S_copy {s w : Nat} {bd : Int} {Z : ab_Z} {M : mm_M} {R : mm_M → Prop} (hs : sk_ s) (hw : sk_ w) (hne : s ≠ w) (k : cZ_ M w Z) (j : jZ_ bd Z) (hsl : sl_ M (s + 3)) (hs0 : s0_ M s)
    (h : ∀ M', fr_ (fun o _ => s ≤ o ∧ o < s + 159) M M' → cZ_ M' s Z → R M') : nr_Store_copy s w M R := by
  have hd : s + 159 ≤ w ∨ w + 159 ≤ s := by unfold sk_ at hs hw; omega
  have src : ∀ M1, fr_ (fun o _ => s ≤ o ∧ o < s + 159) M M1 → cZ_ M1 w Z := fun M1 f1 => cZ_far f1 (fun o b z z2 => by omega) k
  refine ng_Store_copy _ _ _ _ ?_
  -- the cursors, what is left
  have L2 : ∀ i : Int, i ≤ 3 → 0 ≤ i → ∀ M1, fr_ (fun o _ => s ≤ o ∧ o < s + 159) M M1 → cq_ M1 s Z → cXs_ M1 s (aTl_ (zT_ Z)) (aTX_ (zT_ Z)) → (∀ q, 0 ≤ q → q < i → cu2_ M1 (s + 150 + 3 * q.toNat) (zC_ Z q).1) → nk_Store_copy_63 s w i M1 R := by
    refine lp_up (fun i hi ih i0 M1 f1 cq cx cc => ?_)
    have k1 := src M1 f1
    refine ng_Store_copy_63 _ _ _ _ _ ⟨fun c => ⟨by omega, ?_⟩, fun c => ⟨⟨i0, c⟩, ⟨i0, c⟩, ?_⟩⟩
    · obtain ⟨⟨x1, x2, x3, x4, x5, x6⟩, xb, _⟩ := k1.2
      intro M2 e2
      have f2 : fr_ (fun o _ => o = s + 88) M1 M2 := by rw [e2]; exact fr_cp (fr_refl M1) (fun _ _ _ => rfl)
      have wr : ∀ b, nn_rf M2 w b = nn_rf M1 w b := fun b => fr_rf f2 (by omega)
      rw [wr, x1]
      intro M3 e3
      have wr3 : ∀ b, nn_rf M3 w b = nn_rf M1 w b := fun b => by rw [e3, rd_ff, if_neg (by omega)]; exact wr b
      rw [wr3, x2]
      intro M4 e4
      have wr4 : ∀ b, nn_rf M4 w b = nn_rf M1 w b := fun b => by rw [e4, rd_ff, if_neg (by omega)]; exact wr3 b
      rw [wr4, x5]
      intro M5 e5
      have wr5 : ∀ b, nn_rf M5 w b = nn_rf M1 w b := fun b => by rw [e5, rd_ff, if_neg (by omega)]; exact wr4 b
      rw [wr5, x6]
      intro M6 e6
      have wr6 : ∀ b, nn_rf M6 w b = nn_rf M1 w b := fun b => by rw [e6, rd_ff, if_neg (by omega)]; exact wr5 b
      rw [wr6, x3]
      intro M7 e7
      have wr7 : ∀ b, nn_rf M7 w b = nn_rf M1 w b := fun b => by rw [e7, rd_ff, if_neg (by omega)]; exact wr6 b
      rw [wr7, x4]
      intro M8 e8
      have f8 : fr_ (fun o _ => o = s) M2 M8 := by
        rw [e8, e7, e6, e5, e4, e3]
        exact fr_uf (fr_uf (fr_uf (fr_uf (fr_uf (fr_uf (fr_refl M2) rfl) rfl) rfl) rfl) rfl) rfl
      have g8 : fr_ (fun o _ => o = s ∨ o = s + 88) M1 M8 := fr_trans (fr_mono f2 (fun o b z => Or.inr z)) (fr_mono f8 (fun o b z => Or.inl z))
      have cq8 : cq_ M8 s Z := by
        obtain ⟨a, b, ⟨c1, c2, c3⟩, d1, d2, d3, d4, d5⟩ := cq
        have rf : ∀ o b, s + 1 ≤ o → o < s + 88 → nn_rf M8 o b = nn_rf M1 o b := fun o b z z2 => fr_rf g8 (by omega)
        exact ⟨tp_fr g8 (fun o b z z2 => by omega) a, tb_fr g8 (fun o b z _ => by unfold tr_ at z; omega) b, ⟨(rf _ _ (by omega) (by omega)).trans c1, (rf _ _ (by omega) (by omega)).trans c2, (rf _ _ (by omega) (by omega)).trans c3⟩, (rf _ _ (by omega) (by omega)).trans d1, (rf _ _ (by omega) (by omega)).trans d2, (rf _ _ (by omega) (by omega)).trans d3, (rf _ _ (by omega) (by omega)).trans d4, (rf _ _ (by omega) (by omega)).trans d5⟩
      obtain ⟨a, b, c3, dd⟩ := cq8
      refine h M8 (fr_trans f1 (fr_mono g8 (fun o b z => by omega))) ⟨⟨b, c3, cXs_fr g8 (fun o b z z2 => by omega) cx⟩, ⟨?_, ?_, ?_, ?_, ?_, ?_⟩, fun q q0 q1 => ?_, dd, a, fun q q0 q1 => cu2_fr g8 (fun o b z z2 => by omega) (cc q q0 (by omega))⟩
      · rw [e8, e7, e6, e5, e4, e3]; simp [rd_ff]
      · rw [e8, e7, e6, e5, e4, e3]; simp [rd_ff]
      · rw [e8, e7, e6, e5, e4, e3]; simp [rd_ff]
      · rw [e8, e7, e6, e5, e4, e3]; simp [rd_ff]
      · rw [e8, e7, e6, e5, e4, e3]; simp [rd_ff]
      · rw [e8, e7, e6, e5, e4, e3]; simp [rd_ff]
      · rw [fr_ri f8 (by omega), e2, rd_cc _ _ _ _ _ _ _ q0, if_pos (by omega), show q - 0 + 0 = q by omega]
        exact xb q q0 q1
    · refine ct_Cu_copy (by omega) (k1.2.2.2.2.2 i i0 c) (fun M2 f2 r2 => ?_)
      rw [mm_w_id (x := i + 1) (by omega)]
      have f2' : fr_ (fun o _ => s + 150 + 3 * i.toNat ≤ o ∧ o < s + 150 + 3 * i.toNat + 3) M1 M2 := fr_mono f2 (fun o b z => z)
      refine ih c (by omega) M2 (fr_trans f1 (fr_mono f2' (fun o b z => by omega))) (cq_fr f2' (fun o b z z2 => by omega) cq) (cXs_fr f2' (fun o b z z2 => by omega) cx) (fun q q0 q1 => ?_)
      by_cases y : q = i
      · rw [y]; exact r2
      · exact cu2_fr f2' (fun o b z z2 => by omega) (cc q q0 (by omega))
  -- the indexes
  have L1 : ∀ i : Int, i ≤ 4 → 0 ≤ i → ∀ M1, fr_ (fun o _ => s ≤ o ∧ o < s + 159) M M1 → cq_ M1 s Z → (∀ q, 0 ≤ q → q < i → cX_ M1 (s + 90 + 15 * q.toNat) (aTl_ (zT_ Z)) (aTX_ (zT_ Z) q)) → (∀ q, i ≤ q → q < 4 → nn_ri M1 (s + 90 + 15 * q.toNat + 10) 0 = 0) → nk_Store_copy_35 s w i M1 R := by
    refine lp_up (fun i hi ih i0 M1 f1 cq cx cs => ?_)
    have k1 := src M1 f1
    refine ng_Store_copy_35 _ _ _ _ _ ⟨fun c => ?_, fun c => ⟨⟨i0, c⟩, ⟨i0, c⟩, ?_⟩⟩
    · exact L2 0 (by omega) (Int.le_refl _) M1 f1 cq (fun q q0 q1 => cx q q0 (by omega)) (fun q q0 q1 => by omega)
    · refine ct_I_copy (by omega) (sk_x hs i0 c) (sk_x hw i0 c) (k1.1.2.2 i i0 c) (cs i (Int.le_refl _) c) (j.1.2.2.2.2 i i0 c) (fun M2 f2 r2 => ?_)
      rw [mm_w_id (x := i + 1) (by omega)]
      refine ih c (by omega) M2 (fr_trans f1 (fr_mono f2 (fun o b z => by omega))) (cq_fr f2 (fun o b z z2 => by omega) cq) (fun q q0 q1 => ?_) ?_
      · by_cases y : q = i
        · rw [y]; exact r2
        · exact cX_fr f2 (fun o b z z2 => by omega) (cx q q0 (by omega))
      · intro q q0 q1
        exact (fr_ri f2 (by omega)).trans (cs q (by omega) q1)
  refine ct_Tape_copy (by omega) k.2.2.2.2.1 (fun M1 f1 r1 => ?_)
  have f1' : fr_ (fun o _ => s + 1 ≤ o ∧ o < s + 3) M M1 := fr_mono f1 (fun o b z => by have := z.1; have := z.2; omega)
  have k1 := src M1 (fr_mono f1' (fun o b z => by omega))
  refine ct_T_copy (by omega) k1.1.1 (sl_fr f1' (fun b => by omega) hsl) (fun M2 f2 r2 a6 a7 a8 => ?_)
  have f2' : fr_ (fun o _ => s + 3 ≤ o ∧ o < s + 85) M1 M2 := fr_mono f2 (fun o b z => by unfold tr_ at z; omega)
  have F2 : fr_ (fun o _ => s ≤ o ∧ o < s + 159) M M2 := fr_trans (fr_mono f1' (fun o b z => by omega)) (fr_mono f2' (fun o b z => by omega))
  have k2 := src M2 F2
  obtain ⟨c0, c1, c2, c3, c4⟩ := k2.2.2.2.1
  refine ct_Co_copy (by omega) (by rw [c0]; exact j.2.1.2.2.2.2.2) (fun M3 f3 r3 => ?_)
  refine L1 0 (by omega) (Int.le_refl _) M3 (fr_trans F2 (fr_mono f3 (fun o b z => by omega))) ?_ (fun q q0 q1 => by omega) (fun q q0 q1 => (fr_ri f3 (by omega)).trans ((fr_ri f2' (by omega)).trans ((fr_ri f1' (by omega)).trans (hs0 q q0 q1))))
  have kt := k1.1.2.1
  refine ⟨tp_fr f3 (fun o b z z2 => by omega) (tp_fr f2' (fun o b z z2 => by omega) r1), tb_fr f3 (fun o b z _ => by unfold tr_ at z; omega) r2, ⟨?_, ?_, ?_⟩, (r3 0 (by omega)).trans c0, (r3 1 (by omega)).trans c1, (r3 2 (by omega)).trans c2, (r3 3 (by omega)).trans c3, (r3 4 (by omega)).trans c4⟩
  · rw [fr_rf f3 (by omega), a6]; exact kt.1
  · rw [fr_rf f3 (by omega), a7]; exact kt.2.1
  · rw [fr_rf f3 (by omega), a8]; exact kt.2.2
