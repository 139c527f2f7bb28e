/-! the Model: the last loop of a flush of an index: each entry's run goes up by one, and the new run 0 is laid -/
theorem ct_M_flLast {b x n k : Int} (cid : Int) (S : Int → Prop) {M : mm_M} {R : mm_M → Prop} {g : Int → ab_P} {E : Int → Int} (hb : bk_ b) (hx : b + 1784 ≤ x ∧ x + 855 ≤ 32844) (kh : hM_ M x n g) (hn : 1 ≤ n) (ke : eM_ M x k E) (hE : ∀ e, 0 ≤ e → e < k → E e / 4503599627370496 < 1000) (hid : -2147483648 ≤ nn_ri M 408 (b + 8) + 1 ∧ nn_ri M 408 (b + 8) + 1 < 2147483648)
    (h : ∀ M', fr_ (fun o c => o = 408 ∧ ((c : Int) = b + 8 ∨ (x + 143 ≤ (c : Int) ∧ (c : Int) < x + 855))) M M' → nn_ri M' 408 (b + 8) = nn_ri M 408 (b + 8) + 1 → hM_ M' x n (stP_ 0 (cid, nn_ri M 408 (b + 8) + 1, 0, nn_ri M 408 b, S) g) → eM_ M' x k (fun e => E e + 4503599627370496) → R M') : nk_M_flushesIndex_159 b x 0 M R := by
  have hb' := hb
  unfold bk_ at hb'
  obtain ⟨k1, k0, k160, k4⟩ := ke
  have n23 := kh.2.2.1
  have L : ∀ e : Int, e ≤ k → 0 ≤ e → ∀ M1, fr_ (a8_ (x + 215) (x + 855)) M M1 → eM_ M1 x k (fun j => if j < e then E j + 4503599627370496 else E j) → nk_M_flushesIndex_159 b x e M1 R := by
    refine lp_up (fun e he ih e0 M1 f1 q1 => ?_)
    have rd1 : ∀ c : Int, 0 ≤ c → c < x + 215 → nn_ri M1 408 c = nn_ri M 408 c := fun c c0 hc => a8_ri f1 c0 (Or.inl hc)
    refine ng_M_flushesIndex_159 _ _ _ _ _ ?_
    rw [mm_w_id (x := x + 6) (by omega), q1.1, mm_w_id (x := b + 0) (by omega), show b + 0 = b by omega, mm_w_id (x := e + 1) (by omega)]
    refine ⟨by omega, fun c => ⟨by omega, ?_⟩, fun c => ?_⟩
    · have h1 : hM_ M1 x n g := by
        obtain ⟨a1, a2, a3, a4⟩ := kh
        refine ⟨(rd1 _ (by omega) (by omega)).trans a1, a2, a3, fun r r0 r1 => ?_⟩
        obtain ⟨b1, b2, b3⟩ := a4 r r0 r1
        exact ⟨(rd1 _ (by omega) (by omega)).trans b1, (rd1 _ (by omega) (by omega)).trans b2, (rd1 _ (by omega) (by omega)).trans b3⟩
      have r8 := rd1 (b + 8) (by omega) (by omega)
      rw [rd1 b (by omega) (by omega)]
      refine ct_M_lays cid S hb ⟨by omega, hx.2⟩ h1 ⟨by omega, by omega⟩ (by rw [r8]; exact hid) (fun M2 f2 g8 h2 => ?_)
      rw [r8] at g8 h2
      refine h M2 (fr_trans (fr_mono f1 (fun o c' z => by have z1 := z.2; exact ⟨z.1, by omega⟩)) (fr_mono f2 (fun o c' z => ⟨z.1, by have := z.2; omega⟩))) g8 h2 ?_
      have rd : ∀ c : Int, 0 ≤ c → (c = x + 6 ∨ x + 215 ≤ c) → nn_ri M2 408 c = nn_ri M1 408 c := fun c c0 hc => fr_ri f2 (fun z => by have := z.2; omega)
      obtain ⟨a1, a2, a3, a4⟩ := q1
      refine ⟨(rd _ (by omega) (by omega)).trans a1, a2, a3, fun j j0 j1 => ?_⟩
      have w : e4_ M1 (x + 215 + 4 * j) (if j < e then E j + 4503599627370496 else E j) := a4 j j0 j1
      rw [if_pos (by omega)] at w
      exact e4_cg w (rd _ (by omega) (by omega)) (rd _ (by omega) (by omega)) (rd _ (by omega) (by omega)) (rd _ (by omega) (by omega))
    · have w : e4_ M1 (x + 215 + 4 * e) (if e < e then E e + 4503599627370496 else E e) := q1.2.2.2 e e0 c
      rw [if_neg (by omega)] at w
      have hw := hE e e0 c
      obtain ⟨w0, wv, w1, w2, w3, w4⟩ := w
      rw [nf_entryAt ⟨by omega, by omega⟩ ⟨by omega, by omega⟩, w1, mm_w_id (x := E e / 4503599627370496 + 1) (by omega)]
      refine ⟨by omega, by omega, ?_⟩
      intro M2 eM
      rw [eM]
      have rd : ∀ i, 0 ≤ i → i ≠ x + 215 + 4 * e → nn_ri (nn_ui M1 408 (x + 215 + 4 * e) (E e / 4503599627370496 + 1)) 408 i = nn_ri M1 408 i := fun i i0 hi => by rw [rd_ii, if_neg (by omega)]
      refine ih c (by omega) _ (fr_ui f1 ⟨rfl, by omega⟩) ⟨(rd _ (by omega) (by omega)).trans q1.1, k0, k160, fun j j0 j1 => ?_⟩
      show e4_ _ (x + 215 + 4 * j) (if j < e + 1 then E j + 4503599627370496 else E j)
      by_cases z : j = e
      · rw [z, if_pos (by omega)]
        have e1 : (E e + 4503599627370496) % 4503599627370496 = E e % 4503599627370496 := by omega
        have e2 : (E e + 4503599627370496) / 4503599627370496 = E e / 4503599627370496 + 1 := by omega
        unfold e4_
        rw [e1, e2]
        exact ⟨by omega, wv, by rw [rd_ii, if_pos ⟨rfl, rfl⟩], (rd _ (by omega) (by omega)).trans w2, (rd _ (by omega) (by omega)).trans w3, (rd _ (by omega) (by omega)).trans w4⟩
      · have y : e4_ M1 (x + 215 + 4 * j) (if j < e then E j + 4503599627370496 else E j) := q1.2.2.2 j j0 j1
        have e3 : (if j < e + 1 then E j + 4503599627370496 else E j) = if j < e then E j + 4503599627370496 else E j := by
          by_cases v : j < e
          · rw [if_pos v, if_pos (by omega)]
          · rw [if_neg v, if_neg (by omega)]
        rw [e3]
        exact e4_cg y (rd _ (by omega) (by omega)) (rd _ (by omega) (by omega)) (rd _ (by omega) (by omega)) (rd _ (by omega) (by omega))
  refine L 0 k0 (Int.le_refl _) M (fr_refl M) ⟨k1, k0, k160, fun j j0 j1 => ?_⟩
  show e4_ M (x + 215 + 4 * j) (if j < 0 then E j + 4503599627370496 else E j)
  rw [if_neg (by omega)]
  exact k4 j j0 j1
