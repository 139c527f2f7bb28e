/-! the Model takes a token -/
def mtx_ (M : mm_M) (f : Int → Int) (n : Int) : Prop := nn_rf M 407 3 = n ∧ (0 ≤ n ∧ n ≤ 200) ∧ ∀ i, 0 ≤ i → i < n → nn_ri M 408 (88 + i) = f i ∧ 0 ≤ f i ∧ f i ≤ 255
def tkc2_ (o b : Nat) : Prop := o = 407 ∧ (b = 4 ∨ b = 5 ∨ b = 6 ∨ b = 9)
theorem mtx_fr {P : Nat → Nat → Prop} {M M' : mm_M} {f : Int → Int} {n : Int} (h : fr_ P M M') (hv : ∀ o b, (o = 407 ∧ b = 3) ∨ (o = 408 ∧ 88 ≤ b ∧ b < 288) → ¬ P o b) (k : mtx_ M f n) : mtx_ M' f n := by
  obtain ⟨k1, k2, k3⟩ := k
  exact ⟨(fr_rf h (hv _ _ (by omega))).trans k1, k2, fun i i0 i1 => ⟨(fr_ri h (hv _ _ (by omega))).trans (k3 i i0 i1).1, (k3 i i0 i1).2⟩⟩
theorem m_byte {M : mm_M} {f : Int → Int} {n v : Int} (k : mtx_ M f n) (hv : 0 ≤ v ∧ v ≤ n) : nc_M_byteAt v M ∧ (v < n → nf_M_byteAt v M = f v) ∧ (n ≤ v → nf_M_byteAt v M = -1) := by
  obtain ⟨k1, k2, k3⟩ := k
  unfold nc_M_byteAt nf_M_byteAt
  rw [k1, mm_w_id (x := 88 + v) (by omega)]
  refine ⟨fun _ => by omega, fun y => ?_, fun y => ?_⟩
  · rw [if_neg (by omega), (k3 v hv.1 y).1, and_255 (k3 v hv.1 y).2]
  · rw [if_pos y]
theorem m_letter (c : Int) : (nf_M_isLetter c ≠ 0 ↔ 97 ≤ c ∧ c ≤ 122) ∧ (nf_M_isLetter c = 0 ↔ ¬ (97 ≤ c ∧ c ≤ 122)) := by
  unfold nf_M_isLetter
  split
  · omega
  · split <;> omega
theorem m_digit (c : Int) : (nf_M_isDigit c ≠ 0 ↔ 48 ≤ c ∧ c ≤ 57) ∧ (nf_M_isDigit c = 0 ↔ ¬ (48 ≤ c ∧ c ≤ 57)) := by
  unfold nf_M_isDigit
  split
  · omega
  · split <;> omega
theorem ct_tk_letters {f : Int → Int} {n p : Int} {M : mm_M} {R : mm_M → Prop} (hm : mtx_ M f n) (hp : 0 ≤ p ∧ p < n) (hs : sb_ (f p) = 1) (a4 : nn_rf M 407 4 = p) (a6 : nn_rf M 407 6 = p) (a5 : nn_rf M 407 5 = 1) (a9 : nn_rf M 407 9 = 0)
    (h : ∀ M', fr_ tkc2_ M M' → nn_rf M' 407 6 = p → nn_rf M' 407 4 = mnx_ f n p → nn_rf M' 407 5 = mtk_ f n p → nn_rf M' 407 9 = mvl_ f n p → R M') : nk_M_takes_85 M R := by
  obtain ⟨e0, e1, e2, e3⟩ := te_in (f := f) hp.2
  have hn := hm.2.1
  have hl : ∀ i : Int, 0 ≤ i → i < te_ f n p - p → 97 ≤ f (p + i) ∧ f (p + i) ≤ 122 := by
    intro i i0 i1
    have e4 : sb_ (f (p + i)) = 1 := by
      by_cases z : i = 0
      · rw [z, Int.add_zero]; exact hs
      · rw [(e2 (p + i) (by omega) (by omega)).1]; exact hs
    have := sb_c (f (p + i))
    omega
  have L : ∀ q : Int, q ≤ te_ f n p → p ≤ q → ∀ M1, fr_ tkc2_ M M1 → nn_rf M1 407 4 = q → nn_rf M1 407 6 = p → nn_rf M1 407 5 = 1 → nn_rf M1 407 9 = wdv_ f p (q - p).toNat → nk_M_takes_85 M1 R := by
    refine lp_up (fun q hq ih q0 M1 f1 b4 b6 b5 b9 => ?_)
    have hm1 : mtx_ M1 f n := mtx_fr f1 (fun o b y => by unfold tkc2_; omega) hm
    obtain ⟨c1, c2, c3⟩ := m_byte hm1 (v := q) ⟨by omega, by omega⟩
    refine ng_M_takes_85 _ _ ?_
    rw [b4, b6, mm_w_id (x := q - p) (by omega), (m_letter _).1, (m_letter _).2]
    refine ⟨c1, fun y => ?_, fun y => ?_⟩
    · have hqe : q = te_ f n p := by
        by_cases z : q = te_ f n p
        · exact z
        · have := hl (q - p) (by omega) (by omega)
          rw [show p + (q - p) = q by omega] at this
          rw [c2 (by omega)] at y
          exact absurd this y
      refine h M1 f1 b6 ?_ ?_ ?_
      · unfold mnx_; rw [if_neg (by omega), b4]; exact hqe
      · unfold mtk_; rw [if_neg (by omega), if_pos hs]; exact b5
      · unfold mvl_; rw [if_neg (by omega), if_pos hs, b9, hqe]
    · have hlt : q < te_ f n p := by
        by_cases z : q < te_ f n p
        · exact z
        · exfalso
          have hqe : q = te_ f n p := by omega
          by_cases v : q < n
          · rw [c2 v] at y
            have := e3 (by omega)
            rw [← hqe, hs] at this
            have := sb_c (f q)
            omega
          · rw [c3 (by omega)] at y
            omega
      have hb := wdv_b (f := f) (p := p) (m := (te_ f n p - p).toNat) (fun i i0 i1 => hl i i0 (by omega)) (q - p).toNat (by omega)
      have hd := hl (q - p) (by omega) (by omega)
      rw [show p + (q - p) = q by omega] at hd
      have ek : (q + 1 - p).toNat = (q - p).toNat + 1 := by omega
      refine ⟨fun y7 => ?_, fun y7 => ⟨c1, ?_⟩⟩
      · intro M2 q2
        have d4 : nn_rf M2 407 4 = q := by rw [q2, rd_ff, if_neg (by omega)]; exact b4
        rw [d4, mm_w_id (x := q + 1) (by omega)]
        intro M3 q3
        refine ih hlt (by omega) M3 (by rw [q3, q2]; exact fr_uf (fr_uf f1 ⟨rfl, by omega⟩) ⟨rfl, by omega⟩) (by rw [q3, rd_ff, if_pos ⟨rfl, rfl⟩]) (by rw [q3, rd_ff, if_neg (by omega), q2, rd_ff, if_neg (by omega)]; exact b6) (by rw [q3, rd_ff, if_neg (by omega), q2, rd_ff, if_neg (by omega)]; exact b5) ?_
        rw [q3, rd_ff, if_neg (by omega), q2, rd_ff, if_pos ⟨rfl, rfl⟩, b9, ek]
        have e : wdv_ f p ((q - p).toNat + 1) = wdv_ f p (q - p).toNat := if_neg (by omega)
        rw [e]
      · rw [c2 (by omega), b9, mm_w64_id (x := 27 * wdv_ f p (q - p).toNat) (by omega), mm_w64_id (x := 27 * wdv_ f p (q - p).toNat + f q) (by omega), mm_w64_id (x := 27 * wdv_ f p (q - p).toNat + f q - 97) (by omega), mm_w64_id (x := 27 * wdv_ f p (q - p).toNat + f q - 97 + 1) (by omega)]
        intro M2 q2
        have d4 : nn_rf M2 407 4 = q := by rw [q2, rd_ff, if_neg (by omega)]; exact b4
        rw [d4, mm_w_id (x := q + 1) (by omega)]
        intro M3 q3
        refine ih hlt (by omega) M3 (by rw [q3, q2]; exact fr_uf (fr_uf f1 ⟨rfl, by omega⟩) ⟨rfl, by omega⟩) (by rw [q3, rd_ff, if_pos ⟨rfl, rfl⟩]) (by rw [q3, rd_ff, if_neg (by omega), q2, rd_ff, if_neg (by omega)]; exact b6) (by rw [q3, rd_ff, if_neg (by omega), q2, rd_ff, if_neg (by omega)]; exact b5) ?_
        rw [q3, rd_ff, if_neg (by omega), q2, rd_ff, if_pos ⟨rfl, rfl⟩, ek, wdv_s (by omega), show p + ((q - p).toNat : Int) = q by omega]
  exact L p (by omega) (Int.le_refl _) M (fr_refl M) a4 a6 a5 (by rw [show (p - p).toNat = 0 by omega]; exact a9)
theorem ct_tk_digits {f : Int → Int} {n p : Int} {M : mm_M} {R : mm_M → Prop} (hm : mtx_ M f n) (hp : 0 ≤ p ∧ p < n) (hs : sb_ (f p) = 2) (a4 : nn_rf M 407 4 = p) (a6 : nn_rf M 407 6 = p) (a9 : nn_rf M 407 9 = 0)
    (h : ∀ M', fr_ tkc2_ M M' → nn_rf M' 407 6 = p → nn_rf M' 407 4 = mnx_ f n p → nn_rf M' 407 5 = mtk_ f n p → nn_rf M' 407 9 = mvl_ f n p → R M') : nk_M_takes_168 M R := by
  obtain ⟨e0, e1, e2, e3⟩ := te_in (f := f) hp.2
  have hn := hm.2.1
  have hl : ∀ i : Int, 0 ≤ i → i < te_ f n p - p → 48 ≤ f (p + i) ∧ f (p + i) ≤ 57 := by
    intro i i0 i1
    have e4 : sb_ (f (p + i)) = 2 := by
      by_cases z : i = 0
      · rw [z, Int.add_zero]; exact hs
      · rw [(e2 (p + i) (by omega) (by omega)).1]; exact hs
    have := sb_c (f (p + i))
    omega
  have n1 : ¬ sb_ (f p) = 1 := by rw [hs]; decide
  have L : ∀ q : Int, q ≤ te_ f n p → p ≤ q → ∀ M1, fr_ tkc2_ M M1 → nn_rf M1 407 4 = q → nn_rf M1 407 6 = p → nn_rf M1 407 9 = dg_ f p (q - p).toNat → nk_M_takes_168 M1 R := by
    refine lp_up (fun q hq ih q0 M1 f1 b4 b6 b9 => ?_)
    have hm1 : mtx_ M1 f n := mtx_fr f1 (fun o b y => by unfold tkc2_; omega) hm
    obtain ⟨c1, c2, c3⟩ := m_byte hm1 (v := q) ⟨by omega, by omega⟩
    refine ng_M_takes_168 _ _ ?_
    rw [b4, b6, mm_w_id (x := q - p) (by omega), (m_digit _).1, (m_digit _).2]
    refine ⟨c1, fun y => ?_, fun y => ?_⟩
    · have hqe : q = te_ f n p := by
        by_cases z : q = te_ f n p
        · exact z
        · have := hl (q - p) (by omega) (by omega)
          rw [show p + (q - p) = q by omega] at this
          rw [c2 (by omega)] at y
          exact absurd this y
      refine ⟨fun z => ?_, fun z => ?_⟩
      · intro M2 q2
        refine h M2 (by rw [q2]; exact fr_uf f1 ⟨rfl, by omega⟩) (by rw [q2, rd_ff, if_neg (by omega)]; exact b6) ?_ ?_ ?_
        · unfold mnx_; rw [if_neg (by omega), q2, rd_ff, if_neg (by omega), b4]; exact hqe
        · unfold mtk_; rw [if_neg (by omega), if_neg n1, if_pos hs, if_neg (by omega), q2, rd_ff, if_pos ⟨rfl, rfl⟩]
        · unfold mvl_; rw [if_neg (by omega), if_neg n1, if_pos hs, q2, rd_ff, if_neg (by omega), b9, hqe]
      · intro M2 q2
        refine h M2 (by rw [q2]; exact fr_uf f1 ⟨rfl, by omega⟩) (by rw [q2, rd_ff, if_neg (by omega)]; exact b6) ?_ ?_ ?_
        · unfold mnx_; rw [if_neg (by omega), q2, rd_ff, if_neg (by omega), b4]; exact hqe
        · unfold mtk_; rw [if_neg (by omega), if_neg n1, if_pos hs, if_pos (by omega), q2, rd_ff, if_pos ⟨rfl, rfl⟩]
        · unfold mvl_; rw [if_neg (by omega), if_neg n1, if_pos hs, q2, rd_ff, if_neg (by omega), b9, hqe]
    · have hlt : q < te_ f n p := by
        by_cases z : q < te_ f n p
        · exact z
        · exfalso
          have hqe : q = te_ f n p := by omega
          by_cases v : q < n
          · rw [c2 v] at y
            have := e3 (by omega)
            rw [← hqe, hs] at this
            have := sb_c (f q)
            omega
          · rw [c3 (by omega)] at y
            omega
      have hd := hl (q - p) (by omega) (by omega)
      rw [show p + (q - p) = q by omega] at hd
      have hd0 := hl 0 (by omega) (by omega)
      rw [Int.add_zero] at hd0
      have ek : (q + 1 - p).toNat = (q - p).toNat + 1 := by omega
      refine ⟨fun y7 => ?_, fun y7 => ⟨c1, ?_⟩⟩
      · intro M2 q2
        have d4 : nn_rf M2 407 4 = q := by rw [q2, rd_ff, if_neg (by omega)]; exact b4
        rw [d4, mm_w_id (x := q + 1) (by omega)]
        intro M3 q3
        refine ih hlt (by omega) M3 (by rw [q3, q2]; exact fr_uf (fr_uf f1 ⟨rfl, by omega⟩) ⟨rfl, by omega⟩) (by rw [q3, rd_ff, if_pos ⟨rfl, rfl⟩]) (by rw [q3, rd_ff, if_neg (by omega), q2, rd_ff, if_neg (by omega)]; exact b6) ?_
        rw [q3, rd_ff, if_neg (by omega), q2, rd_ff, if_pos ⟨rfl, rfl⟩, b9, ek]
        have e : dg_ f p ((q - p).toNat + 1) = dg_ f p (q - p).toNat := if_neg (by omega)
        rw [e]
      · have hb : 0 ≤ dg_ f p (q - p).toNat ∧ dg_ f p (q - p).toNat ≤ 9 := by
          have : (q - p).toNat = 0 ∨ (q - p).toNat = 1 := by omega
          rcases this with z | z
          · rw [z]; exact ⟨Int.le_refl _, by show (0 : Int) ≤ 9; decide⟩
          · rw [z, (dg_2 (f := f) (p := p)).1]; omega
        rw [c2 (by omega), b9, mm_w64_id (x := 10 * dg_ f p (q - p).toNat) (by omega), mm_w64_id (x := 10 * dg_ f p (q - p).toNat + f q) (by omega), mm_w64_id (x := 10 * dg_ f p (q - p).toNat + f q - 48) (by omega)]
        intro M2 q2
        have d4 : nn_rf M2 407 4 = q := by rw [q2, rd_ff, if_neg (by omega)]; exact b4
        rw [d4, mm_w_id (x := q + 1) (by omega)]
        intro M3 q3
        refine ih hlt (by omega) M3 (by rw [q3, q2]; exact fr_uf (fr_uf f1 ⟨rfl, by omega⟩) ⟨rfl, by omega⟩) (by rw [q3, rd_ff, if_pos ⟨rfl, rfl⟩]) (by rw [q3, rd_ff, if_neg (by omega), q2, rd_ff, if_neg (by omega)]; exact b6) ?_
        rw [q3, rd_ff, if_neg (by omega), q2, rd_ff, if_pos ⟨rfl, rfl⟩, ek, dg_s (by omega), show p + ((q - p).toNat : Int) = q by omega]
  exact L p (by omega) (Int.le_refl _) M (fr_refl M) a4 a6 (by rw [show (p - p).toNat = 0 by omega]; exact a9)
theorem takes_body {f : Int → Int} {n q : Int} {M : mm_M} {R : mm_M → Prop} (hm : mtx_ M f n) (hq : 0 ≤ q ∧ q ≤ n) (ha : nn_rf M 407 4 = q) (loop : ∀ M1 : mm_M, M1 = nn_uf M 407 4 (mm_w (q + 1)) → q < n → sb_ (f q) = 0 → nk_M_takes_0 M1 R)
    (h : ¬ (q < n ∧ sb_ (f q) = 0) → ∀ M', fr_ tkc2_ M M' → nn_rf M' 407 6 = q → nn_rf M' 407 4 = mnx_ f n q → nn_rf M' 407 5 = mtk_ f n q → nn_rf M' 407 9 = mvl_ f n q → R M') : ((nc_M_byteAt (nn_rf M 407 4) M) ∧ ((((nf_M_byteAt (nn_rf M 407 4) M) ≠ 10) → (nc_M_byteAt (nn_rf M 407 4) M)) ∧ (((nf_M_byteAt (nn_rf M 407 4) M) = 10 ∨ ((nf_M_byteAt (nn_rf M 407 4) M) = 32)) → (∀ M33 : mm_M, M33 = nn_uf M 407 4 (mm_w ((nn_rf M 407 4) + 1)) → nk_M_takes_0 M33 R)) ∧ (((nf_M_byteAt (nn_rf M 407 4) M) ≠ 10 ∧ ((nf_M_byteAt (nn_rf M 407 4) M) ≠ 32)) → (∀ M44 : mm_M, M44 = nn_uf M 407 6 (nn_rf M 407 4) → ((nc_M_byteAt (nn_rf M44 407 4) M44) ∧ (∀ x1_55 : Int, x1_55 = nf_M_byteAt (nn_rf M44 407 4) M44 → (∀ M58 : mm_M, M58 = nn_uf M44 407 9 0 → ((0 ≤ x1_55 → (((nf_M_isLetter x1_55) = 0 → (((nf_M_isDigit x1_55) = 0 → (∀ M273 : mm_M, M273 = nn_uf M58 407 4 (mm_w ((nn_rf M58 407 4) + 1)) → (∀ M279 : mm_M, M279 = nn_uf M273 407 9 x1_55 → (((x1_55 = 43 ∨ (x1_55 = 42 ∨ (x1_55 = 60 ∨ (x1_55 = 61 ∨ (x1_55 = 62))))) → (∀ M318 : mm_M, M318 = nn_uf M279 407 5 3 → R M318)) ∧ ((x1_55 ≠ 43 ∧ (x1_55 ≠ 42 ∧ (x1_55 ≠ 60 ∧ (x1_55 ≠ 61 ∧ (x1_55 ≠ 62))))) → (∀ M318 : mm_M, M318 = nn_uf M279 407 5 4 → R M318)))))) ∧ ((nf_M_isDigit x1_55) ≠ 0 → nk_M_takes_168 M58 R))) ∧ ((nf_M_isLetter x1_55) ≠ 0 → (∀ M82 : mm_M, M82 = nn_uf M58 407 5 1 → nk_M_takes_85 M82 R)))) ∧ (x1_55 < 0 → (∀ M67 : mm_M, M67 = nn_uf M58 407 5 0 → R M67)))))))))) := by
  obtain ⟨b1, b2, b3⟩ := m_byte hm hq
  have hn := hm.2.1
  rw [ha]
  refine ⟨b1, fun _ => b1, fun y => ?_, fun y => ?_⟩
  · have hlt : q < n := by
      by_cases z : n ≤ q
      · rw [b3 z] at y; omega
      · omega
    rw [b2 hlt] at y
    intro M1 e1
    refine loop M1 e1 hlt ?_
    have := sb_c (f q)
    omega
  · have hnb : ¬ (q < n ∧ sb_ (f q) = 0) := by
      rintro ⟨z1, z2⟩
      rw [b2 z1] at y
      have := sb_c (f q)
      omega
    have h := h hnb
    intro M2 e2
    have f2 : fr_ tkc2_ M M2 := by rw [e2]; exact fr_uf (fr_refl M) ⟨rfl, by omega⟩
    have m2 : mtx_ M2 f n := mtx_fr f2 (fun o b y => by unfold tkc2_; omega) hm
    have a4 : nn_rf M2 407 4 = q := by rw [e2, rd_ff, if_neg (by omega)]; exact ha
    have a6 : nn_rf M2 407 6 = q := by rw [e2, rd_ff, if_pos ⟨rfl, rfl⟩]
    obtain ⟨c1, c2, c3⟩ := m_byte m2 hq
    rw [a4]
    refine ⟨c1, ?_⟩
    intro c ec M3 e3
    have f3 : fr_ tkc2_ M M3 := by rw [e3]; exact fr_uf f2 ⟨rfl, by omega⟩
    have m3 : mtx_ M3 f n := mtx_fr f3 (fun o b y => by unfold tkc2_; omega) hm
    have d4 : nn_rf M3 407 4 = q := by rw [e3, rd_ff, if_neg (by omega)]; exact a4
    have d6 : nn_rf M3 407 6 = q := by rw [e3, rd_ff, if_neg (by omega)]; exact a6
    have d9 : nn_rf M3 407 9 = 0 := by rw [e3, rd_ff, if_pos ⟨rfl, rfl⟩]
    refine ⟨fun w => ?_, fun w => ?_⟩
    · have hlt : q < n := by
        by_cases z : n ≤ q
        · rw [ec, c3 z] at w; omega
        · omega
      rw [c2 hlt] at ec
      rw [ec, (m_letter _).1, (m_letter _).2, (m_digit _).1, (m_digit _).2]
      have hs := sb_c (f q)
      refine ⟨fun nl => ⟨fun nd => ?_, fun d => ?_⟩, fun l => ?_⟩
      · have s3 : sb_ (f q) = 3 := by
          have := fun z => hnb ⟨hlt, z⟩
          omega
        have te1 : te_ f n q = q + 1 := if_pos s3
        have k1 : ¬ sb_ (f q) = 1 := by omega
        have k2 : ¬ sb_ (f q) = 2 := by omega
        rw [d4, mm_w_id (x := q + 1) (by omega)]
        intro M4 e4 M5 e5
        have f5 : fr_ tkc2_ M M5 := by rw [e5, e4]; exact fr_uf (fr_uf f3 ⟨rfl, by omega⟩) ⟨rfl, by omega⟩
        have g4 : nn_rf M5 407 4 = q + 1 := by rw [e5, rd_ff, if_neg (by omega), e4, rd_ff, if_pos ⟨rfl, rfl⟩]
        have g6 : nn_rf M5 407 6 = q := by rw [e5, rd_ff, if_neg (by omega), e4, rd_ff, if_neg (by omega)]; exact d6
        have g9 : nn_rf M5 407 9 = f q := by rw [e5, rd_ff, if_pos ⟨rfl, rfl⟩]
        refine ⟨fun s => ?_, fun s => ?_⟩
        · intro M6 e6
          refine h M6 (by rw [e6]; exact fr_uf f5 ⟨rfl, by omega⟩) (by rw [e6, rd_ff, if_neg (by omega)]; exact g6) ?_ ?_ ?_
          · unfold mnx_; rw [if_neg (by omega), te1, e6, rd_ff, if_neg (by omega)]; exact g4
          · unfold mtk_; rw [if_neg (by omega), if_neg k1, if_neg k2, if_pos s, e6, rd_ff, if_pos ⟨rfl, rfl⟩]
          · unfold mvl_; rw [if_neg (by omega), if_neg k1, if_neg k2, e6, rd_ff, if_neg (by omega)]; exact g9
        · intro M6 e6
          refine h M6 (by rw [e6]; exact fr_uf f5 ⟨rfl, by omega⟩) (by rw [e6, rd_ff, if_neg (by omega)]; exact g6) ?_ ?_ ?_
          · unfold mnx_; rw [if_neg (by omega), te1, e6, rd_ff, if_neg (by omega)]; exact g4
          · unfold mtk_; rw [if_neg (by omega), if_neg k1, if_neg k2, if_neg (by omega), e6, rd_ff, if_pos ⟨rfl, rfl⟩]
          · unfold mvl_; rw [if_neg (by omega), if_neg k1, if_neg k2, e6, rd_ff, if_neg (by omega)]; exact g9
      · have s2 : sb_ (f q) = 2 := by omega
        exact ct_tk_digits m3 ⟨hq.1, hlt⟩ s2 d4 d6 d9 (fun M' f' => h M' (fr_trans f3 f'))
      · have s1 : sb_ (f q) = 1 := by omega
        intro M4 e4
        have f4 : fr_ tkc2_ M M4 := by rw [e4]; exact fr_uf f3 ⟨rfl, by omega⟩
        have m4 : mtx_ M4 f n := mtx_fr f4 (fun o b y => by unfold tkc2_; omega) hm
        exact ct_tk_letters m4 ⟨hq.1, hlt⟩ s1 (by rw [e4, rd_ff, if_neg (by omega)]; exact d4) (by rw [e4, rd_ff, if_neg (by omega)]; exact d6) (by rw [e4, rd_ff, if_pos ⟨rfl, rfl⟩]) (by rw [e4, rd_ff, if_neg (by omega)]; exact d9) (fun M' f' => h M' (fr_trans f4 f'))
    · have hge : n ≤ q := by
        by_cases z : n ≤ q
        · exact z
        · have := (hm.2.2 q hq.1 (by omega)).2
          rw [ec, c2 (by omega)] at w
          omega
      intro M4 e4
      refine h M4 (by rw [e4]; exact fr_uf f3 ⟨rfl, by omega⟩) (by rw [e4, rd_ff, if_neg (by omega)]; exact d6) ?_ ?_ ?_
      · unfold mnx_; rw [if_pos hge, e4, rd_ff, if_neg (by omega)]; exact d4
      · unfold mtk_; rw [if_pos hge, e4, rd_ff, if_pos ⟨rfl, rfl⟩]
      · unfold mvl_; rw [if_pos hge, e4, rd_ff, if_neg (by omega)]; exact d9
theorem ct_M_takes {f : Int → Int} {n q : Int} {M : mm_M} {R : mm_M → Prop} (hm : mtx_ M f n) (hq : 0 ≤ q ∧ q ≤ n) (ha : nn_rf M 407 4 = q)
    (h : ∀ M', fr_ tkc2_ M M' → nn_rf M' 407 6 = rn_ f n 0 q → nn_rf M' 407 4 = mnx_ f n (rn_ f n 0 q) → nn_rf M' 407 5 = mtk_ f n (rn_ f n 0 q) → nn_rf M' 407 9 = mvl_ f n (rn_ f n 0 q) → R M') : nr_M_takes M R := by
  have hn := hm.2.1
  have endq : ∀ (s : Int) (M1 : mm_M), q ≤ s → (∀ i, q ≤ i → i < s → i < n ∧ sb_ (f i) = 0) → fr_ tkc2_ M M1 → ¬ (s < n ∧ sb_ (f s) = 0) → ∀ M', fr_ tkc2_ M1 M' → nn_rf M' 407 6 = s → nn_rf M' 407 4 = mnx_ f n s → nn_rf M' 407 5 = mtk_ f n s → nn_rf M' 407 9 = mvl_ f n s → R M' := by
    intro s M1 s0 hs f1 hnb M' f' g1 g2 g3 g4
    have e := rn_un s0 hs hnb
    rw [e] at g1 g2 g3 g4
    exact h M' (fr_trans f1 f') g1 g2 g3 g4
  have L : ∀ s : Int, s ≤ n → q ≤ s → (∀ i, q ≤ i → i < s → i < n ∧ sb_ (f i) = 0) → ∀ M1, fr_ tkc2_ M M1 → nn_rf M1 407 4 = s → nk_M_takes_0 M1 R := by
    refine lp_up (fun s hs ih s0 hb M1 f1 a1 => ?_)
    have m1 : mtx_ M1 f n := mtx_fr f1 (fun o b y => by unfold tkc2_; omega) hm
    refine ng_M_takes_0 _ _ (takes_body m1 ⟨by omega, hs⟩ a1 (fun M2 e2 l z => ?_) (fun hnb => endq s M1 s0 hb f1 hnb))
    rw [mm_w_id (x := s + 1) (by omega)] at e2
    refine ih l (by omega) (fun i i0 i1 => ?_) M2 (by rw [e2]; exact fr_uf f1 ⟨rfl, by omega⟩) (by rw [e2, rd_ff, if_pos ⟨rfl, rfl⟩])
    by_cases v : i = s
    · rw [v]; exact ⟨l, z⟩
    · exact hb i i0 (by omega)
  refine ng_M_takes _ _ (takes_body hm hq ha (fun M2 e2 l z => ?_) (fun hnb => endq q M (Int.le_refl _) (fun i i0 i1 => by omega) (fr_refl M) hnb))
  rw [mm_w_id (x := q + 1) (by omega)] at e2
  refine L (q + 1) (by omega) (by omega) (fun i i0 i1 => ?_) M2 (by rw [e2]; exact fr_uf (fr_refl M) ⟨rfl, by omega⟩) (by rw [e2, rd_ff, if_pos ⟨rfl, rfl⟩])
  rw [show i = q by omega]; exact ⟨l, z⟩
