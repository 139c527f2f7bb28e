/-! rows as numbers: packed, one column changed -/
theorem bt_nat {x : Int} (h0 : 0 ≤ x) (h1 : x < 2147483648) (j : Nat) : bt_ x j = x.toNat.testBit j := by
  unfold bt_
  rw [BitVec.getLsbD, BitVec.toNat_ofInt]
  have : x % ((2 ^ 32 : Nat) : Int) = x := Int.emod_eq_of_lt h0 (by omega)
  rw [this]
theorem bt_ext {x y : Int} (hx : -2147483648 ≤ x ∧ x < 2147483648) (hy : -2147483648 ≤ y ∧ y < 2147483648) (h : ∀ k, k < 32 → bt_ x k = bt_ y k) : x = y := by
  have e : BitVec.ofInt 32 x = BitVec.ofInt 32 y := by
    apply BitVec.eq_of_getLsbD_eq
    intro i hi
    exact h i hi
  have h1 : (BitVec.ofInt 32 x).toInt = x := by
    rw [BitVec.toInt_ofInt]
    exact Int.bmod_eq_of_le (by omega) (by omega)
  have h2 : (BitVec.ofInt 32 y).toInt = y := by
    rw [BitVec.toInt_ofInt]
    exact Int.bmod_eq_of_le (by omega) (by omega)
  rw [← h1, ← h2, e]
set_option maxRecDepth 20000 in
theorem sh_num : ∀ c : Nat, c < 4 → ∀ n : Nat, n < 16 → ∀ j : Nat, j < 32 → bt_ (mm_shl (n : Int) ((4 * c : Nat) : Int)) j = (decide (4 * c ≤ j) && n.testBit (j - 4 * c)) := by decide +kernel
set_option maxRecDepth 20000 in
theorem sh_mask : ∀ c : Nat, c < 4 → ∀ j : Nat, j < 32 → bt_ (mm_xor (mm_shl 15 ((4 * c : Nat) : Int)) (-1)) j = !(decide (4 * c ≤ j) && decide (j < 4 * c + 4)) := by decide +kernel
theorem sh_dif : ∀ c : Nat, c < 4 → ∀ i : Nat, i < 31 → mm_shl ((i : Int) - 15) ((4 * c : Nat) : Int) = ((i : Int) - 15) * ((16 ^ c : Nat) : Int) := by decide +kernel
theorem tb_set {k D H L N j : Nat} (hL : L < 2 ^ k) (hD : D < 2 ^ 4) (hN : N < 2 ^ 4) : (((2 ^ k * (2 ^ 4 * H + D) + L).testBit j && !(decide (k ≤ j) && decide (j < k + 4))) || (decide (k ≤ j) && N.testBit (j - k))) = (2 ^ k * (2 ^ 4 * H + N) + L).testBit j := by
  rw [Nat.testBit_two_pow_mul_add _ hL, Nat.testBit_two_pow_mul_add _ hL]
  by_cases h1 : j < k
  · rw [if_pos h1, if_pos h1, decide_eq_false (show ¬ k ≤ j by omega)]
    simp
  · rw [if_neg h1, if_neg h1, decide_eq_true (show k ≤ j by omega), Nat.testBit_two_pow_mul_add _ hD, Nat.testBit_two_pow_mul_add _ hN]
    by_cases h2 : j < k + 4
    · rw [decide_eq_true h2, if_pos (show j - k < 4 by omega), if_pos (show j - k < 4 by omega)]
      simp
    · rw [decide_eq_false h2, if_neg (show ¬ j - k < 4 by omega), if_neg (show ¬ j - k < 4 by omega)]
      have : N.testBit (j - k) = false := Nat.testBit_lt_two_pow (Nat.lt_of_lt_of_le hN (Nat.pow_le_pow_right (by decide) (by omega)))
      rw [this]
      simp
/-- one column of a row changed -/
def chg_ (row c num : Int) : Int := row + (num - co_ row c) * ((16 ^ c.toNat : Nat) : Int)
theorem chg_in {row c num : Int} (hr : 0 ≤ row ∧ row < 65536) (hc : 0 ≤ c ∧ c < 4) (hn : 0 ≤ num ∧ num < 16) : 0 ≤ chg_ row c num ∧ chg_ row c num < 65536 := by
  unfold chg_ co_
  have : c = 0 ∨ c = 1 ∨ c = 2 ∨ c = 3 := by omega
  rcases this with rfl | rfl | rfl | rfl
  · rw [show ((16 ^ (0 : Int).toNat : Nat) : Int) = 1 from rfl]; omega
  · rw [show ((16 ^ (1 : Int).toNat : Nat) : Int) = 16 from rfl]; omega
  · rw [show ((16 ^ (2 : Int).toNat : Nat) : Int) = 256 from rfl]; omega
  · rw [show ((16 ^ (3 : Int).toNat : Nat) : Int) = 4096 from rfl]; omega
theorem chg_nat {row c num : Int} (hr : 0 ≤ row ∧ row < 65536) (hc : 0 ≤ c ∧ c < 4) (hn : 0 ≤ num ∧ num < 16) : ∃ D H L : Nat, L < 2 ^ (4 * c.toNat) ∧ D < 2 ^ 4 ∧ row.toNat = 2 ^ (4 * c.toNat) * (2 ^ 4 * H + D) + L ∧ (chg_ row c num).toNat = 2 ^ (4 * c.toNat) * (2 ^ 4 * H + num.toNat) + L := by
  unfold chg_ co_
  have : c = 0 ∨ c = 1 ∨ c = 2 ∨ c = 3 := by omega
  rcases this with rfl | rfl | rfl | rfl
  · refine ⟨row.toNat % 16, row.toNat / 16, 0, by decide, by omega, ?_, ?_⟩
    · show row.toNat = 2 ^ 0 * (2 ^ 4 * (row.toNat / 16) + row.toNat % 16) + 0; omega
    · rw [show ((16 ^ (0 : Int).toNat : Nat) : Int) = 1 from rfl]
      show _ = 2 ^ 0 * (2 ^ 4 * (row.toNat / 16) + num.toNat) + 0; omega
  · refine ⟨row.toNat / 16 % 16, row.toNat / 256, row.toNat % 16, ?_, by omega, ?_, ?_⟩
    · show row.toNat % 16 < 2 ^ 4; omega
    · show row.toNat = 2 ^ 4 * (2 ^ 4 * (row.toNat / 256) + row.toNat / 16 % 16) + row.toNat % 16; omega
    · rw [show ((16 ^ (1 : Int).toNat : Nat) : Int) = 16 from rfl]
      show _ = 2 ^ 4 * (2 ^ 4 * (row.toNat / 256) + num.toNat) + row.toNat % 16; omega
  · refine ⟨row.toNat / 256 % 16, row.toNat / 4096, row.toNat % 256, ?_, by omega, ?_, ?_⟩
    · show row.toNat % 256 < 2 ^ 8; omega
    · show row.toNat = 2 ^ 8 * (2 ^ 4 * (row.toNat / 4096) + row.toNat / 256 % 16) + row.toNat % 256; omega
    · rw [show ((16 ^ (2 : Int).toNat : Nat) : Int) = 256 from rfl]
      show _ = 2 ^ 8 * (2 ^ 4 * (row.toNat / 4096) + num.toNat) + row.toNat % 256; omega
  · refine ⟨row.toNat / 4096 % 16, row.toNat / 65536, row.toNat % 4096, ?_, by omega, ?_, ?_⟩
    · show row.toNat % 4096 < 2 ^ 12; omega
    · show row.toNat = 2 ^ 12 * (2 ^ 4 * (row.toNat / 65536) + row.toNat / 4096 % 16) + row.toNat % 4096; omega
    · rw [show ((16 ^ (3 : Int).toNat : Nat) : Int) = 4096 from rfl]
      show _ = 2 ^ 12 * (2 ^ 4 * (row.toNat / 65536) + num.toNat) + row.toNat % 4096; omega
theorem chg_class {row c num : Int} (hr : 0 ≤ row ∧ row < 65536) (hc : 0 ≤ c ∧ c < 4) (hn : 0 ≤ num ∧ num < 16) : mm_or (mm_and row (mm_xor (mm_shl 15 (mm_w (4 * c))) (-1))) (mm_shl num (mm_w (4 * c))) = chg_ row c num := by
  have hi := chg_in hr hc hn
  obtain ⟨D, H, L, h1, h2, h3, h4⟩ := chg_nat hr hc hn
  have ec : mm_w (4 * c) = ((4 * c.toNat : Nat) : Int) := by rw [mm_w_id (by omega)]; omega
  have en : num = ((num.toNat : Nat) : Int) := by omega
  rw [ec]
  refine bt_ext (by rw [bb_or]; exact bb_rng _) (by omega) (fun j hj => ?_)
  rw [bt_or, bt_and, sh_mask c.toNat (by omega) j hj]
  have e2 : bt_ (mm_shl num ((4 * c.toNat : Nat) : Int)) j = (decide (4 * c.toNat ≤ j) && num.toNat.testBit (j - 4 * c.toNat)) := by
    have := sh_num c.toNat (by omega) num.toNat (by omega) j hj
    rw [← en] at this
    exact this
  rw [e2, bt_nat hr.1 (by omega), bt_nat hi.1 (by omega), h3, h4]
  exact tb_set h1 h2 (by omega)
theorem chg_model {row c num : Int} (hr : 0 ≤ row ∧ row < 65536) (hc : 0 ≤ c ∧ c < 4) (hn : 0 ≤ num ∧ num < 16) : mm_w (row + (mm_shl (mm_w (num - (nf_M_column row c))) (mm_w (4 * c)))) = chg_ row c num := by
  have hi := chg_in hr hc hn
  have hco := co_in row c
  have ec : mm_w (4 * c) = ((4 * c.toNat : Nat) : Int) := by rw [mm_w_id (by omega)]; omega
  rw [nf_M_column' hr hc, ec, mm_w_id (x := num - co_ row c) (by omega)]
  have := sh_dif c.toNat (by omega) (num - co_ row c + 15).toNat (by omega)
  rw [show (((num - co_ row c + 15).toNat : Nat) : Int) - 15 = num - co_ row c by omega] at this
  rw [this]
  unfold chg_ at hi ⊢
  exact mm_w_id (by omega)
theorem tb_hi {n t : Nat} (hn : n < 16) (ht : 4 ≤ t) : n.testBit t = false := Nat.testBit_lt_two_pow (Nat.lt_of_lt_of_le (show n < 2 ^ 4 by omega) (Nat.pow_le_pow_right (by decide) ht))
theorem nf_packed {a b c d : Int} (ha : 0 ≤ a ∧ a < 16) (hb : 0 ≤ b ∧ b < 16) (hc : 0 ≤ c ∧ c < 16) (hd : 0 ≤ d ∧ d < 16) : nf_LI_packed a b c d = rw_ a b c d := by
  unfold nf_LI_packed rw_
  have sh : ∀ (x : Int) (c : Nat), 0 ≤ x → x < 16 → c < 4 → ∀ j : Nat, j < 32 → bt_ (mm_shl x ((4 * c : Nat) : Int)) j = (decide (4 * c ≤ j) && x.toNat.testBit (j - 4 * c)) := by
    intro x c x0 x1 hc j hj
    have := sh_num c hc x.toNat (by omega) j hj
    rw [show ((x.toNat : Nat) : Int) = x by omega] at this
    exact this
  refine bt_ext (by rw [bb_or]; exact bb_rng _) (by omega) (fun j hj => ?_)
  have s1 := sh b 1 hb.1 hb.2 (by decide) j hj
  have s2 := sh c 2 hc.1 hc.2 (by decide) j hj
  have s3 := sh d 3 hd.1 hd.2 (by decide) j hj
  rw [bt_or, bt_or, bt_or, show (4 : Int) = ((4 * 1 : Nat) : Int) from rfl, s1, show (8 : Int) = ((4 * 2 : Nat) : Int) from rfl, s2, show (12 : Int) = ((4 * 3 : Nat) : Int) from rfl, s3, bt_nat ha.1 (by omega), bt_nat (x := a + 16 * b + 256 * c + 4096 * d) (by omega) (by omega)]
  have e : (a + 16 * b + 256 * c + 4096 * d).toNat = 2 ^ 4 * (2 ^ 4 * (2 ^ 4 * d.toNat + c.toNat) + b.toNat) + a.toNat := by omega
  rw [e, Nat.testBit_two_pow_mul_add _ (show a.toNat < 2 ^ 4 by omega), Nat.testBit_two_pow_mul_add _ (show b.toNat < 2 ^ 4 by omega), Nat.testBit_two_pow_mul_add _ (show c.toNat < 2 ^ 4 by omega)]
  have fa : ∀ t, 4 ≤ t → a.toNat.testBit t = false := fun t ht => tb_hi (by omega) ht
  have fb : ∀ t, 4 ≤ t → b.toNat.testBit t = false := fun t ht => tb_hi (by omega) ht
  have fc : ∀ t, 4 ≤ t → c.toNat.testBit t = false := fun t ht => tb_hi (by omega) ht
  by_cases h1 : j < 4
  · rw [if_pos h1, decide_eq_false (show ¬ 4 * 1 ≤ j by omega), decide_eq_false (show ¬ 4 * 2 ≤ j by omega), decide_eq_false (show ¬ 4 * 3 ≤ j by omega)]
    simp
  · rw [if_neg h1, fa j (by omega), decide_eq_true (show 4 * 1 ≤ j by omega)]
    by_cases h2 : j - 4 < 4
    · rw [if_pos h2, decide_eq_false (show ¬ 4 * 2 ≤ j by omega), decide_eq_false (show ¬ 4 * 3 ≤ j by omega)]
      simp
    · rw [if_neg h2, fb (j - 4 * 1) (by omega), decide_eq_true (show 4 * 2 ≤ j by omega)]
      by_cases h3 : j - 4 - 4 < 4
      · rw [if_pos h3, decide_eq_false (show ¬ 4 * 3 ≤ j by omega), show j - 4 * 2 = j - 4 - 4 by omega]
        simp
      · rw [if_neg h3, fc (j - 4 * 2) (by omega), decide_eq_true (show 4 * 3 ≤ j by omega), show j - 4 * 3 = j - 4 - 4 - 4 by omega]
        simp
theorem nf_packedM {a b c d : Int} (ha : 0 ≤ a ∧ a < 16) (hb : 0 ≤ b ∧ b < 16) (hc : 0 ≤ c ∧ c < 16) (hd : 0 ≤ d ∧ d < 16) : nf_M_packed a b c d = rw_ a b c d := by
  unfold nf_M_packed rw_
  rw [mm_w_id (x := 16 * b) (by omega), mm_w_id (x := a + 16 * b) (by omega), mm_w_id (x := 256 * c) (by omega), mm_w_id (x := a + 16 * b + 256 * c) (by omega), mm_w_id (x := 4096 * d) (by omega), mm_w_id (x := a + 16 * b + 256 * c + 4096 * d) (by omega)]
theorem rw_in {a b c d : Int} (ha : 0 ≤ a ∧ a < 16) (hb : 0 ≤ b ∧ b < 16) (hc : 0 ≤ c ∧ c < 16) (hd : 0 ≤ d ∧ d < 16) : 0 ≤ rw_ a b c d ∧ rw_ a b c d < 65536 := by
  unfold rw_; omega
