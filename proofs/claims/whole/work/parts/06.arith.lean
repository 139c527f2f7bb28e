/-! whole numbers in place of the machine's words -/
theorem mm_w_in (x : Int) : -2147483648 ≤ mm_w x ∧ mm_w x < 2147483648 := by unfold mm_w; omega
theorem mm_w64_in (x : Int) : -9223372036854775808 ≤ mm_w64 x ∧ mm_w64 x < 9223372036854775808 := by unfold mm_w64; omega
theorem mm_w_id {x : Int} (h : -2147483648 ≤ x ∧ x < 2147483648) : mm_w x = x := by unfold mm_w; omega
theorem mm_w64_id {x : Int} (h : -9223372036854775808 ≤ x ∧ x < 9223372036854775808) : mm_w64 x = x := by unfold mm_w64; omega
theorem mm_rI {x : Int} (h : -2147483648 ≤ x ∧ x < 2147483648) : (Int32.ofInt x).toInt = x := Int32.toInt_ofInt_of_le (by omega) (by omega)
theorem mm_rL {x : Int} (h : -9223372036854775808 ≤ x ∧ x < 9223372036854775808) : (Int64.ofInt x).toInt = x := Int64.toInt_ofInt_of_le (by omega) (by omega)
theorem mm_oI (x : Int) : Int32.ofInt (mm_w x) = Int32.ofInt x := by
  rw [← Int32.toInt_inj, mm_rI (mm_w_in x), Int32.toInt_ofInt]
  show mm_w x = Int.bmod x 4294967296
  unfold mm_w Int.bmod
  simp only []
  split <;> omega
theorem mm_oL (x : Int) : Int64.ofInt (mm_w64 x) = Int64.ofInt x := by
  rw [← Int64.toInt_inj, mm_rL (mm_w64_in x), Int64.toInt_ofInt]
  show mm_w64 x = Int.bmod x 18446744073709551616
  unfold mm_w64 Int.bmod
  simp only []
  split <;> omega
theorem mm_tI (z : Int32) : -2147483648 ≤ z.toInt ∧ z.toInt < 2147483648 := ⟨Int32.le_toInt z, Int32.toInt_lt z⟩
theorem mm_tL (z : Int64) : -9223372036854775808 ≤ z.toInt ∧ z.toInt < 9223372036854775808 := ⟨Int64.le_toInt z, Int64.toInt_lt z⟩
theorem mm_eqI {x y : Int} (hx : -2147483648 ≤ x ∧ x < 2147483648) (hy : -2147483648 ≤ y ∧ y < 2147483648) : Int32.ofInt x = Int32.ofInt y ↔ x = y := by
  rw [← Int32.toInt_inj, mm_rI hx, mm_rI hy]
theorem mm_ltI {x y : Int} (hx : -2147483648 ≤ x ∧ x < 2147483648) (hy : -2147483648 ≤ y ∧ y < 2147483648) : Int32.ofInt x < Int32.ofInt y ↔ x < y := by
  rw [Int32.lt_iff_toInt_lt, mm_rI hx, mm_rI hy]
theorem mm_leI {x y : Int} (hx : -2147483648 ≤ x ∧ x < 2147483648) (hy : -2147483648 ≤ y ∧ y < 2147483648) : Int32.ofInt x ≤ Int32.ofInt y ↔ x ≤ y := by
  rw [Int32.le_iff_toInt_le, mm_rI hx, mm_rI hy]
theorem mm_clI {x : Int} (hx : -2147483648 ≤ x ∧ x < 2147483648) : (Int32.ofInt x).toNatClampNeg = x.toNat := Int32.toNatClampNeg_ofInt_of_le (by omega) (by omega)
theorem mm_0I : (0 : Int32) = Int32.ofInt 0 := rfl
theorem mm_vin {x : Int} {n : Nat} (hx : -2147483648 ≤ x ∧ x < 2147483648) (h0 : 0 ≤ x) (hn : x < (n : Int)) : ¬ (Int32.ofInt x < 0 ∨ n ≤ (Int32.ofInt x).toNatClampNeg) := by
  rw [mm_clI hx, mm_0I, mm_ltI hx (by omega)]
  omega
theorem mm_cmpL {x y : Int} (hx : -9223372036854775808 ≤ x ∧ x < 9223372036854775808) (hy : -9223372036854775808 ≤ y ∧ y < 9223372036854775808) : lg_cmp (Int64.ofInt x) (Int64.ofInt y) = Int32.ofInt (mm_lcmp x y) := by
  unfold lg_cmp mm_lcmp
  simp only [gt_iff_lt, Int64.lt_iff_toInt_lt, ← Int64.toInt_inj, mm_rL hx, mm_rL hy]
  by_cases h1 : x < y
  · rw [if_neg (by omega), if_neg (by omega), if_pos h1]; rfl
  · by_cases h2 : y < x
    · rw [if_pos h2, if_neg h1, if_pos h2]; rfl
    · rw [if_neg h2, if_pos (by omega), if_neg h1, if_neg h2]; rfl
theorem mm_remI {x y : Int} (hx : 0 ≤ x ∧ x < 2147483648) (hy : 0 < y ∧ y < 2147483648) : Int32.ofInt x - Int32.ofInt x / Int32.ofInt y * Int32.ofInt y = Int32.ofInt (x % y) := by
  have h := pk_rem (a := x.toNat) (d := y.toNat) (by omega) (by omega) (by omega)
  have e1 : Int32.ofInt x = nI x.toNat := by
    rw [← Int32.toInt_inj, mm_rI (by omega), nI_toInt (by omega)]; omega
  have e2 : Int32.ofInt y = nI y.toNat := by
    rw [← Int32.toInt_inj, mm_rI (by omega), nI_toInt (by omega)]; omega
  have hm : x.toNat % y.toNat < y.toNat := Nat.mod_lt _ (by omega)
  have e3 : Int32.ofInt (x % y) = nI (x.toNat % y.toNat) := by
    have hxy : ((x.toNat % y.toNat : Nat) : Int) = x % y := by
      rw [Int.natCast_emod]
      rw [Int.toNat_of_nonneg hx.1, Int.toNat_of_nonneg (by omega)]
    rw [← Int32.toInt_inj, mm_rI (by omega), nI_toInt (by omega)]
    exact hxy.symm
  rw [e1, e2, h, e3]
theorem mm_maxI {x y : Int} (hx : -2147483648 ≤ x ∧ x < 2147483648) (hy : -2147483648 ≤ y ∧ y < 2147483648) : (if Int32.ofInt x < Int32.ofInt y then Int32.ofInt y else Int32.ofInt x) = Int32.ofInt (max x y) := by
  by_cases h : x < y
  · rw [if_pos ((mm_ltI hx hy).mpr h), show max x y = y by omega]
  · rw [if_neg (fun q => h ((mm_ltI hx hy).mp q)), show max x y = x by omega]
theorem mm_lI {x : Int} (hx : -2147483648 ≤ x ∧ x < 2147483648) : (Int32.ofInt x).toInt64 = Int64.ofInt x := by
  rw [← Int64.toInt_inj, Int32.toInt_toInt64, mm_rI hx, mm_rL (by omega)]
theorem mm_iL (x : Int) : (Int64.ofInt x).toInt32 = Int32.ofInt (mm_w x) := by
  rw [Int64.toInt32_ofInt, mm_oI]
