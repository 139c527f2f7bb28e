/-! entries as numbers: value * 2^37 + key * 2^32 + stamp; rows as numbers -/
theorem b64_lushr (x : Int) (k : Nat) (hk : k = 32 ∨ k = 37) (h0 : 0 ≤ x) (h1 : x < 9223372036854775808) : mm_lushr x (k : Int) = x / ((2 ^ k : Nat) : Int) := by
  have e : mm_lushr x (k : Int) = (BitVec.ofInt 64 x >>> k).toInt := by
    rcases hk with rfl | rfl
    · have : mm_lushr x ((32 : Nat) : Int) = (BitVec.ofInt 64 x >>> (32#64)).toInt := rfl
      rw [this, BitVec.ushiftRight_eq']
      rfl
    · have : mm_lushr x ((37 : Nat) : Int) = (BitVec.ofInt 64 x >>> (37#64)).toInt := rfl
      rw [this, BitVec.ushiftRight_eq']
      rfl
  rw [e]
  have hn : (BitVec.ofInt 64 x).toNat = x.toNat := by
    rw [BitVec.toNat_ofInt]
    have : x % ((2 ^ 64 : Nat) : Int) = x := Int.emod_eq_of_lt h0 (by omega)
    rw [this]
  have hs : (BitVec.ofInt 64 x >>> k).toNat = x.toNat / 2 ^ k := by
    rw [BitVec.toNat_ushiftRight, hn, Nat.shiftRight_eq_div_pow]
  have hlt : x.toNat / 2 ^ k < 2 ^ 63 := by
    have : x.toNat / 2 ^ k ≤ x.toNat := Nat.div_le_self _ _
    omega
  rw [BitVec.toInt_eq_toNat_of_lt (by rw [hs]; omega), hs]
  rw [Int.natCast_ediv]
  congr 1
  omega
theorem b32_and (y : Int) (k : Nat) (hk : k < 31) (h0 : 0 ≤ y) (h1 : y < 2147483648) : mm_and y (((2 ^ k - 1 : Nat)) : Int) = y % ((2 ^ k : Nat) : Int) := by
  rw [bb_and]
  have hp : 2 ^ k ≤ 2 ^ 30 := Nat.pow_le_pow_right (by decide) (by omega)
  have hp0 : 0 < 2 ^ k := Nat.two_pow_pos k
  have hn : (BitVec.ofInt 32 y).toNat = y.toNat := by
    rw [BitVec.toNat_ofInt]
    have : y % ((2 ^ 32 : Nat) : Int) = y := Int.emod_eq_of_lt h0 (by omega)
    rw [this]
  have hm : (BitVec.ofInt 32 ((2 ^ k - 1 : Nat) : Int)).toNat = 2 ^ k - 1 := by
    rw [BitVec.toNat_ofInt]
    have : ((2 ^ k - 1 : Nat) : Int) % ((2 ^ 32 : Nat) : Int) = ((2 ^ k - 1 : Nat) : Int) := Int.emod_eq_of_lt (by omega) (by omega)
    rw [this]
    rfl
  have hs : (BitVec.ofInt 32 y &&& BitVec.ofInt 32 ((2 ^ k - 1 : Nat) : Int)).toNat = y.toNat % 2 ^ k := by
    rw [BitVec.toNat_and, hn, hm, Nat.and_two_pow_sub_one_eq_mod]
  have hlt : y.toNat % 2 ^ k < 2 ^ k := Nat.mod_lt _ hp0
  rw [BitVec.toInt_eq_toNat_of_lt (by rw [hs]; omega), hs, Int.natCast_emod]
  congr 1
  omega
theorem and31 (y : Int) (h0 : 0 ≤ y) (h1 : y < 2147483648) : mm_and y 31 = y % 32 := b32_and y 5 (by decide) h0 h1
theorem and15 (y : Int) (h0 : 0 ≤ y) (h1 : y < 2147483648) : mm_and y 15 = y % 16 := b32_and y 4 (by decide) h0 h1
theorem and7 (y : Int) (h0 : 0 ≤ y) (h1 : y < 2147483648) : mm_and y 7 = y % 8 := b32_and y 3 (by decide) h0 h1
theorem and3 (y : Int) (h0 : 0 ≤ y) (h1 : y < 2147483648) : mm_and y 3 = y % 4 := b32_and y 2 (by decide) h0 h1
theorem and255 (y : Int) (h0 : 0 ≤ y) (h1 : y < 2147483648) : mm_and y 255 = y % 256 := b32_and y 8 (by decide) h0 h1
/-- an entry that can be -/
def ve_ (x : Int) : Prop := 0 ≤ x ∧ x < 4503599627370496 ∧ x % 4294967296 < 2147483648
def ek_ (x : Int) : Int := x / 4294967296 % 32
def et_ (x : Int) : Int := x % 4294967296
def ev_ (x : Int) : Int := x / 137438953472
theorem lu32 {x : Int} (h : ve_ x) : mm_lushr x 32 = x / 4294967296 := b64_lushr x 32 (Or.inl rfl) h.1 (by have := h.2.1; omega)
theorem nf_keyOf {x : Int} (h : ve_ x) : nf_LI_keyOf x = ek_ x := by
  obtain ⟨h0, h1, h2⟩ := h
  unfold nf_LI_keyOf ek_
  rw [lu32 ⟨h0, h1, h2⟩, mm_w_id (by omega), and31 _ (by omega) (by omega)]
theorem nf_valueOf {x : Int} (h : ve_ x) : nf_LI_valueOf x = ev_ x := by
  obtain ⟨h0, h1, h2⟩ := h
  unfold nf_LI_valueOf ev_
  have := b64_lushr x 37 (Or.inr rfl) h0 (by omega)
  rw [show mm_lushr x 37 = x / 137438953472 from this, mm_w_id (by omega)]
theorem w_stamp {x : Int} (h : ve_ x) : mm_w x = et_ x := by
  obtain ⟨h0, h1, h2⟩ := h
  unfold mm_w et_
  omega
theorem nf_stampOf {x : Int} (h : ve_ x) : nf_LI_stampOf x = et_ x := w_stamp h
theorem ek_in (x : Int) : 0 ≤ ek_ x ∧ ek_ x < 32 := by unfold ek_; omega
def en_ (v k s : Int) : Int := v * 137438953472 + k * 4294967296 + s
theorem b64_or (x y : Int) : mm_lor x y = (BitVec.ofInt 64 x ||| BitVec.ofInt 64 y).toInt := rfl
theorem b64_shl (x : Int) (k : Nat) (hk : k = 32 ∨ k = 37) : mm_lshl x (k : Int) = (BitVec.ofInt 64 x <<< k).toInt := by
  rcases hk with rfl | rfl
  · have : mm_lshl x ((32 : Nat) : Int) = (BitVec.ofInt 64 x <<< (32#64)).toInt := rfl
    rw [this, BitVec.shiftLeft_eq']
    rfl
  · have : mm_lshl x ((37 : Nat) : Int) = (BitVec.ofInt 64 x <<< (37#64)).toInt := rfl
    rw [this, BitVec.shiftLeft_eq']
    rfl
theorem nf_entryOf {v k s : Int} (hv : 0 ≤ v ∧ v < 10000) (hk : 0 ≤ k ∧ k < 32) (hs : 0 ≤ s ∧ s < 2147483648) : nf_LI_entryOf v k s = en_ v k s := by
  obtain ⟨a, rfl⟩ := Int.eq_ofNat_of_zero_le hv.1
  obtain ⟨b, rfl⟩ := Int.eq_ofNat_of_zero_le hk.1
  obtain ⟨c, rfl⟩ := Int.eq_ofNat_of_zero_le hs.1
  unfold nf_LI_entryOf en_
  have e1 : mm_lshl (a : Int) 37 = (BitVec.ofInt 64 (a : Int) <<< 37).toInt := b64_shl _ 37 (Or.inr rfl)
  have e2 : mm_lshl (b : Int) 32 = (BitVec.ofInt 64 (b : Int) <<< 32).toInt := b64_shl _ 32 (Or.inl rfl)
  rw [e1, e2, b64_or, b64_or, BitVec.ofInt_toInt, BitVec.ofInt_toInt, BitVec.ofInt_toInt]
  have n1 : ∀ z : Nat, z < 2 ^ 64 → (BitVec.ofInt 64 (z : Int)).toNat = z := by
    intro z hz
    rw [BitVec.toNat_ofInt]
    have : (z : Int) % ((2 ^ 64 : Nat) : Int) = (z : Int) := Int.emod_eq_of_lt (by omega) (by omega)
    rw [this]
    rfl
  have hA : (BitVec.ofInt 64 (a : Int) <<< 37).toNat = a <<< 37 := by
    rw [BitVec.toNat_shiftLeft, n1 a (by omega)]
    rw [Nat.shiftLeft_eq]
    omega
  have hB : (BitVec.ofInt 64 (b : Int) <<< 32).toNat = b <<< 32 := by
    rw [BitVec.toNat_shiftLeft, n1 b (by omega)]
    rw [Nat.shiftLeft_eq]
    omega
  have hN : (BitVec.ofInt 64 (a : Int) <<< 37 ||| BitVec.ofInt 64 (b : Int) <<< 32 ||| BitVec.ofInt 64 (c : Int)).toNat = a * 137438953472 + b * 4294967296 + c := by
    rw [BitVec.toNat_or, BitVec.toNat_or, hA, hB, n1 c (by omega)]
    have hb : b <<< 32 < 2 ^ 37 := by rw [Nat.shiftLeft_eq]; omega
    rw [← Nat.shiftLeft_add_eq_or_of_lt hb]
    have e3 : a <<< 37 + b <<< 32 = (a * 32 + b) <<< 32 := by
      rw [Nat.shiftLeft_eq, Nat.shiftLeft_eq, Nat.shiftLeft_eq]; omega
    rw [e3, ← Nat.shiftLeft_add_eq_or_of_lt (show c < 2 ^ 32 by omega), Nat.shiftLeft_eq]
    omega
  rw [BitVec.toInt_eq_toNat_of_lt (by rw [hN]; omega), hN]
  simp only [Int.natCast_add, Int.natCast_mul]
  rfl
theorem en_parts {v k s : Int} (hv : 0 ≤ v ∧ v < 10000) (hk : 0 ≤ k ∧ k < 32) (hs : 0 ≤ s ∧ s < 2147483648) : ve_ (en_ v k s) ∧ ev_ (en_ v k s) = v ∧ ek_ (en_ v k s) = k ∧ et_ (en_ v k s) = s := by
  unfold ve_ en_ ev_ ek_ et_
  omega
theorem en_of {x : Int} : en_ (ev_ x) (ek_ x) (et_ x) = x := by
  unfold en_ ev_ ek_ et_
  omega
/-- whether LATEST of its key has its stamp -/
def fs_ (V : ab_V) (x : Int) : Bool := match V (ek_ x).toNat with
  | some p => p.1 == et_ x
  | none => false
theorem nc_stale {x : Int} {v : Nat} {M : mm_M} (h : ve_ x) : nc_LI_isStale x v M := by
  intro _
  have e : mm_and (mm_w (mm_lushr x 32)) 31 = ek_ x := nf_keyOf h
  rw [e]
  exact ek_in x
theorem nf_stale {x : Int} {v : Nat} {M : mm_M} (h : ve_ x) : nf_LI_isStale x v M = if fs_ (cv_ M v) x = true then 0 else 1 := by
  unfold nf_LI_isStale
  have e : mm_and (mm_w (mm_lushr x 32)) 31 = ek_ x := nf_keyOf h
  rw [e, w_stamp h, bt_has _ _ (ek_in x)]
  unfold fs_ cv_
  have e2 : (((ek_ x).toNat : Nat) : Int) = ek_ x := by have := ek_in x; omega
  cases hb : bt_ (nn_rf M v 2) (ek_ x).toNat with
  | false => simp
  | true =>
    simp only [if_true, e2]
    by_cases hz : nn_ri M (v + 2) (ek_ x) = et_ x
    · simp [hz]
    · simp [hz]
/-- rows of four columns -/
def rw_ (a b c d : Int) : Int := a + 16 * b + 256 * c + 4096 * d
def co_ (row c : Int) : Int := row / ((16 ^ c.toNat : Nat) : Int) % 16
theorem b32_ushr (x : Int) (k : Nat) (hk : k < 32) (h0 : 0 ≤ x) (h1 : x < 2147483648) : mm_ushr x (k : Int) = x / ((2 ^ k : Nat) : Int) := by
  rw [bb_ushr x k hk]
  have hn : (BitVec.ofInt 32 x).toNat = x.toNat := by
    rw [BitVec.toNat_ofInt]
    have : x % ((2 ^ 32 : Nat) : Int) = x := Int.emod_eq_of_lt h0 (by omega)
    rw [this]
  have hs : (BitVec.ofInt 32 x >>> k).toNat = x.toNat / 2 ^ k := by
    rw [BitVec.toNat_ushiftRight, hn, Nat.shiftRight_eq_div_pow]
  have hlt : x.toNat / 2 ^ k ≤ x.toNat := Nat.div_le_self _ _
  rw [BitVec.toInt_eq_toNat_of_lt (by rw [hs]; omega), hs, Int.natCast_ediv]
  congr 1
  omega
theorem b32_shr (x : Int) (k : Nat) (hk : k < 32) (h0 : 0 ≤ x) (h1 : x < 2147483648) : mm_shr x (k : Int) = x / ((2 ^ k : Nat) : Int) := by
  rw [bb_shr x k hk, BitVec.toInt_sshiftRight]
  have : (BitVec.ofInt 32 x).toInt = x := by
    rw [BitVec.toInt_ofInt]
    exact Int.bmod_eq_of_le (by omega) (by omega)
  rw [this, Int.shiftRight_eq_div_pow]
theorem nf_columnOf {row c : Int} (hr : 0 ≤ row ∧ row < 65536) (hc : 0 ≤ c ∧ c < 4) : nf_LI_columnOf row c = co_ row c := by
  unfold nf_LI_columnOf co_
  have : c = 0 ∨ c = 1 ∨ c = 2 ∨ c = 3 := by omega
  rcases this with rfl | rfl | rfl | rfl
  · have e := b32_ushr row 0 (by decide) hr.1 (by omega)
    rw [show mm_w (4 * 0) = ((0 : Nat) : Int) from rfl, e, and15 _ (by omega) (by omega)]
    rfl
  · have e := b32_ushr row 4 (by decide) hr.1 (by omega)
    rw [show mm_w (4 * 1) = ((4 : Nat) : Int) from rfl, e, and15 _ (by omega) (by omega)]
    rfl
  · have e := b32_ushr row 8 (by decide) hr.1 (by omega)
    rw [show mm_w (4 * 2) = ((8 : Nat) : Int) from rfl, e, and15 _ (by omega) (by omega)]
    rfl
  · have e := b32_ushr row 12 (by decide) hr.1 (by omega)
    rw [show mm_w (4 * 3) = ((12 : Nat) : Int) from rfl, e, and15 _ (by omega) (by omega)]
    rfl
theorem nf_M_column' {row c : Int} (hr : 0 ≤ row ∧ row < 65536) (hc : 0 ≤ c ∧ c < 4) : nf_M_column row c = co_ row c := by
  unfold nf_M_column co_
  have : c = 0 ∨ c = 1 ∨ c = 2 ∨ c = 3 := by omega
  rcases this with rfl | rfl | rfl | rfl
  · have e := b32_shr row 0 (by decide) hr.1 (by omega)
    rw [show mm_w (4 * 0) = ((0 : Nat) : Int) from rfl, e, and15 _ (by omega) (by omega)]
    rfl
  · have e := b32_shr row 4 (by decide) hr.1 (by omega)
    rw [show mm_w (4 * 1) = ((4 : Nat) : Int) from rfl, e, and15 _ (by omega) (by omega)]
    rfl
  · have e := b32_shr row 8 (by decide) hr.1 (by omega)
    rw [show mm_w (4 * 2) = ((8 : Nat) : Int) from rfl, e, and15 _ (by omega) (by omega)]
    rfl
  · have e := b32_shr row 12 (by decide) hr.1 (by omega)
    rw [show mm_w (4 * 3) = ((12 : Nat) : Int) from rfl, e, and15 _ (by omega) (by omega)]
    rfl
theorem co_in (row c : Int) : 0 ≤ co_ row c ∧ co_ row c < 16 := by unfold co_; omega
