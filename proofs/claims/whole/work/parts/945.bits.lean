/-! how many bits: Integer.bitCount -/
theorem w_bv (x : Int) : mm_w x = (BitVec.ofInt 32 x).toInt := by
  rw [BitVec.toInt_ofInt, Int.bmod_def]
  unfold mm_w
  split <;> omega
theorem w_add (a b : BitVec 32) : mm_w (a.toInt + b.toInt) = (a + b).toInt := by
  rw [w_bv, BitVec.ofInt_add, BitVec.ofInt_toInt, BitVec.ofInt_toInt]
theorem w_sub (x : Int) (b : BitVec 32) : mm_w (x - b.toInt) = (BitVec.ofInt 32 x - b).toInt := by
  have e : (BitVec.ofInt 32 x - b).toInt = mm_w (mm_w x - b.toInt) := by
    rw [BitVec.toInt_sub, ← w_bv, Int.bmod_def]
    unfold mm_w
    split <;> omega
  rw [e]
  unfold mm_w
  omega
theorem b_and (a : BitVec 32) (y : Int) : mm_and a.toInt y = (a &&& BitVec.ofInt 32 y).toInt := by rw [bb_and, BitVec.ofInt_toInt]
theorem b_ushr (a : BitVec 32) (k : Nat) (hk : k < 32) : mm_ushr a.toInt (k : Int) = (a >>> k).toInt := by rw [bb_ushr _ _ hk, BitVec.ofInt_toInt]
def pu_ (b : BitVec 32) : BitVec 32 := b - ((b >>> 1) &&& 1431655765#32)
def pw_ (u : BitVec 32) : BitVec 32 := (u &&& 858993459#32) + ((u >>> 2) &&& 858993459#32)
def pt_b (w : BitVec 32) : BitVec 32 := (w + (w >>> 4)) &&& 252645135#32
def p2_ (t : BitVec 32) : BitVec 32 := t + (t >>> 8)
def p3_ (t : BitVec 32) : BitVec 32 := (t + (t >>> 16)) &&& 63#32
theorem pc_bv (x : Int) : nf_Integer_bitCount x = (p3_ (p2_ (pt_b (pw_ (pu_ (BitVec.ofInt 32 x)))))).toInt := by
  unfold nf_Integer_bitCount
  have e1 : mm_ushr x 1 = (BitVec.ofInt 32 x >>> 1).toInt := bb_ushr x 1 (by decide)
  have e2 : mm_w (x - mm_and (mm_ushr x 1) 1431655765) = (pu_ (BitVec.ofInt 32 x)).toInt := by
    rw [e1, b_and, w_sub]; rfl
  rw [e2]
  generalize pu_ (BitVec.ofInt 32 x) = u
  have e3 : mm_ushr u.toInt 2 = (u >>> 2).toInt := b_ushr u 2 (by decide)
  have e4 : mm_w (mm_and u.toInt 858993459 + mm_and (mm_ushr u.toInt 2) 858993459) = (pw_ u).toInt := by
    rw [e3, b_and, b_and, w_add]; rfl
  rw [e4]
  generalize pw_ u = w
  have e5 : mm_ushr w.toInt 4 = (w >>> 4).toInt := b_ushr w 4 (by decide)
  have e6 : mm_and (mm_w (w.toInt + mm_ushr w.toInt 4)) 252645135 = (pt_b w).toInt := by
    rw [e5, w_add, b_and]; rfl
  rw [e6]
  generalize pt_b w = t
  have e7 : mm_ushr t.toInt 8 = (t >>> 8).toInt := b_ushr t 8 (by decide)
  have e8 : mm_w (t.toInt + mm_ushr t.toInt 8) = (p2_ t).toInt := by
    rw [e7, w_add]; rfl
  rw [e8]
  generalize p2_ t = v
  have e9 : mm_ushr v.toInt 16 = (v >>> 16).toInt := b_ushr v 16 (by decide)
  rw [e9, w_add, b_and]
  rfl
theorem and_by (v m : Nat) : v &&& m = ((v % 256) &&& (m % 256)) + 256 * ((v / 256) &&& (m / 256)) := by
  have h1 := @Nat.and_mod_two_pow v m 8
  have h2 := @Nat.and_div_two_pow v m 8
  have e : (2 : Nat) ^ 8 = 256 := rfl
  rw [e] at h1 h2
  rw [← h1, ← h2]
  omega
theorem and_4 (v m : Nat) (hv : v < 4294967296) (hm : m < 256) : v &&& (m * 16843009) = ((v % 256) &&& m) + 256 * ((v / 256 % 256) &&& m) + 65536 * ((v / 65536 % 256) &&& m) + 16777216 * ((v / 16777216) &&& m) := by
  have a := and_by v (m * 16843009)
  have b := and_by (v / 256) (m * 65793)
  have c := and_by (v / 65536) (m * 257)
  rw [show m * 16843009 % 256 = m by omega, show m * 16843009 / 256 = m * 65793 by omega] at a
  rw [show m * 65793 % 256 = m by omega, show m * 65793 / 256 = m * 257 by omega, show v / 256 / 256 = v / 65536 by omega] at b
  rw [show m * 257 % 256 = m by omega, show m * 257 / 256 = m by omega, show v / 65536 / 256 = v / 16777216 by omega] at c
  omega
theorem pd_1 : ∀ x, x < 256 → (∀ e, e < 2 → (x / 2 + 128 * e) &&& 85 = x / 2 &&& 85) ∧ (x / 2 &&& 85) ≤ x := by decide +kernel
def pf1_ (x : Nat) : Nat := x - (x / 2 &&& 85)
def pf2_ (u : Nat) : Nat := (u &&& 51) + (u / 4 &&& 51)
def pf3_ (w : Nat) : Nat := (w + w / 16) % 16
theorem pd_2 : ∀ x, x < 256 → ∀ e, e < 4 → (x / 4 + 64 * e) &&& 51 = x / 4 &&& 51 := by decide +kernel
theorem pd_3 : ∀ x, x < 256 → pf2_ x ≤ 102 ∧ pf2_ x % 16 ≤ 6 ∧ pf3_ (pf2_ x) ≤ 12 := by decide +kernel
theorem pd_4 : ∀ x, x < 256 → pf3_ (pf2_ (pf1_ x)) = cn_ (fun k => Nat.testBit x k) 8 := by decide +kernel
theorem nt_sh (b : BitVec 32) (k : Nat) : (b >>> k).toNat = b.toNat / 2 ^ k := by rw [BitVec.toNat_ushiftRight, Nat.shiftRight_eq_div_pow]
theorem pu_n (b : BitVec 32) : (pu_ b).toNat = pf1_ (b.toNat % 256) + 256 * pf1_ (b.toNat / 256 % 256) + 65536 * pf1_ (b.toNat / 65536 % 256) + 16777216 * pf1_ (b.toNat / 16777216) := by
  unfold pu_
  rw [BitVec.toNat_sub, BitVec.toNat_and, nt_sh]
  have hn := b.isLt
  rw [show (1431655765#32).toNat = 85 * 16843009 from rfl, and_4 _ 85 (by omega) (by decide)]
  generalize b.toNat = n at *
  have d0 := pd_1 (n % 256) (by omega)
  have d1 := pd_1 (n / 256 % 256) (by omega)
  have d2 := pd_1 (n / 65536 % 256) (by omega)
  have d3 := pd_1 (n / 16777216) (by omega)
  have c0 := d0.1 (n / 256 % 2) (by omega)
  have c1 := d1.1 (n / 65536 % 2) (by omega)
  have c2 := d2.1 (n / 16777216 % 2) (by omega)
  have e := (2 : Nat) ^ 1
  rw [show n / 2 ^ 1 % 256 = n % 256 / 2 + 128 * (n / 256 % 2) by omega, c0, show n / 2 ^ 1 / 256 % 256 = n / 256 % 256 / 2 + 128 * (n / 65536 % 2) by omega, c1, show n / 2 ^ 1 / 65536 % 256 = n / 65536 % 256 / 2 + 128 * (n / 16777216 % 2) by omega, c2, show n / 2 ^ 1 / 16777216 = n / 16777216 / 2 by omega]
  unfold pf1_
  have d0 := d0.2
  have d1 := d1.2
  have d2 := d2.2
  have d3 := d3.2
  generalize (n % 256 / 2 &&& 85) = y0 at *
  generalize (n / 256 % 256 / 2 &&& 85) = y1 at *
  generalize (n / 65536 % 256 / 2 &&& 85) = y2 at *
  generalize (n / 16777216 / 2 &&& 85) = y3 at *
  omega
theorem pw_n (u : BitVec 32) : (pw_ u).toNat = pf2_ (u.toNat % 256) + 256 * pf2_ (u.toNat / 256 % 256) + 65536 * pf2_ (u.toNat / 65536 % 256) + 16777216 * pf2_ (u.toNat / 16777216) := by
  unfold pw_
  rw [BitVec.toNat_add, BitVec.toNat_and, BitVec.toNat_and, nt_sh]
  have hn := u.isLt
  rw [show (858993459#32).toNat = 51 * 16843009 from rfl, and_4 _ 51 (by omega) (by decide), and_4 _ 51 (by omega) (by decide)]
  generalize u.toNat = n at *
  have c0 := pd_2 (n % 256) (by omega) (n / 256 % 4) (by omega)
  have c1 := pd_2 (n / 256 % 256) (by omega) (n / 65536 % 4) (by omega)
  have c2 := pd_2 (n / 65536 % 256) (by omega) (n / 16777216 % 4) (by omega)
  rw [show n / 2 ^ 2 % 256 = n % 256 / 4 + 64 * (n / 256 % 4) by omega, c0, show n / 2 ^ 2 / 256 % 256 = n / 256 % 256 / 4 + 64 * (n / 65536 % 4) by omega, c1, show n / 2 ^ 2 / 65536 % 256 = n / 65536 % 256 / 4 + 64 * (n / 16777216 % 4) by omega, c2, show n / 2 ^ 2 / 16777216 = n / 16777216 / 4 by omega]
  have d0 := (pd_3 (n % 256) (by omega)).1
  have d1 := (pd_3 (n / 256 % 256) (by omega)).1
  have d2 := (pd_3 (n / 65536 % 256) (by omega)).1
  have d3 := (pd_3 (n / 16777216) (by omega)).1
  unfold pf2_ at d0 d1 d2 d3 ⊢
  omega
theorem dig_4 (a b c d : Nat) (ha : a < 256) (hb : b < 256) (hc : c < 256) : (a + 256 * b + 65536 * c + 16777216 * d) % 256 = a ∧ (a + 256 * b + 65536 * c + 16777216 * d) / 256 % 256 = b ∧ (a + 256 * b + 65536 * c + 16777216 * d) / 65536 % 256 = c ∧ (a + 256 * b + 65536 * c + 16777216 * d) / 16777216 = d := by
  refine ⟨by omega, by omega, by omega, by omega⟩
theorem d_16 (x k : Nat) (hx : x < 16) : (x + 16 * k) / 16 = k := by omega
theorem pt_n (w : BitVec 32) (c0 c1 c2 c3 : Nat) (h : w.toNat = c0 + 256 * c1 + 65536 * c2 + 16777216 * c3) (h0 : c0 ≤ 102 ∧ c0 % 16 ≤ 6) (h1 : c1 ≤ 102 ∧ c1 % 16 ≤ 6) (h2 : c2 ≤ 102 ∧ c2 % 16 ≤ 6) (h3 : c3 ≤ 102 ∧ c3 % 16 ≤ 6) : (pt_b w).toNat = pf3_ c0 + 256 * pf3_ c1 + 65536 * pf3_ c2 + 16777216 * pf3_ c3 := by
  unfold pt_b
  rw [BitVec.toNat_and, BitVec.toNat_add, nt_sh, h]
  have m15 : ∀ x : Nat, x &&& 15 = x % 16 := fun x => Nat.and_two_pow_sub_one_eq_mod x 4
  have e1 : (c0 + 256 * c1 + 65536 * c2 + 16777216 * c3) / 2 ^ 4 = c0 / 16 + 16 * (c1 % 16) + 256 * (c1 / 16 + 16 * (c2 % 16)) + 65536 * (c2 / 16 + 16 * (c3 % 16)) + 16777216 * (c3 / 16) := by
    have := d_16 (c0 % 16) (c0 / 16 + 16 * (c1 % 16) + 256 * (c1 / 16 + 16 * (c2 % 16)) + 65536 * (c2 / 16 + 16 * (c3 % 16)) + 16777216 * (c3 / 16)) (by omega)
    rw [← this, show (2 : Nat) ^ 4 = 16 from rfl]
    congr 1
    omega
  rw [e1]
  have e2 : (c0 + 256 * c1 + 65536 * c2 + 16777216 * c3 + (c0 / 16 + 16 * (c1 % 16) + 256 * (c1 / 16 + 16 * (c2 % 16)) + 65536 * (c2 / 16 + 16 * (c3 % 16)) + 16777216 * (c3 / 16))) % 2 ^ 32 = (c0 + c0 / 16 + 16 * (c1 % 16)) + 256 * (c1 + c1 / 16 + 16 * (c2 % 16)) + 65536 * (c2 + c2 / 16 + 16 * (c3 % 16)) + 16777216 * (c3 + c3 / 16) := by
    rw [Nat.mod_eq_of_lt (by omega)]
    omega
  rw [e2]
  obtain ⟨g0, g1, g2, g3⟩ := dig_4 (c0 + c0 / 16 + 16 * (c1 % 16)) (c1 + c1 / 16 + 16 * (c2 % 16)) (c2 + c2 / 16 + 16 * (c3 % 16)) (c3 + c3 / 16) (by omega) (by omega) (by omega)
  rw [show (252645135#32).toNat = 15 * 16843009 from rfl, and_4 _ 15 (by omega) (by decide), g0, g1, g2, g3, m15, m15, m15, m15, Nat.add_mul_mod_self_left, Nat.add_mul_mod_self_left, Nat.add_mul_mod_self_left]
  rfl
theorem p4_n (t : BitVec 32) (a b c d : Nat) (ha : a ≤ 12) (hb : b ≤ 12) (hc : c ≤ 12) (hd : d ≤ 12) (h : t.toNat = a + 256 * b + 65536 * c + 16777216 * d) : (p3_ (p2_ t)).toNat = a + b + c + d := by
  unfold p3_ p2_
  have m63 : ∀ x : Nat, x &&& 63 = x % 64 := fun x => Nat.and_two_pow_sub_one_eq_mod x 6
  rw [BitVec.toNat_and, show (63#32).toNat = 63 from rfl, m63, BitVec.toNat_add, nt_sh, BitVec.toNat_add, nt_sh, h]
  have e1 : (a + 256 * b + 65536 * c + 16777216 * d) / 2 ^ 8 = b + 256 * c + 65536 * d := by omega
  rw [e1]
  have e2 : (a + 256 * b + 65536 * c + 16777216 * d + (b + 256 * c + 65536 * d)) % 2 ^ 32 = (a + b) + 256 * (b + c) + 65536 * (c + d) + 16777216 * d := by omega
  rw [e2]
  have e3 : ((a + b) + 256 * (b + c) + 65536 * (c + d) + 16777216 * d) / 2 ^ 16 = (c + d) + 256 * d := by omega
  rw [e3]
  omega
theorem cn_by (n j : Nat) : cn_ (fun k => Nat.testBit n (j + k)) 8 = cn_ (fun k => Nat.testBit (n / 2 ^ j % 256) k) 8 := by
  refine cn_cg (fun k hk => ?_)
  rw [show 256 = 2 ^ 8 from rfl, Nat.testBit_mod_two_pow, Nat.testBit_div_two_pow, decide_eq_true hk, Bool.true_and, Nat.add_comm]
/-- Integer.bitCount -/
theorem pop (x : Int) : nf_Integer_bitCount x = (cn_ (bt_ x) 32 : Nat) := by
  rw [pc_bv]
  have hb : bt_ x = fun k => Nat.testBit (BitVec.ofInt 32 x).toNat k := rfl
  rw [hb]
  generalize BitVec.ofInt 32 x = b
  have hn := b.isLt
  have k1 := pu_n b
  have q : ∀ x, x < 256 → pf1_ x < 256 := by decide +kernel
  have r0 := q (b.toNat % 256) (by omega)
  have r1 := q (b.toNat / 256 % 256) (by omega)
  have r2 := q (b.toNat / 65536 % 256) (by omega)
  have r3 := q (b.toNat / 16777216) (by omega)
  have k2 := pw_n (pu_ b)
  rw [show (pu_ b).toNat % 256 = pf1_ (b.toNat % 256) by omega, show (pu_ b).toNat / 256 % 256 = pf1_ (b.toNat / 256 % 256) by omega, show (pu_ b).toNat / 65536 % 256 = pf1_ (b.toNat / 65536 % 256) by omega, show (pu_ b).toNat / 16777216 = pf1_ (b.toNat / 16777216) by omega] at k2
  obtain ⟨s0, s0', s0''⟩ := pd_3 _ r0
  obtain ⟨s1, s1', s1''⟩ := pd_3 _ r1
  obtain ⟨s2, s2', s2''⟩ := pd_3 _ r2
  obtain ⟨s3, s3', s3''⟩ := pd_3 _ r3
  have k3 := pt_n (pw_ (pu_ b)) _ _ _ _ k2 ⟨s0, s0'⟩ ⟨s1, s1'⟩ ⟨s2, s2'⟩ ⟨s3, s3'⟩
  have k4 := p4_n (pt_b (pw_ (pu_ b))) _ _ _ _ s0'' s1'' s2'' s3'' k3
  rw [pd_4 _ (by omega), pd_4 _ (by omega), pd_4 _ (by omega), pd_4 _ (by omega)] at k4
  have c0 := cn_by b.toNat 0
  have c1 := cn_by b.toNat 8
  have c2 := cn_by b.toNat 16
  have c3 := cn_by b.toNat 24
  have e0 : cn_ (fun k => Nat.testBit b.toNat k) 32 = cn_ (fun k => Nat.testBit b.toNat k) 24 + cn_ (fun k => Nat.testBit b.toNat (24 + k)) 8 := cn_add (p := fun k => Nat.testBit b.toNat k) 24 8
  have e1 : cn_ (fun k => Nat.testBit b.toNat k) 24 = cn_ (fun k => Nat.testBit b.toNat k) 16 + cn_ (fun k => Nat.testBit b.toNat (16 + k)) 8 := cn_add (p := fun k => Nat.testBit b.toNat k) 16 8
  have e2 : cn_ (fun k => Nat.testBit b.toNat k) 16 = cn_ (fun k => Nat.testBit b.toNat k) 8 + cn_ (fun k => Nat.testBit b.toNat (8 + k)) 8 := cn_add (p := fun k => Nat.testBit b.toNat k) 8 8
  have e3 : cn_ (fun k => Nat.testBit b.toNat k) 8 = cn_ (fun k => Nat.testBit b.toNat k) 0 + cn_ (fun k => Nat.testBit b.toNat (0 + k)) 8 := cn_add (p := fun k => Nat.testBit b.toNat k) 0 8
  have z : cn_ (fun k => Nat.testBit b.toNat k) 0 = 0 := rfl
  rw [show b.toNat / 2 ^ 0 % 256 = b.toNat % 256 by omega] at c0
  rw [show b.toNat / 2 ^ 8 % 256 = b.toNat / 256 % 256 by omega] at c1
  rw [show b.toNat / 2 ^ 16 % 256 = b.toNat / 65536 % 256 by omega] at c2
  rw [show b.toNat / 2 ^ 24 % 256 = b.toNat / 16777216 by omega] at c3
  have l0 := cn_le (fun k => Nat.testBit (b.toNat % 256) k) 8
  have l1 := cn_le (fun k => Nat.testBit (b.toNat / 256 % 256) k) 8
  have l2 := cn_le (fun k => Nat.testBit (b.toNat / 65536 % 256) k) 8
  have l3 := cn_le (fun k => Nat.testBit (b.toNat / 16777216) k) 8
  have fin : (p3_ (p2_ (pt_b (pw_ (pu_ b))))).toNat = cn_ (fun k => Nat.testBit b.toNat k) 32 := by rw [k4, e0, e1, e2, e3, z, c0, c1, c2, c3]; omega
  rw [BitVec.toInt_eq_toNat_of_lt (by omega), fin]
