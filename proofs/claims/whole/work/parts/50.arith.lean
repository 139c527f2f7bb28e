/-! reading through writes, frames, loops, bits -/
theorem rd_ff (M : mm_M) (o b : Nat) (x : Int) (o' b' : Nat) : nn_rf (nn_uf M o b x) o' b' = if o' = o ∧ b' = b then x else nn_rf M o' b' := rfl
theorem rd_fi (M : mm_M) (o : Nat) (i x : Int) (o' b' : Nat) : nn_rf (nn_ui M o i x) o' b' = if o' = o ∧ b' = i.toNat then x else nn_rf M o' b' := rfl
theorem rd_if (M : mm_M) (o b : Nat) (x : Int) (o' : Nat) (j : Int) : nn_ri (nn_uf M o b x) o' j = if o' = o ∧ j.toNat = b then x else nn_ri M o' j := rfl
theorem rd_ii (M : mm_M) (o : Nat) (i x : Int) (o' : Nat) (j : Int) : nn_ri (nn_ui M o i x) o' j = if o' = o ∧ j.toNat = i.toNat then x else nn_ri M o' j := rfl
theorem rd_cf (M : mm_M) (s d : Nat) (sp dp n : Int) (o b : Nat) (h : o ≠ d) : nn_rf (mm_cp M s sp d dp n) o b = nn_rf M o b := if_neg (fun q => h q.1)
theorem rd_ci (M : mm_M) (s d : Nat) (sp dp n : Int) (o : Nat) (j : Int) (h : o ≠ d) : nn_ri (mm_cp M s sp d dp n) o j = nn_ri M o j := if_neg (fun q => h q.1)
theorem rd_cc (M : mm_M) (s d : Nat) (sp dp n : Int) (j : Int) (hj : 0 ≤ j) : nn_ri (mm_cp M s sp d dp n) d j = if dp ≤ j ∧ j < dp + n then nn_ri M s (j - dp + sp) else nn_ri M d j := by
  unfold nn_ri mm_cp
  have e : ((j.toNat : Nat) : Int) = j := by omega
  simp only [true_and, e]
/-- what may be changed -/
def fr_ (P : Nat → Nat → Prop) (M M' : mm_M) : Prop := ∀ o b, ¬ P o b → M'.2 o b = M.2 o b
theorem fr_refl {P : Nat → Nat → Prop} (M : mm_M) : fr_ P M M := fun _ _ _ => rfl
theorem fr_trans {P : Nat → Nat → Prop} {M M1 M2 : mm_M} (h : fr_ P M M1) (h2 : fr_ P M1 M2) : fr_ P M M2 := fun o b q => (h2 o b q).trans (h o b q)
theorem fr_mono {P Q : Nat → Nat → Prop} {M M' : mm_M} (h : fr_ P M M') (hq : ∀ o b, P o b → Q o b) : fr_ Q M M' := fun o b q => h o b (fun z => q (hq o b z))
theorem fr_uf {P : Nat → Nat → Prop} {M0 M : mm_M} {o b : Nat} {x : Int} (h0 : fr_ P M0 M) (h : P o b) : fr_ P M0 (nn_uf M o b x) := fun o' b' q => (if_neg (fun (z : o' = o ∧ b' = b) => q (by rw [z.1, z.2]; exact h))).trans (h0 o' b' q)
theorem fr_ui {P : Nat → Nat → Prop} {M0 M : mm_M} {o : Nat} {i x : Int} (h0 : fr_ P M0 M) (h : P o i.toNat) : fr_ P M0 (nn_ui M o i x) := fun o' b' q => (if_neg (fun (z : o' = o ∧ b' = i.toNat) => q (by rw [z.1, z.2]; exact h))).trans (h0 o' b' q)
theorem fr_cp {P : Nat → Nat → Prop} {M0 M : mm_M} {s d : Nat} {sp dp n : Int} (h0 : fr_ P M0 M) (h : ∀ b : Nat, dp ≤ (b : Int) → (b : Int) < dp + n → P d b) : fr_ P M0 (mm_cp M s sp d dp n) := fun o' b' q => (if_neg (fun (z : o' = d ∧ dp ≤ (b' : Int) ∧ (b' : Int) < dp + n) => q (by rw [z.1]; exact h b' z.2.1 z.2.2))).trans (h0 o' b' q)
theorem fr_rf {P : Nat → Nat → Prop} {M M' : mm_M} (h : fr_ P M M') {o b : Nat} (hn : ¬ P o b) : nn_rf M' o b = nn_rf M o b := h o b hn
theorem fr_ri {P : Nat → Nat → Prop} {M M' : mm_M} (h : fr_ P M M') {o : Nat} {i : Int} (hn : ¬ P o i.toNat) : nn_ri M' o i = nn_ri M o i := h o _ hn
theorem fr_rr {P : Nat → Nat → Prop} {M M' : mm_M} (h : fr_ P M M') {o : Nat} {i : Int} (hn : ¬ P o i.toNat) : nn_rr M' o i = nn_rr M o i := congrArg Int.toNat (h o _ hn)
/-- loops upwards, downwards -/
theorem lp_up {n : Int} {P : Int → Prop} (h : ∀ i, i ≤ n → (i < n → P (i + 1)) → P i) : ∀ i, i ≤ n → P i := by
  have key : ∀ k : Nat, ∀ i : Int, i ≤ n → (n - i).toNat = k → P i := by
    intro k
    induction k with
    | zero => intro i hi hk; exact h i hi (fun q => by omega)
    | succ k ih => intro i hi hk; exact h i hi (fun q => ih (i + 1) (by omega) (by omega))
  intro i hi
  exact key _ i hi rfl
theorem lp_dn {n : Int} {P : Int → Prop} (h : ∀ i, n ≤ i → (n < i → P (i - 1)) → P i) : ∀ i, n ≤ i → P i := by
  have key : ∀ k : Nat, ∀ i : Int, n ≤ i → (i - n).toNat = k → P i := by
    intro k
    induction k with
    | zero => intro i hi hk; exact h i hi (fun q => by omega)
    | succ k ih => intro i hi hk; exact h i hi (fun q => ih (i - 1) (by omega) (by omega))
  intro i hi
  exact key _ i hi rfl
/-! bits -/
def bt_ (x : Int) (k : Nat) : Bool := (BitVec.ofInt 32 x).getLsbD k
theorem bb_and (x y : Int) : mm_and x y = (BitVec.ofInt 32 x &&& BitVec.ofInt 32 y).toInt := rfl
theorem bb_or (x y : Int) : mm_or x y = (BitVec.ofInt 32 x ||| BitVec.ofInt 32 y).toInt := rfl
theorem bb_xor (x y : Int) : mm_xor x y = (BitVec.ofInt 32 x ^^^ BitVec.ofInt 32 y).toInt := rfl
theorem bb_sh : ∀ k : Nat, k < 32 → ((BitVec.ofInt 32 (k : Int) &&& 31#32) % 32#32).toNat = k := by decide
theorem bb_shs : ∀ k : Nat, k < 32 → ((BitVec.ofInt 32 (k : Int) &&& 31#32).smod 32#32).toNat = k := by decide
theorem bb_ushr (x : Int) (k : Nat) (hk : k < 32) : mm_ushr x (k : Int) = (BitVec.ofInt 32 x >>> k).toInt := by
  have e : mm_ushr x (k : Int) = (BitVec.ofInt 32 x >>> ((BitVec.ofInt 32 (k : Int) &&& 31#32) % 32#32)).toInt := rfl
  rw [e, BitVec.ushiftRight_eq', bb_sh k hk]
theorem bb_shl (x : Int) (k : Nat) (hk : k < 32) : mm_shl x (k : Int) = (BitVec.ofInt 32 x <<< k).toInt := by
  have e : mm_shl x (k : Int) = (BitVec.ofInt 32 x <<< ((BitVec.ofInt 32 (k : Int) &&& 31#32).smod 32#32)).toInt := rfl
  rw [e, BitVec.shiftLeft_eq', bb_shs k hk]
theorem bb_shr (x : Int) (k : Nat) (hk : k < 32) : mm_shr x (k : Int) = ((BitVec.ofInt 32 x).sshiftRight k).toInt := by
  have e : mm_shr x (k : Int) = ((BitVec.ofInt 32 x).sshiftRight' ((BitVec.ofInt 32 (k : Int) &&& 31#32).smod 32#32)).toInt := rfl
  rw [e, BitVec.sshiftRight', bb_shs k hk]
theorem bt_has (x : Int) (k : Int) (h : 0 ≤ k ∧ k < 32) : mm_and (mm_ushr x k) 1 = if bt_ x k.toNat = true then 1 else 0 := by
  obtain ⟨n, rfl⟩ := Int.eq_ofNat_of_zero_le h.1
  have hn : n < 32 := by omega
  show mm_and (mm_ushr x (n : Int)) 1 = if bt_ x n = true then 1 else 0
  rw [bb_and, bb_ushr x n hn, BitVec.ofInt_toInt]
  have e1 : (BitVec.ofInt 32 1) = 1#32 := rfl
  rw [e1, BitVec.and_one_eq_setWidth_ofBool_getLsbD, BitVec.getLsbD_ushiftRight]
  unfold bt_
  rw [Nat.add_zero]
  cases (BitVec.ofInt 32 x).getLsbD n <;> rfl
theorem bt_and (x y : Int) (k : Nat) : bt_ (mm_and x y) k = (bt_ x k && bt_ y k) := by
  unfold bt_
  rw [bb_and, BitVec.ofInt_toInt, BitVec.getLsbD_and]
theorem bt_or (x y : Int) (k : Nat) : bt_ (mm_or x y) k = (bt_ x k || bt_ y k) := by
  unfold bt_
  rw [bb_or, BitVec.ofInt_toInt, BitVec.getLsbD_or]
theorem bt_xor (x y : Int) (k : Nat) : bt_ (mm_xor x y) k = (bt_ x k ^^ bt_ y k) := by
  unfold bt_
  rw [bb_xor, BitVec.ofInt_toInt, BitVec.getLsbD_xor]
theorem bt_one (n k : Nat) (hn : n < 32) (hk : k < 32) : bt_ (mm_shl 1 (n : Int)) k = decide (k = n) := by
  unfold bt_
  rw [bb_shl 1 n hn, BitVec.ofInt_toInt]
  have : ∀ n : Nat, n < 32 → ∀ k : Nat, k < 32 → ((BitVec.ofInt 32 1) <<< n).getLsbD k = decide (k = n) := by decide +kernel
  exact this n hn k hk
theorem bt_m1 (k : Nat) (hk : k < 32) : bt_ (-1) k = true := by
  unfold bt_
  have : ∀ k : Nat, k < 32 → (BitVec.ofInt 32 (-1)).getLsbD k = true := by decide
  exact this k hk
theorem bt_zero (k : Nat) : bt_ 0 k = false := by
  unfold bt_
  have e1 : (BitVec.ofInt 32 0) = 0#32 := rfl
  rw [e1, BitVec.getLsbD_zero]
theorem bt_keep (x : Int) (i : Int) (h : 0 ≤ i ∧ i < 32) (k : Nat) (hk : k < 32) : bt_ (mm_or x (mm_shl 1 i)) k = (bt_ x k || decide (k = i.toNat)) := by
  obtain ⟨n, rfl⟩ := Int.eq_ofNat_of_zero_le h.1
  rw [bt_or, bt_one n k (by omega) hk]
  rfl
theorem bt_drop (x : Int) (i : Int) (h : 0 ≤ i ∧ i < 32) (k : Nat) (hk : k < 32) : bt_ (mm_and x (mm_xor (mm_shl 1 i) (-1))) k = (bt_ x k && !decide (k = i.toNat)) := by
  obtain ⟨n, rfl⟩ := Int.eq_ofNat_of_zero_le h.1
  rw [bt_and, bt_xor, bt_one n k (by omega) hk, bt_m1 k hk, Bool.xor_true]
  rfl
theorem bt_ext0 (x : Int) (hx : -2147483648 ≤ x ∧ x < 2147483648) (h : ∀ k, k < 32 → bt_ x k = false) : x = 0 := by
  have e : BitVec.ofInt 32 x = 0#32 := by
    apply BitVec.eq_of_getLsbD_eq
    intro i hi
    rw [BitVec.getLsbD_zero]
    exact h i hi
  have h2 : (BitVec.ofInt 32 x).toInt = x := by
    rw [BitVec.toInt_ofInt]
    exact Int.bmod_eq_of_le (by omega) (by omega)
  rw [← h2, e]
  rfl
