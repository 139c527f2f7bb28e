/-! THE SMALL MACHINE: what one method does, over a memory of whole numbers; its states, its steps, its least meaning -/
abbrev mm_V : Type := Int ⊕ (Int ⊕ Nat)
abbrev mm_M : Type := Nat × (Nat → Nat → Int)
abbrev mm_L : Type := List (Nat × mm_V)
abbrev mm_C : Type := Nat × mm_L × List mm_V × mm_M
abbrev mm_E : Type := Nat × Instr × Nat × Nat × Nat × Nat × Nat × Int
abbrev mm_P : Type := Option mm_V → mm_M → Prop
/-- where a step goes: on; on if; a branch; a call (what must hold, the method, its arguments, what follows); the end; the end if -/
abbrev mm_S : Type := mm_C ⊕ ((Prop × mm_C) ⊕ ((Prop × mm_C × mm_C) ⊕ ((Prop × Nat × List mm_V × (Option mm_V → mm_M → mm_C)) ⊕ (Option mm_V ⊕ (Prop × Option mm_V)))))
abbrev mm_i (x : Int) : mm_V := .inl x
abbrev mm_l (x : Int) : mm_V := .inr (.inl x)
abbrev mm_a (k : Nat) : mm_V := .inr (.inr k)
abbrev mm_go (c : mm_C) : Option mm_S := some (.inl c)
abbrev mm_if (C : Prop) (c : mm_C) : Option mm_S := some (.inr (.inl (C, c)))
abbrev mm_br (C : Prop) (c1 c2 : mm_C) : Option mm_S := some (.inr (.inr (.inl (C, c1, c2))))
abbrev mm_ca (C : Prop) (y : Nat) (as : List mm_V) (k : Option mm_V → mm_M → mm_C) : Option mm_S := some (.inr (.inr (.inr (.inl (C, y, as, k)))))
abbrev mm_re (v : Option mm_V) : Option mm_S := some (.inr (.inr (.inr (.inr (.inl v)))))
abbrev mm_rc (C : Prop) (v : Option mm_V) : Option mm_S := some (.inr (.inr (.inr (.inr (.inr (C, v))))))
def mm_w (x : Int) : Int := (x + 2147483648) % 4294967296 - 2147483648
def mm_w64 (x : Int) : Int := (x + 9223372036854775808) % 18446744073709551616 - 9223372036854775808
def mm_and (x y : Int) : Int := (Int32.ofInt x &&& Int32.ofInt y).toInt
def mm_or (x y : Int) : Int := (Int32.ofInt x ||| Int32.ofInt y).toInt
def mm_xor (x y : Int) : Int := (Int32.ofInt x ^^^ Int32.ofInt y).toInt
def mm_shl (x y : Int) : Int := (Int32.ofInt x <<< (Int32.ofInt y &&& 31)).toInt
def mm_shr (x y : Int) : Int := (Int32.ofInt x >>> (Int32.ofInt y &&& 31)).toInt
def mm_ushr (x y : Int) : Int := (((Int32.ofInt x).toUInt32 >>> ((Int32.ofInt y).toUInt32 &&& Int32.toUInt32 31)).toInt32).toInt
def mm_land (x y : Int) : Int := (Int64.ofInt x &&& Int64.ofInt y).toInt
def mm_lor (x y : Int) : Int := (Int64.ofInt x ||| Int64.ofInt y).toInt
def mm_lshl (x y : Int) : Int := (Int64.ofInt x <<< ((Int32.ofInt y).toInt64 &&& 63)).toInt
def mm_lshr (x y : Int) : Int := (Int64.ofInt x >>> ((Int32.ofInt y).toInt64 &&& 63)).toInt
def mm_lushr (x y : Int) : Int := (((Int64.ofInt x).toUInt64 >>> ((Int32.ofInt y).toInt64.toUInt64 &&& Int64.toUInt64 63)).toInt64).toInt
def mm_lcmp (x y : Int) : Int := if x < y then -1 else if y < x then 1 else 0
def mm_is2 (v : mm_V) : Bool := match v with
  | .inr (.inl _) => true
  | _ => false
def mm_ws : List mm_V → Nat
  | [] => 0
  | v :: t => (if mm_is2 v = true then 2 else 1) + mm_ws t
def mm_lk : mm_L → Nat → Option mm_V
  | [], _ => none
  | q :: t, i => if q.1 = i then some q.2 else mm_lk t i
def mm_clash (i : Nat) (two : Bool) (q : Nat × mm_V) : Bool := q.1 == i || (q.1 + 1 == i && mm_is2 q.2) || (two && q.1 == i + 1)
def mm_clr (i : Nat) (two : Bool) : mm_L → mm_L
  | [] => []
  | q :: t => if mm_clash i two q = true then mm_clr i two t else q :: mm_clr i two t
def mm_set (i : Nat) (v : mm_V) : mm_L → mm_L
  | [] => [(i, v)]
  | q :: t => if q.1 = i then (i, v) :: mm_clr i (mm_is2 v) t else if mm_clash i (mm_is2 v) q = true then mm_set i v t else q :: mm_set i v t
def mm_args : Nat → List mm_V → mm_L
  | _, [] => []
  | i, v :: t => (i, v) :: mm_args (if mm_is2 v = true then i + 2 else i + 1) t
def mm_to (pc : Nat) (off : Int) : Nat := ((pc : Int) + off).toNat
def mm_val (z : Nat) (x : Int) : mm_V := match z with
  | 1 => .inr (.inl x)
  | 3 => .inr (.inr x.toNat)
  | _ => .inl x
/-- the numbers of one cell's one place -/
def mm_up (M : mm_M) (o b : Nat) (x : Int) : mm_M := (M.1, fun o' b' => if o' = o ∧ b' = b then x else M.2 o' b')
def mm_nw (M : mm_M) : mm_M := (M.1 + 1, fun o b => if o = M.1 + 1 then 0 else M.2 o b)
def mm_cp (M : mm_M) (s : Nat) (sp : Int) (d : Nat) (dp n : Int) : mm_M := (M.1, fun o b => if o = d ∧ dp ≤ (b : Int) ∧ (b : Int) < dp + n then M.2 s ((b : Int) - dp + sp).toNat else M.2 o b)
def mm_strs : List (List Int) := [[98, 121], [119, 104, 101, 114, 101], [97, 110, 100], [117, 110, 105, 113, 117, 101], [109, 101, 110, 100, 115]]
def mm_look (d : Int) : List (Int × Int) → Int → Int
  | [], _ => d
  | q :: t, x => if x = q.1 then q.2 else mm_look d t x
/-- the kinds of cells: a class's number and how many fields; 20 ints, 21 longs, 22 booleans, 30 + a class's number: references to it, and how many places -/
def mm_kVersions : List (Nat × Nat) := [(12, 5), (20, 32), (20, 32)]
def mm_kTable : List (Nat × Nat) := (10, 9) :: (mm_kVersions ++ (mm_kVersions ++ ([(42, 24), (20, 24), (20, 24)] ++ (List.replicate 24 mm_kVersions).flatten)))
def mm_kIndex : List (Nat × Nat) := [(5, 10), (8, 3), (20, 35), (20, 3), (4, 2), (21, 12), (4, 2), (21, 32), (6, 6), (21, 144), (20, 25), (20, 24), (20, 24), (20, 24), (20, 32)]
def mm_kStore : List (Nat × Nat) := (9, 14) :: ([(11, 2), (20, 200)] ++ (mm_kTable ++ ([(35, 4), (33, 3), (2, 6), (20, 6), (20, 32)] ++ ((List.replicate 4 mm_kIndex).flatten ++ (List.replicate 3 [(3, 6), (20, 32), (20, 48)]).flatten))))
def mm_kAll : List (Nat × Nat) := (0, 0) :: (1, 5) :: (mm_kStore ++ (mm_kStore ++ (mm_kTable ++ ([(7, 5), (20, 201), (20, 201), (20, 201)] ++ ((39, 3) :: ([(13, 11), (20, 32844), (22, 3), (20, 32)] ++ (mm_kStore ++ (mm_kStore ++ mm_kStore))))))))
def mm_kd (k : Nat) : Nat × Nat := mm_kAll.getD k (0, 0)
def mm_max : Nat := 887
def mm_b2 (f : Int → Int → Int) (pc : Nat) (lv : mm_L) (st : List mm_V) (M : mm_M) : Option mm_S := match st with
  | .inl y :: .inl x :: r => mm_go (pc, lv, .inl (f x y) :: r, M)
  | _ => none
def mm_b2l (f : Int → Int → Int) (pc : Nat) (lv : mm_L) (st : List mm_V) (M : mm_M) : Option mm_S := match st with
  | .inr (.inl y) :: .inr (.inl x) :: r => mm_go (pc, lv, .inr (.inl (f x y)) :: r, M)
  | _ => none
def mm_bsl (f : Int → Int → Int) (pc : Nat) (lv : mm_L) (st : List mm_V) (M : mm_M) : Option mm_S := match st with
  | .inl y :: .inr (.inl x) :: r => mm_go (pc, lv, .inr (.inl (f x y)) :: r, M)
  | _ => none
def mm_ld (i pc : Nat) (t : Nat) (lv : mm_L) (st : List mm_V) (M : mm_M) : Option mm_S := match t, mm_lk lv i with
  | 0, some (.inl x) => mm_go (pc, lv, .inl x :: st, M)
  | 1, some (.inr (.inl x)) => mm_go (pc, lv, .inr (.inl x) :: st, M)
  | 3, some (.inr (.inr x)) => mm_go (pc, lv, .inr (.inr x) :: st, M)
  | _, _ => none
def mm_sto (i pc : Nat) (t : Nat) (lv : mm_L) (st : List mm_V) (M : mm_M) : Option mm_S := match t, st with
  | 0, .inl x :: r => mm_go (pc, mm_set i (.inl x) lv, r, M)
  | 1, .inr (.inl x) :: r => mm_go (pc, mm_set i (.inr (.inl x)) lv, r, M)
  | 3, .inr (.inr x) :: r => mm_go (pc, mm_set i (.inr (.inr x)) lv, r, M)
  | _, _ => none
def mm_cc (cc : Jvm.ClassFile.Cond) (x y : Int) : Prop := match cc with
  | .eq => x = y
  | .ne => x ≠ y
  | .lt => x < y
  | .ge => y ≤ x
  | .gt => y < x
  | .le => x ≤ y
def mm_ald (c : Nat) (pc : Nat) (t : Nat) (lv : mm_L) (st : List mm_V) (M : mm_M) : Option mm_S := match st with
  | .inl i :: .inr (.inr o) :: r => mm_if ((mm_kd o).1 = c ∧ 0 ≤ i ∧ i < ((mm_kd o).2 : Int)) (pc, lv, mm_val t (M.2 o i.toNat) :: r, M)
  | _ => none
def mm_get (pc a b z : Nat) (lv : mm_L) (st : List mm_V) (M : mm_M) : Option mm_S := match st with
  | .inr (.inr o) :: r => mm_if ((mm_kd o).1 = a) (pc, lv, mm_val z (M.2 o b) :: r, M)
  | _ => none
def mm_put (pc a b z : Nat) (lv : mm_L) (st : List mm_V) (M : mm_M) : Option mm_S := match z, st with
  | 0, .inl x :: .inr (.inr o) :: r => mm_if ((mm_kd o).1 = a) (pc, lv, r, mm_up M o b x)
  | 1, .inr (.inl x) :: .inr (.inr o) :: r => mm_if ((mm_kd o).1 = a) (pc, lv, r, mm_up M o b x)
  | 2, .inl x :: .inr (.inr o) :: r => mm_if ((mm_kd o).1 = a ∧ (x = 0 ∨ x = 1)) (pc, lv, r, mm_up M o b x)
  | 3, .inr (.inr x) :: .inr (.inr o) :: r => mm_if ((mm_kd o).1 = a ∧ x < 5000) (pc, lv, r, mm_up M o b (x : Int))
  | _, _ => none
def mm_ast (c : Nat) (pc : Nat) (lv : mm_L) (st : List mm_V) (M : mm_M) : Option mm_S := match c, st with
  | 0, .inl x :: .inl i :: .inr (.inr o) :: r => mm_if ((mm_kd o).1 = 20 ∧ 0 ≤ i ∧ i < ((mm_kd o).2 : Int)) (pc, lv, r, mm_up M o i.toNat x)
  | 1, .inr (.inl x) :: .inl i :: .inr (.inr o) :: r => mm_if ((mm_kd o).1 = 21 ∧ 0 ≤ i ∧ i < ((mm_kd o).2 : Int)) (pc, lv, r, mm_up M o i.toNat x)
  | 2, .inl x :: .inl i :: .inr (.inr o) :: r => mm_if ((mm_kd o).1 = 22 ∧ (x = 0 ∨ x = 1) ∧ 0 ≤ i ∧ i < ((mm_kd o).2 : Int)) (pc, lv, r, mm_up M o i.toNat x)
  | 3, .inr (.inr x) :: .inl i :: .inr (.inr o) :: r => mm_if ((mm_kd o).1 = 30 + (mm_kd x).1 ∧ 0 < (mm_kd x).1 ∧ (mm_kd x).1 < 20 ∧ 0 ≤ i ∧ i < ((mm_kd o).2 : Int)) (pc, lv, r, mm_up M o i.toNat (x : Int))
  | _, _ => none
def mm_inv (pc a b z : Nat) (v : Int) (lv : mm_L) (st : List mm_V) (M : mm_M) : Option mm_S := match z with
  | 0 => if b ≤ st.length ∧ mm_ws (st.drop b) ≤ 8 then mm_ca True a (st.take b).reverse (fun q M' => (pc, lv, q.toList ++ st.drop b, M')) else none
  | 10 => match st with
    | .inr (.inr o) :: r => if mm_ws r ≤ 8 then mm_if ((mm_kd o).1 ≠ 0) (pc, lv, r, M) else none
    | _ => none
  | 11 => match st with
    | .inl n :: .inl dp :: .inr (.inr d) :: .inl sp :: .inr (.inr s) :: r => if mm_ws r ≤ 8 then mm_if ((mm_kd s).1 = (mm_kd d).1 ∧ ((mm_kd s).1 = 20 ∨ (mm_kd s).1 = 21) ∧ 0 ≤ sp ∧ 0 ≤ dp ∧ 0 ≤ n ∧ sp + n ≤ ((mm_kd s).2 : Int) ∧ dp + n ≤ ((mm_kd d).2 : Int)) (pc, lv, r, mm_cp M s sp d dp n) else none
    | _ => none
  | 18 => match st.drop b with
    | .inr (.inr o) :: r => if mm_ws r ≤ 8 then mm_ca (6000 ≤ o ∧ o < 6005) a (.inr (.inr o) :: (st.take b).reverse) (fun q M' => (pc, lv, q.toList ++ r, M')) else none
    | _ => none
  | 15 => match st with
    | .inl y :: .inl x :: r => if mm_ws r ≤ 8 then mm_go (pc, lv, .inl (max x y) :: r, M) else none
    | _ => none
  | 16 => match st with
    | .inl y :: .inl x :: r => if mm_ws r ≤ 8 then mm_go (pc, lv, .inl (min x y) :: r, M) else none
    | _ => none
  | 17 => match st with
    | .inr (.inl x) :: r => if mm_ws r ≤ 8 then mm_go (pc, lv, .inr (.inl (if 0 < x then x else mm_w64 (-x))) :: r, M) else none
    | _ => none
  | _ => match st.drop b with
    | .inr (.inr o) :: r => if mm_ws r ≤ 8 then mm_ca ((mm_kd o).1 = v.toNat) a (.inr (.inr o) :: (st.take b).reverse) (fun q M' => (pc, lv, q.toList ++ r, M')) else none
    | _ => none
def mm_akind (t : ArrayType) : Nat := match t with
  | .int => 20
  | .long => 21
  | .boolean => 22
  | _ => 99
def mm_do (e : mm_E) (lv : mm_L) (st : List mm_V) (M : mm_M) : Option mm_S := match e with
  | (pc, ins, len, w, a, b, z, v) => match ins with
    | .iconst n => mm_go (pc + len, lv, .inl n :: st, M)
    | .bipush n => mm_go (pc + len, lv, .inl n :: st, M)
    | .sipush n => mm_go (pc + len, lv, .inl n :: st, M)
    | .lconst n => mm_go (pc + len, lv, .inr (.inl ((n : Nat) : Int)) :: st, M)
    | .aconst_null => mm_go (pc + len, lv, .inr (.inr 0) :: st, M)
    | .ldc _ => match z with
      | 0 => mm_go (pc + len, lv, .inl v :: st, M)
      | _ => mm_go (pc + len, lv, .inr (.inr (6000 + a)) :: st, M)
    | .ldc_w _ => mm_go (pc + len, lv, .inl v :: st, M)
    | .ldc2_w _ => mm_go (pc + len, lv, .inr (.inl v) :: st, M)
    | .iload i => mm_ld i (pc + len) 0 lv st M
    | .iload_n i => mm_ld i (pc + len) 0 lv st M
    | .lload i => mm_ld i (pc + len) 1 lv st M
    | .lload_n i => mm_ld i (pc + len) 1 lv st M
    | .aload i => mm_ld i (pc + len) 3 lv st M
    | .aload_n i => mm_ld i (pc + len) 3 lv st M
    | .istore i => mm_sto i (pc + len) 0 lv st M
    | .istore_n i => mm_sto i (pc + len) 0 lv st M
    | .lstore i => mm_sto i (pc + len) 1 lv st M
    | .lstore_n i => mm_sto i (pc + len) 1 lv st M
    | .astore i => mm_sto i (pc + len) 3 lv st M
    | .astore_n i => mm_sto i (pc + len) 3 lv st M
    | .iinc i n => match mm_lk lv i with
      | some (.inl x) => mm_go (pc + len, mm_set i (.inl (mm_w (x + n))) lv, st, M)
      | _ => none
    | .iadd => mm_b2 (fun x y => mm_w (x + y)) (pc + len) lv st M
    | .isub => mm_b2 (fun x y => mm_w (x - y)) (pc + len) lv st M
    | .imul => mm_b2 (fun x y => mm_w (x * y)) (pc + len) lv st M
    | .iand => mm_b2 mm_and (pc + len) lv st M
    | .ior => mm_b2 mm_or (pc + len) lv st M
    | .ixor => mm_b2 mm_xor (pc + len) lv st M
    | .ishl => mm_b2 mm_shl (pc + len) lv st M
    | .ishr => mm_b2 mm_shr (pc + len) lv st M
    | .iushr => mm_b2 mm_ushr (pc + len) lv st M
    | .irem => match st with
      | .inl y :: .inl x :: r => mm_if (0 ≤ x ∧ 0 < y) (pc + len, lv, .inl (x % y) :: r, M)
      | _ => none
    | .ladd => mm_b2l (fun x y => mm_w64 (x + y)) (pc + len) lv st M
    | .lsub => mm_b2l (fun x y => mm_w64 (x - y)) (pc + len) lv st M
    | .lmul => mm_b2l (fun x y => mm_w64 (x * y)) (pc + len) lv st M
    | .land => mm_b2l mm_land (pc + len) lv st M
    | .lor => mm_b2l mm_lor (pc + len) lv st M
    | .lshl => mm_bsl mm_lshl (pc + len) lv st M
    | .lshr => mm_bsl mm_lshr (pc + len) lv st M
    | .lushr => mm_bsl mm_lushr (pc + len) lv st M
    | .lneg => match st with
      | .inr (.inl x) :: r => mm_go (pc + len, lv, .inr (.inl (mm_w64 (-x))) :: r, M)
      | _ => none
    | .lcmp => match st with
      | .inr (.inl y) :: .inr (.inl x) :: r => mm_go (pc + len, lv, .inl (mm_lcmp x y) :: r, M)
      | _ => none
    | .i2l => match st with
      | .inl x :: r => mm_go (pc + len, lv, .inr (.inl x) :: r, M)
      | _ => none
    | .l2i => match st with
      | .inr (.inl x) :: r => mm_go (pc + len, lv, .inl (mm_w x) :: r, M)
      | _ => none
    | .dup => match st with
      | .inl x :: r => mm_go (pc + len, lv, .inl x :: .inl x :: r, M)
      | .inr (.inr x) :: r => mm_go (pc + len, lv, .inr (.inr x) :: .inr (.inr x) :: r, M)
      | _ => none
    | .dup2 => match st with
      | .inl x :: .inr (.inr o) :: r => mm_go (pc + len, lv, .inl x :: .inr (.inr o) :: .inl x :: .inr (.inr o) :: r, M)
      | _ => none
    | .pop => match st with
      | .inl _ :: r => mm_go (pc + len, lv, r, M)
      | .inr (.inr _) :: r => mm_go (pc + len, lv, r, M)
      | _ => none
    | .goto off => mm_go (mm_to pc off, lv, st, M)
    | .ifCond cc off => match st with
      | .inl x :: r => mm_br (mm_cc cc x 0) (mm_to pc off, lv, r, M) (pc + len, lv, r, M)
      | _ => none
    | .if_icmp cc off => match st with
      | .inl y :: .inl x :: r => mm_br (mm_cc cc x y) (mm_to pc off, lv, r, M) (pc + len, lv, r, M)
      | _ => none
    | .ifnull off => match st with
      | .inr (.inr x) :: r => mm_br (x = 0) (mm_to pc off, lv, r, M) (pc + len, lv, r, M)
      | _ => none
    | .ifnonnull off => match st with
      | .inr (.inr x) :: r => mm_br (x ≠ 0) (mm_to pc off, lv, r, M) (pc + len, lv, r, M)
      | _ => none
    | .tableswitch d lo hi offs => match st with
      | .inl x :: r => mm_br (lo ≤ x ∧ x ≤ hi) (mm_to pc (offs.getD (x - lo).toNat d), lv, r, M) (mm_to pc d, lv, r, M)
      | _ => none
    | .lookupswitch d ps => match st with
      | .inl x :: r => mm_go (mm_to pc (mm_look d ps.toList x), lv, r, M)
      | _ => none
    | .getfield _ => mm_get (pc + len) a b z lv st M
    | .putfield _ => mm_put (pc + len) a b z lv st M
    | .iaload => match z with
      | 0 => mm_ald 20 (pc + len) 0 lv st M
      | _ => match st with
        | .inl i :: .inr (.inr o) :: r => mm_if (o = 5000 ∧ 0 ≤ i ∧ i < M.2 5001 0) (pc + len, lv, .inl (M.2 5000 i.toNat) :: r, M)
        | _ => none
    | .laload => mm_ald 21 (pc + len) 1 lv st M
    | .baload => mm_ald 22 (pc + len) 0 lv st M
    | .aaload => match st with
      | .inl i :: .inr (.inr o) :: r => mm_if (30 < (mm_kd o).1 ∧ 0 ≤ i ∧ i < ((mm_kd o).2 : Int)) (pc + len, lv, .inr (.inr (M.2 o i.toNat).toNat) :: r, M)
      | _ => none
    | .iastore => mm_ast 0 (pc + len) lv st M
    | .lastore => mm_ast 1 (pc + len) lv st M
    | .bastore => mm_ast 2 (pc + len) lv st M
    | .aastore => mm_ast 3 (pc + len) lv st M
    | .arraylength => match z, st with
      | 0, .inr (.inr o) :: r => mm_if (20 ≤ (mm_kd o).1) (pc + len, lv, .inl ((mm_kd o).2 : Int) :: r, M)
      | _, .inr (.inr o) :: r => mm_if (o = 5000) (pc + len, lv, .inl (M.2 5001 0) :: r, M)
      | _, _ => none
    | .new _ => mm_if (M.1 < mm_max ∧ (mm_kd (M.1 + 1)).1 = a) (pc + len, lv, .inr (.inr (M.1 + 1)) :: st, mm_nw M)
    | .newarray t => match st with
      | .inl n :: r => mm_if (M.1 < mm_max ∧ mm_kd (M.1 + 1) = (mm_akind t, n.toNat) ∧ 0 ≤ n) (pc + len, lv, .inr (.inr (M.1 + 1)) :: r, mm_nw M)
      | _ => none
    | .anewarray _ => match st with
      | .inl n :: r => mm_if (M.1 < mm_max ∧ mm_kd (M.1 + 1) = (30 + a, n.toNat) ∧ 0 ≤ n) (pc + len, lv, .inr (.inr (M.1 + 1)) :: r, mm_nw M)
      | _ => none
    | .invokevirtual _ => mm_inv (pc + len) a b z v lv st M
    | .invokestatic _ => mm_inv (pc + len) a b z v lv st M
    | .invokespecial _ => mm_inv (pc + len) a b z v lv st M
    | .ireturn => match st with
      | [.inl x] => match z with
        | 0 => mm_re (some (.inl x))
        | _ => mm_rc (x = 0 ∨ x = 1) (some (.inl x))
      | _ => none
    | .lreturn => match st with
      | [.inr (.inl x)] => mm_re (some (.inr (.inl x)))
      | _ => none
    | .areturn => match st with
      | [.inr (.inr x)] => mm_re (some (.inr (.inr x)))
      | _ => none
    | .return_ => match st with
      | [] => mm_re none
      | _ => none
    | _ => none
def mm_at (code : List mm_E) (pc : Nat) : Option mm_E := match code with
  | [] => none
  | e :: t => if e.1 = pc then some e else mm_at t pc
abbrev mm_K : Type := Nat → List mm_V → mm_M → mm_P → Prop
/-- one step's condition, for what must hold behind it -/
def mm_wp (call : mm_K) (code : List mm_E) (R : mm_P) (P : mm_C → Prop) (c : mm_C) : Prop := match mm_at code c.1 with
  | none => False
  | some e => match mm_do e c.2.1 c.2.2.1 c.2.2.2 with
    | none => False
    | some (.inl c') => P c'
    | some (.inr (.inl (C, c'))) => C ∧ P c'
    | some (.inr (.inr (.inl (C, c1, c2)))) => (C → P c1) ∧ (¬ C → P c2)
    | some (.inr (.inr (.inr (.inl (C, y, as, k))))) => C ∧ call y as c.2.2.2 (fun v M => P (k v M))
    | some (.inr (.inr (.inr (.inr (.inl v))))) => R v c.2.2.2
    | some (.inr (.inr (.inr (.inr (.inr (C, v)))))) => C ∧ R v c.2.2.2
/-- it comes to its end, with R -/
def mm_Go (call : mm_K) (code : List mm_E) (R : mm_P) (c : mm_C) : Prop := ∀ X : mm_C → Prop, (∀ c, mm_wp call code R X c → X c) → X c
def mm_mono (call : mm_K) : Prop := ∀ (y : Nat) (as : List mm_V) (M : mm_M) (P P' : mm_P), (∀ v M, P v M → P' v M) → call y as M P → call y as M P'
theorem mm_wp_mono {call : mm_K} (hm : mm_mono call) {code : List mm_E} {R R' : mm_P} {P P' : mm_C → Prop} (hR : ∀ v M, R v M → R' v M) (hP : ∀ c, P c → P' c) {c : mm_C} (h : mm_wp call code R P c) : mm_wp call code R' P' c := by
  unfold mm_wp at h ⊢
  cases he : mm_at code c.1 with
  | none => rw [he] at h; exact h.elim
  | some e =>
    rw [he] at h
    dsimp only at h ⊢
    cases hs : mm_do e c.2.1 c.2.2.1 c.2.2.2 with
    | none => rw [hs] at h; exact h.elim
    | some s =>
      rw [hs] at h
      rcases s with c' | ⟨C, c'⟩ | ⟨C, c1, c2⟩ | ⟨C, y, as, k⟩ | v | ⟨C, v⟩
      · exact hP _ h
      · exact ⟨h.1, hP _ h.2⟩
      · exact ⟨fun q => hP _ (h.1 q), fun q => hP _ (h.2 q)⟩
      · exact ⟨h.1, hm _ _ _ _ _ (fun v M q => hP _ q) h.2⟩
      · exact hR _ _ h
      · exact ⟨h.1, hR _ _ h.2⟩
theorem mm_fold {call : mm_K} (hm : mm_mono call) {code : List mm_E} {R : mm_P} {c : mm_C} (h : mm_wp call code R (mm_Go call code R) c) : mm_Go call code R c :=
  fun X hX => hX c (mm_wp_mono hm (fun _ _ q => q) (fun c' q => q X hX) h)
theorem mm_Go_mono {call : mm_K} (hm : mm_mono call) {code : List mm_E} {R R' : mm_P} (hR : ∀ v M, R v M → R' v M) {c : mm_C} (h : mm_Go call code R c) : mm_Go call code R' c :=
  h (mm_Go call code R') (fun _ q => mm_fold hm (mm_wp_mono hm hR (fun _ r => r) q))
