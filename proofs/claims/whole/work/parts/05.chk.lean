/-! every entry of the code tables is what the bytes say, and links as the tables say: decided by the kernel, a method a row -/
def mm_lk_ok (own : String) (i w a kind : Nat) : Bool := match mm_ml[w]? with
  | some (o, j, mid, k, _, _) => decide (o = own) && (j == i && (mid == a && k % 4 == kind))
  | none => false
def mm_par (y : Nat) : Option Nat := (parseMethodDescriptor (mm_y y).desc).map (fun d => d.parameters.length)
def mm_to_ok (pc : Nat) (off : Int) : Bool := decide (0 ≤ (pc : Int) + off)
def mm_ln (ins : Instr) (len : Nat) : Bool := match ins with
  | .bipush _ => len == 2
  | .ldc _ => len == 2
  | .iload _ => len == 2
  | .lload _ => len == 2
  | .aload _ => len == 2
  | .istore _ => len == 2
  | .lstore _ => len == 2
  | .astore _ => len == 2
  | .newarray _ => len == 2
  | .sipush _ => len == 3
  | .ldc_w _ => len == 3
  | .ldc2_w _ => len == 3
  | .iinc .. => len == 3
  | .goto _ => len == 3
  | .ifCond .. => len == 3
  | .if_icmp .. => len == 3
  | .ifnull _ => len == 3
  | .ifnonnull _ => len == 3
  | .getfield _ => len == 3
  | .putfield _ => len == 3
  | .invokevirtual _ => len == 3
  | .invokestatic _ => len == 3
  | .invokespecial _ => len == 3
  | .new _ => len == 3
  | .anewarray _ => len == 3
  | .tableswitch .. => true
  | .lookupswitch .. => true
  | _ => len == 1
def mm_chi (y : Nat) (e : mm_E) : Bool := match e with
  | (pc, ins, len, w, a, b, z, v) => (match ins with
    | .iconst n => decide (-2147483648 ≤ n ∧ n < 2147483648)
    | .bipush n => decide (-128 ≤ n ∧ n < 128)
    | .sipush n => decide (-32768 ≤ n ∧ n < 32768)
    | .ldc i => if z = 0 then (decide (-2147483648 ≤ v ∧ v < 2147483648) && (match mm_kq[w]? with
        | some (o, j, u, _, _) => decide (o = (mm_y y).cls) && (j == i && decide (u = v))
        | none => false)) else (z == 1 && match mm_sl[a]? with
        | some (o, j, _) => decide (o = (mm_y y).cls) && j == i
        | none => false)
    | .ldc_w i => decide (-2147483648 ≤ v ∧ v < 2147483648) && (match mm_kq[w]? with
        | some (o, j, u, _, _) => decide (o = (mm_y y).cls) && (j == i && decide (u = v))
        | none => false)
    | .ldc2_w i => decide (-9223372036854775808 ≤ v ∧ v < 9223372036854775808) && (match mm_lq[w]? with
        | some (o, j, u, _, _) => decide (o = (mm_y y).cls) && (j == i && decide (u = v))
        | none => false)
    | .istore i => decide (i < mm_mx y)
    | .istore_n i => decide ((i : Nat) < mm_mx y)
    | .astore i => decide (i < mm_mx y)
    | .astore_n i => decide ((i : Nat) < mm_mx y)
    | .lstore i => decide (i + 1 < mm_mx y)
    | .lstore_n i => decide ((i : Nat) + 1 < mm_mx y)
    | .iinc i _ => decide (i < mm_mx y)
    | .goto off => mm_to_ok pc off
    | .ifCond _ off => mm_to_ok pc off
    | .if_icmp _ off => mm_to_ok pc off
    | .ifnull off => mm_to_ok pc off
    | .ifnonnull off => mm_to_ok pc off
    | .tableswitch d lo hi offs => mm_to_ok pc d && (decide (offs.size = (hi - lo + 1).toNat) && offs.toList.all (mm_to_ok pc))
    | .lookupswitch d ps => mm_to_ok pc d && (ps.toList.all (fun q => mm_to_ok pc q.2) && (ps.toList.zip (ps.toList.drop 1)).all (fun (a, next) => a.1 < next.1))
    | .getfield i => (match mm_fl[w]? with
        | some (o, j, c, k, _, _) => decide (o = (mm_y y).cls) && (j == i && (c == a && (k == b && (z == mm_fz a b && decide (0 < a)))))
        | none => false)
    | .putfield i => (match mm_fl[w]? with
        | some (o, j, c, k, _, _) => decide (o = (mm_y y).cls) && (j == i && (c == a && (k == b && (z == mm_fz a b && decide (0 < a)))))
        | none => false) && (!(mm_F a b).2.2.2 || (decide ((mm_y y).name = "<init>") && decide ((mm_F a b).1 = (mm_y y).cls)))
    | .new i => (match mm_cl[w]? with
        | some (o, j, c, _, _) => decide (o = (mm_y y).cls) && (j == i && c == a)
        | none => false)
    | .anewarray i => (match mm_cl[w]? with
        | some (o, j, c, _, _) => decide (o = (mm_y y).cls) && (j == i && c == a)
        | none => false) && (a == 12 || (a == 5 || (a == 3 || a == 9)))
    | .newarray t => mm_akind t != 99
    | .invokestatic i => mm_lk_ok (mm_y y).cls i w a 0 && (match z with
        | 0 => decide (a < mm_ny) && decide (mm_par a = some b)
        | 11 => a == 1011
        | 15 => a == 1015
        | 16 => a == 1016
        | 17 => a == 1017
        | _ => false)
    | .invokevirtual i => mm_lk_ok (mm_y y).cls i w a 1 && (match z with
        | 1 => decide (a < mm_ny) && (decide (mm_par a = some b) && (decide (0 < v ∧ v < 14) && decide (mm_cn v.toNat = (mm_y a).cls)))
        | 18 => decide (a < mm_ny) && (decide (mm_par a = some b) && (decide (307 < a) && decide ((mm_y a).cls = "java/lang/String")))
        | _ => false)
    | .invokespecial i => mm_lk_ok (mm_y y).cls i w a 2 && (match z with
        | 2 => decide (a < mm_ny) && (decide (mm_par a = some b) && (decide (0 < v ∧ v < 14) && decide (mm_cn v.toNat = (mm_y a).cls)))
        | 10 => a == 1010
        | _ => false)
    | .iaload => z == 0 || y == 0
    | .arraylength => z == 0 || y == 0
    | .ireturn => match z with
      | 0 => decide (mm_rt y = some .int)
      | _ => decide (mm_rt y = some .boolean)
    | .lreturn => decide (mm_rt y = some .long)
    | .areturn => match mm_rt y with
      | some (.object _) => true
      | _ => false
    | .return_ => decide (mm_rt y = none)
    | _ => true)
def mm_chk (y : Nat) (e : mm_E) : Bool := decide (decode (mm_b y) e.1 = .ok (e.2.1, e.2.2.1)) && (mm_ln e.2.1 e.2.2.1 && mm_chi y e)
