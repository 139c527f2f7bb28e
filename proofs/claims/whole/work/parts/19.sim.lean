/-! any step of any code that is checked; a method's contract from its meaning -/
section Sim
variable {p : Program} {l : Launch} {e : Env} {R : Room} {s : State} {m : MethodId} {args : Array Value} {below : List Frame} {meth : Method} {c : Code} {Q : State → Prop} {γ : mm_G} {y d n0 : Nat} {Mf : mm_M} {Rf : mm_P}
/-- what only the law does: it reads the script -/
def mm_Scr (s : State) (γ : mm_G) (y : Nat) : Prop := y = 0 → ∃ cell : Cell, γ.1[γ.2.2.2 5000]? = some cell ∧ s.isArrayOf cell .int ∧ cell.vm ≠ .unknown ∧ cell.slots.size < 2147483648
set_option maxHeartbeats 8000000 in
theorem mm_step (C : mm_Ctx p R s m args meth c γ y d) (hmx : ∀ y, y < 310 → mm_mx y = mm_ml_ y ∧ mm_mx y ≤ 28) (hrc : Mf.1 ≤ n0 + R.cells) (hrs : mm_ss Mf.1 ≤ mm_ss n0 + R.slots) (hscr : mm_Scr s γ y)
    (hIH : ∀ (a : Nat) (as : List mm_V) (M : mm_M) (v : Option mm_V) (M1 : mm_M), 0 < a → a < 310 → mm_okl M.1 as → mm_run d a as M (fun x y => x = v ∧ y = M1) → mm_Mt l γ d a as M v M1)
    (hret : ∀ (pc : Nat) (ins : Instr) (len w a b z : Nat) (v : Int) (lv : mm_L) (st : List mm_V) (M : mm_M), mm_isret ins = true → mm_chk y (pc, ins, len, w, a, b, z, v) = true → mm_wq (mm_run d) Rf (mm_X p l e R s m args below meth c Q γ y n0 Mf) M (mm_do (pc, ins, len, w, a, b, z, v) lv st M) → mm_X p l e R s m args below meth c Q γ y n0 Mf (pc, lv, st, M))
    (pc : Nat) (ins : Instr) (len w a b z : Nat) (v : Int) (lv : mm_L) (st : List mm_V) (M : mm_M) (hk : mm_chk y (pc, ins, len, w, a, b, z, v) = true)
    (hw : mm_wq (mm_run d) Rf (mm_X p l e R s m args below meth c Q γ y n0 Mf) M (mm_do (pc, ins, len, w, a, b, z, v) lv st M)) : mm_X p l e R s m args below meth c Q γ y n0 Mf (pc, lv, st, M) := by
  obtain ⟨hd, hl, hi⟩ := mm_chk_d hk
  obtain ⟨hx, hbb, hml, hown, hts, hname, hKn, hfr, hlo47⟩ := id C
  have one : (len == 1) = true → len = 1 := fun h => by simpa using h
  have two : (len == 2) = true → len = 2 := fun h => by simpa using h
  have three : (len == 3) = true → len = 3 := fun h => by simpa using h
  cases ins
  case iconst n =>
    obtain rfl := one hl
    have hn := of_decide_eq_true hi
    exact mm_o_push (u := .inl n) (fun _ _ => hn) (fun H locs cells slots ls rest k => lv_iconst hx hbb hd rfl k) hw
  case bipush n =>
    obtain rfl := two hl
    have hn : -128 ≤ n ∧ n < 128 := of_decide_eq_true hi
    exact mm_o_push (u := .inl n) (fun _ _ => show -2147483648 ≤ n ∧ n < 2147483648 by omega) (fun H locs cells slots ls rest k => lv_bipush hx hbb hd (Int8.toInt32_ofInt (show (-128 : Int) ≤ n by omega) (show n ≤ (127 : Int) by omega)) k) hw
  case sipush n =>
    obtain rfl := three hl
    have hn : -32768 ≤ n ∧ n < 32768 := of_decide_eq_true hi
    exact mm_o_push (u := .inl n) (fun _ _ => show -2147483648 ≤ n ∧ n < 2147483648 by omega) (fun H locs cells slots ls rest k => lv_sipush hx hbb hd (Int16.toInt32_ofInt (show (-32768 : Int) ≤ n by omega) (show n ≤ (32767 : Int) by omega)) k) hw
  case lconst n =>
    obtain rfl := one hl
    exact mm_o_push (u := .inr (.inl ((n : Nat) : Int))) (fun _ _ => by
      have := n.isLt
      show -9223372036854775808 ≤ ((n : Nat) : Int) ∧ ((n : Nat) : Int) < 9223372036854775808
      omega) (fun H locs cells slots ls rest k => lv_lconst hx hbb hd (Int64.ofInt_eq_ofNat.symm) k) hw
  case aconst_null =>
    obtain rfl := one hl
    exact mm_o_push (u := .inr (.inr 0)) (fun n _ => Or.inl (Nat.zero_le n)) (fun H locs cells slots ls rest k => lv_null hx hbb hd k) hw
  case ldc i => exact mm_o_ldc C hk hw
  case ldc_w i => exact mm_o_ldcw C hk hw
  case ldc2_w i => exact mm_o_ldc2 C hk hw
  case iload i =>
    obtain rfl := two hl
    refine mm_o_ld (i := i) (t := 0) (len := 2) (fun H locs cells slots ls rest u ht hls k => ?_) hw
    rcases u with u | u | u <;> first | exact False.elim ht | exact lv_iload hx hbb hd hls k
  case iload_n i =>
    obtain rfl := one hl
    refine mm_o_ld (i := i) (t := 0) (len := 1) (fun H locs cells slots ls rest u ht hls k => ?_) hw
    rcases u with u | u | u <;> first | exact False.elim ht | exact lv_iload_n hx hbb hd rfl hls k
  case lload i =>
    obtain rfl := two hl
    refine mm_o_ld (i := i) (t := 1) (len := 2) (fun H locs cells slots ls rest u ht hls k => ?_) hw
    rcases u with u | u | u <;> first | exact False.elim ht | exact lv_lload hx hbb hd hls k
  case lload_n i =>
    obtain rfl := one hl
    refine mm_o_ld (i := i) (t := 1) (len := 1) (fun H locs cells slots ls rest u ht hls k => ?_) hw
    rcases u with u | u | u <;> first | exact False.elim ht | exact lv_lload_n hx hbb hd rfl hls k
  case aload i =>
    obtain rfl := two hl
    refine mm_o_ld (i := i) (t := 3) (len := 2) (fun H locs cells slots ls rest u ht hls k => ?_) hw
    rcases u with u | u | u <;> first | exact False.elim ht | skip
    by_cases h0 : u = 0
    · subst h0; exact lv_aloadN hx hbb hd hls k
    · rw [mm_ref (by omega)] at hls k; exact lv_aload hx hbb hd hls k
  case aload_n i =>
    obtain rfl := one hl
    refine mm_o_ld (i := i) (t := 3) (len := 1) (fun H locs cells slots ls rest u ht hls k => ?_) hw
    rcases u with u | u | u <;> first | exact False.elim ht | skip
    by_cases h0 : u = 0
    · subst h0; exact lv_aload_nN hx hbb hd rfl hls k
    · rw [mm_ref (by omega)] at hls k; exact lv_aload_n hx hbb hd rfl hls k
  case istore i =>
    obtain rfl := two hl
    have hn := of_decide_eq_true hi
    refine mm_o_sto (i := i) (t := 0) (len := 2) (fun H locs cells slots ls rest u ht hL k => ?_) hw
    rcases u with u | u | u <;> first | exact False.elim ht | exact lv_istore hx hbb hd hL hn rfl (fun ls' hl' => k ls' (mm_hset1 rfl hl'))
  case istore_n i =>
    obtain rfl := one hl
    have hn := of_decide_eq_true hi
    refine mm_o_sto (i := i) (t := 0) (len := 1) (fun H locs cells slots ls rest u ht hL k => ?_) hw
    rcases u with u | u | u <;> first | exact False.elim ht | exact lv_istore_n hx hbb hd rfl hL hn rfl (fun ls' hl' => k ls' (mm_hset1 rfl hl'))
  case lstore i =>
    obtain rfl := two hl
    have hn := of_decide_eq_true hi
    refine mm_o_sto (i := i) (t := 1) (len := 2) (fun H locs cells slots ls rest u ht hL k => ?_) hw
    rcases u with u | u | u <;> first | exact False.elim ht | exact lv_lstore hx hbb hd hL hn rfl (fun ls' hl' => k ls' (mm_hset2 rfl hl'))
  case lstore_n i =>
    obtain rfl := one hl
    have hn := of_decide_eq_true hi
    refine mm_o_sto (i := i) (t := 1) (len := 1) (fun H locs cells slots ls rest u ht hL k => ?_) hw
    rcases u with u | u | u <;> first | exact False.elim ht | exact lv_lstore_n hx hbb hd rfl hL hn rfl (fun ls' hl' => k ls' (mm_hset2 rfl hl'))
  case astore i =>
    obtain rfl := two hl
    have hn := of_decide_eq_true hi
    refine mm_o_sto (i := i) (t := 3) (len := 2) (fun H locs cells slots ls rest u ht hL k => ?_) hw
    rcases u with u | u | u <;> first | exact False.elim ht | skip
    by_cases h0 : u = 0
    · subst h0; exact lv_astoreN hx hbb hd hL hn rfl (fun ls' hl' => k ls' (mm_hset1 rfl hl'))
    · have e := mm_ref (γ := γ) (o := u) (by omega)
      rw [e]
      exact lv_astore hx hbb hd hL hn rfl (fun ls' hl' => k ls' (mm_hset1 rfl (by rw [e]; exact hl')))
  case astore_n i =>
    obtain rfl := one hl
    have hn := of_decide_eq_true hi
    refine mm_o_sto (i := i) (t := 3) (len := 1) (fun H locs cells slots ls rest u ht hL k => ?_) hw
    rcases u with u | u | u <;> first | exact False.elim ht | skip
    by_cases h0 : u = 0
    · subst h0; exact lv_astore_nN hx hbb hd rfl hL hn rfl (fun ls' hl' => k ls' (mm_hset1 rfl hl'))
    · have e := mm_ref (γ := γ) (o := u) (by omega)
      rw [e]
      exact lv_astore_n hx hbb hd rfl hL hn rfl (fun ls' hl' => k ls' (mm_hset1 rfl (by rw [e]; exact hl')))
  case iinc i n =>
    obtain rfl := three hl
    have hn : i < mm_mx y := of_decide_eq_true hi
    have hw2 : mm_wq (mm_run d) Rf (mm_X p l e R s m args below meth c Q γ y n0 Mf) M (match mm_lk lv i with
      | some (.inl x) => mm_go (pc + 3, mm_set i (.inl (mm_w (x + n))) lv, st, M)
      | _ => none) := hw
    split at hw2
    · rename_i x hlk
      refine ⟨hw2.1, fun H locs cells slots ls hR hlo hce hsl hL hlv hst => ?_⟩
      have hm := mm_lk_mem hlk
      obtain ⟨k, hk2⟩ := List.getElem?_of_mem (show (i, Value.int (Int32.ofInt x)) ∈ mm_E1 γ lv from List.mem_map.mpr ⟨(i, .inl x), hm, rfl⟩)
      refine lv_iinc (v := Int32.ofInt (mm_w (x + n))) hx hbb hd hL (k := k) hk2 (by rw [mm_oI, Int32.ofInt_add]) hn rfl (fun ls' hl' => ?_)
      exact hw2.2 H locs cells slots ls' hR hlo hce hsl (mm_hset1 rfl hl') (mm_set_ok hlv (mm_w_in _)) hst
    · exact hw2.elim
  case iadd => obtain rfl := one hl; exact mm_o_b2 _ (fun x y => x + y) (fun x y _ _ => ⟨mm_w_in _, by rw [mm_oI, Int32.ofInt_add]⟩) (fun H locs cells slots ls rest x y k => lv_iadd hx hbb hd k) hw
  case isub => obtain rfl := one hl; exact mm_o_b2 _ (fun x y => x - y) (fun x y _ _ => ⟨mm_w_in _, by rw [mm_oI, Int32.ofInt_sub]⟩) (fun H locs cells slots ls rest x y k => lv_isub hx hbb hd k) hw
  case imul => obtain rfl := one hl; exact mm_o_b2 _ (fun x y => x * y) (fun x y _ _ => ⟨mm_w_in _, by rw [mm_oI, Int32.ofInt_mul]⟩) (fun H locs cells slots ls rest x y k => lv_imul hx hbb hd k) hw
  case iand => obtain rfl := one hl; exact mm_o_b2 _ (fun x y => x &&& y) (fun x y _ _ => ⟨mm_tI _, Int32.ofInt_toInt _⟩) (fun H locs cells slots ls rest x y k => lv_iand hx hbb hd k) hw
  case ior => obtain rfl := one hl; exact mm_o_b2 _ (fun x y => x ||| y) (fun x y _ _ => ⟨mm_tI _, Int32.ofInt_toInt _⟩) (fun H locs cells slots ls rest x y k => lv_ior hx hbb hd k) hw
  case ixor => obtain rfl := one hl; exact mm_o_b2 _ (fun x y => x ^^^ y) (fun x y _ _ => ⟨mm_tI _, Int32.ofInt_toInt _⟩) (fun H locs cells slots ls rest x y k => lv_ixor hx hbb hd k) hw
  case ishl => obtain rfl := one hl; exact mm_o_b2 _ (fun x y => x <<< (y &&& 31)) (fun x y _ _ => ⟨mm_tI _, Int32.ofInt_toInt _⟩) (fun H locs cells slots ls rest x y k => lv_ishl hx hbb hd k) hw
  case ishr => obtain rfl := one hl; exact mm_o_b2 _ (fun x y => x >>> (y &&& 31)) (fun x y _ _ => ⟨mm_tI _, Int32.ofInt_toInt _⟩) (fun H locs cells slots ls rest x y k => lv_ishr hx hbb hd k) hw
  case iushr => obtain rfl := one hl; exact mm_o_b2 _ (fun x y => (x.toUInt32 >>> (y.toUInt32 &&& Int32.toUInt32 31)).toInt32) (fun x y _ _ => ⟨mm_tI _, Int32.ofInt_toInt _⟩) (fun H locs cells slots ls rest x y k => lv_iushr hx hbb hd rfl k) hw
  case ladd => obtain rfl := one hl; exact mm_o_b2l _ (fun x y => x + y) (fun x y _ _ => ⟨mm_w64_in _, by rw [mm_oL, Int64.ofInt_add]⟩) (fun H locs cells slots ls rest x y k => lv_ladd hx hbb hd k) hw
  case lsub => obtain rfl := one hl; exact mm_o_b2l _ (fun x y => x - y) (fun x y _ _ => ⟨mm_w64_in _, by rw [mm_oL, Int64.ofInt_sub]⟩) (fun H locs cells slots ls rest x y k => lv_lsub hx hbb hd k) hw
  case lmul => obtain rfl := one hl; exact mm_o_b2l _ (fun x y => x * y) (fun x y _ _ => ⟨mm_w64_in _, by rw [mm_oL, Int64.ofInt_mul]⟩) (fun H locs cells slots ls rest x y k => lv_lmul hx hbb hd k) hw
  case land => obtain rfl := one hl; exact mm_o_b2l _ (fun x y => x &&& y) (fun x y _ _ => ⟨mm_tL _, Int64.ofInt_toInt _⟩) (fun H locs cells slots ls rest x y k => lv_land hx hbb hd k) hw
  case lor => obtain rfl := one hl; exact mm_o_b2l _ (fun x y => x ||| y) (fun x y _ _ => ⟨mm_tL _, Int64.ofInt_toInt _⟩) (fun H locs cells slots ls rest x y k => lv_lor hx hbb hd k) hw
  case lshl => obtain rfl := one hl; exact mm_o_bsl _ (fun x y => x <<< (y.toInt64 &&& 63)) (fun x y => ⟨mm_tL _, Int64.ofInt_toInt _⟩) (fun H locs cells slots ls rest x y k => lv_lshl hx hbb hd rfl k) hw
  case lshr => obtain rfl := one hl; exact mm_o_bsl _ (fun x y => x >>> (y.toInt64 &&& 63)) (fun x y => ⟨mm_tL _, Int64.ofInt_toInt _⟩) (fun H locs cells slots ls rest x y k => lv_lshr hx hbb hd rfl k) hw
  case lushr => obtain rfl := one hl; exact mm_o_bsl _ (fun x y => (x.toUInt64 >>> (y.toInt64.toUInt64 &&& Int64.toUInt64 63)).toInt64) (fun x y => ⟨mm_tL _, Int64.ofInt_toInt _⟩) (fun H locs cells slots ls rest x y k => lv_lushr hx hbb hd rfl k) hw
  case irem =>
    obtain rfl := one hl
    rcases st with _ | ⟨y1 | y1 | y1, _ | ⟨x1 | x1 | x1, r⟩⟩
    all_goals first
      | exact False.elim hw
      | skip
    obtain ⟨hc, hX⟩ := (hw : (0 ≤ x1 ∧ 0 < y1) ∧ mm_X p l e R s m args below meth c Q γ y n0 Mf (pc + 1, lv, .inl (x1 % y1) :: r, M))
    refine mm_o_sim (fun H locs cells slots ls hst => ?_) hX
    have hy : -2147483648 ≤ y1 ∧ y1 < 2147483648 := mm_okl_h hst
    have hx1 : -2147483648 ≤ x1 ∧ x1 < 2147483648 := mm_okl_h (mm_okl_t hst)
    have hm1 := Int.emod_nonneg x1 (show y1 ≠ 0 by omega)
    have hm2 := Int.emod_lt_of_pos x1 hc.2
    refine ⟨mm_okl_c (show -2147483648 ≤ x1 % y1 ∧ x1 % y1 < 2147483648 by omega) (mm_okl_t (mm_okl_t hst)), fun k => ?_⟩
    refine lv_irem hx hbb hd (by rw [mm_0I, mm_eqI hy (by omega)]; omega) ?_
    rw [mm_remI (by omega) (by omega)]
    exact k
  case lneg =>
    obtain rfl := one hl
    rcases st with _ | ⟨x1 | x1 | x1, r⟩
    all_goals first
      | exact False.elim hw
      | skip
    refine mm_o_sim (st2 := .inr (.inl (mm_w64 (-x1))) :: r) (fun H locs cells slots ls hst => ⟨mm_okl_c (mm_w64_in _) (mm_okl_t hst), fun k => lv_lneg hx hbb hd ?_⟩) hw
    rw [← Int64.ofInt_neg, ← mm_oL]
    exact k
  case lcmp =>
    obtain rfl := one hl
    rcases st with _ | ⟨y1 | y1 | y1, _ | ⟨x1 | x1 | x1, r⟩⟩
    all_goals first
      | exact False.elim hw
      | skip
    refine mm_o_sim (st2 := .inl (mm_lcmp x1 y1) :: r) (fun H locs cells slots ls hst => ⟨mm_okl_c ?_ (mm_okl_t (mm_okl_t hst)), fun k => W.lcmp hx hbb hd ?_⟩) hw
    · show -2147483648 ≤ mm_lcmp x1 y1 ∧ mm_lcmp x1 y1 < 2147483648
      unfold mm_lcmp
      split
      · omega
      · split <;> omega
    · rw [mm_cmpL (mm_okl_h (mm_okl_t hst)) (mm_okl_h hst)]
      exact k
  case i2l =>
    obtain rfl := one hl
    rcases st with _ | ⟨x1 | x1 | x1, r⟩
    all_goals first
      | exact False.elim hw
      | skip
    refine mm_o_sim (st2 := .inr (.inl x1) :: r) (fun H locs cells slots ls hst => ?_) hw
    have hx1 : -2147483648 ≤ x1 ∧ x1 < 2147483648 := mm_okl_h hst
    exact ⟨mm_okl_c (show -9223372036854775808 ≤ x1 ∧ x1 < 9223372036854775808 by omega) (mm_okl_t hst), fun k => lv_i2l hx hbb hd (mm_lI hx1) k⟩
  case l2i =>
    obtain rfl := one hl
    rcases st with _ | ⟨x1 | x1 | x1, r⟩
    all_goals first
      | exact False.elim hw
      | skip
    exact mm_o_sim (st2 := .inl (mm_w x1) :: r) (fun H locs cells slots ls hst => ⟨mm_okl_c (mm_w_in _) (mm_okl_t hst), fun k => lv_l2i hx hbb hd (mm_iL x1) k⟩) hw
  case dup =>
    obtain rfl := one hl
    rcases st with _ | ⟨x1 | x1 | x1, r⟩
    all_goals first
      | exact False.elim hw
      | skip
    · exact mm_o_sim (st2 := .inl x1 :: .inl x1 :: r) (fun H locs cells slots ls hst => ⟨mm_okl_c (mm_okl_h hst) hst, fun k => lv_dup hx hbb hd rfl k⟩) hw
    · exact mm_o_sim (st2 := .inr (.inr x1) :: .inr (.inr x1) :: r) (fun H locs cells slots ls hst => ⟨mm_okl_c (mm_okl_h hst) hst, fun k => lv_dup hx hbb hd (mm_cat γ (.inr (.inr x1))) k⟩) hw
  case dup2 =>
    obtain rfl := one hl
    rcases st with _ | ⟨x1 | x1 | x1, _ | ⟨o1 | o1 | o, r⟩⟩
    all_goals first
      | exact False.elim hw
      | skip
    exact mm_o_sim (st2 := .inl x1 :: .inr (.inr o) :: .inl x1 :: .inr (.inr o) :: r) (fun H locs cells slots ls hst => ⟨mm_okl_c (mm_okl_h hst) (mm_okl_c (mm_okl_h (mm_okl_t hst)) hst), fun k => lv_dup2_11 hx hbb hd rfl (mm_cat γ (.inr (.inr o))) k⟩) hw
  case pop =>
    obtain rfl := one hl
    rcases st with _ | ⟨x1 | x1 | x1, r⟩
    all_goals first
      | exact False.elim hw
      | skip
    · exact mm_o_sim (st2 := r) (fun H locs cells slots ls hst => ⟨mm_okl_t hst, fun k => lv_pop hx hbb hd rfl k⟩) hw
    · exact mm_o_sim (st2 := r) (fun H locs cells slots ls hst => ⟨mm_okl_t hst, fun k => lv_pop hx hbb hd (mm_cat γ (.inr (.inr x1))) k⟩) hw
  case goto off =>
    obtain rfl := three hl
    exact mm_o_sim (st2 := st) (fun H locs cells slots ls hst => ⟨hst, fun k => lv_goto hx hbb hd (mm_toE hi) k⟩) hw
  case ifCond cc off => exact mm_o_if C hk hw
  case if_icmp cc off => exact mm_o_icmp C hk hw
  case ifnull off =>
    obtain rfl := three hl
    rcases st with _ | ⟨x1 | x1 | x1, r⟩
    all_goals first
      | exact False.elim hw
      | skip
    exact mm_o_null (nn := false) C hd (mm_toE hi) (fun q => hw.1 q) (fun q => hw.2 q)
  case ifnonnull off =>
    obtain rfl := three hl
    rcases st with _ | ⟨x1 | x1 | x1, r⟩
    all_goals first
      | exact False.elim hw
      | skip
    exact mm_o_null (nn := true) C hd (mm_toE hi) (fun q => hw.1 q) (fun q => hw.2 q)
  case tableswitch dd lo hi2 offs => exact mm_o_table C hk hw
  case lookupswitch dd ps => exact mm_o_lookup C hk hw
  case getfield i => exact mm_o_get C hk hw
  case putfield i => exact mm_o_put C hk hw
  case iaload =>
    obtain rfl := one hl
    have hz : (z == 0 || y == 0) = true := hi
    rcases z with _ | z
    · exact mm_o_ald 20 0 C (Or.inl ⟨rfl, rfl⟩) (fun H locs cells slots ls rest ad cell j u g1 g2 g3 g4 g5 k => W.iald hx hbb g1 g2 g3 g4 g5 rfl rfl hd k) hw
    · have hy0 : y = 0 := by simpa using hz
      rcases st with _ | ⟨i1 | i1 | i1, _ | ⟨o1 | o1 | o, r⟩⟩
      all_goals first
        | exact False.elim hw
        | skip
      obtain ⟨⟨ho, h0, hin⟩, hX⟩ := (hw : (o = 5000 ∧ 0 ≤ i1 ∧ i1 < M.2 5001 0) ∧ mm_X p l e R s m args below meth c Q γ y n0 Mf (pc + 1, lv, .inl (M.2 5000 i1.toNat) :: r, M))
      refine ⟨hX.1, fun H locs cells slots ls hR hlo hce hsl hL hlv hst => ?_⟩
      have hR : mm_Rel γ M H := hR
      obtain ⟨cell, c1, c2, c3, c4⟩ := hscr hy0
      obtain ⟨e1, e2⟩ := hR.2.2.1.2 cell c1
      have hi1 : -2147483648 ≤ i1 ∧ i1 < 2147483648 := mm_okl_h hst
      have hlt : i1.toNat < cell.slots.size := by omega
      have hll : γ.2.2.2 5000 < γ.1.size := (Array.getElem?_eq_some_iff.mp c1).1
      have had : mm_ev γ (.inr (.inr o)) = .ref (γ.2.2.2 5000) := by
        subst ho
        rw [mm_ref (by omega)]
        unfold mm_ad
        rw [if_neg (by omega)]
      show W p l e R s m args below meth c H locs cells slots Q (F0 m pc ls (.int (Int32.ofInt i1) :: mm_ev γ (.inr (.inr o)) :: r.map (mm_ev γ)))
      rw [had]
      refine W.iald hx hbb (by rw [hR.2.2.1.1 _ hll]; exact c1) c2 c3 (mm_vin hi1 h0 (by omega)) (by rw [mm_clI hi1]; exact (e2 i1.toNat hlt).2) rfl rfl hd ?_
      exact hX.2 H locs cells slots ls hR hlo hce hsl hL hlv (mm_okl_c (e2 i1.toNat hlt).1 (mm_okl_t (mm_okl_t hst)))
  case laload => obtain rfl := one hl; exact mm_o_ald 21 1 C (Or.inr (Or.inl ⟨rfl, rfl⟩)) (fun H locs cells slots ls rest ad cell j u g1 g2 g3 g4 g5 k => W.lald hx hbb g1 g2 g3 g4 g5 rfl rfl hd k) hw
  case baload => obtain rfl := one hl; exact mm_o_ald 22 0 C (Or.inr (Or.inr ⟨rfl, rfl⟩)) (fun H locs cells slots ls rest ad cell j u g1 g2 g3 g4 g5 k => W.zald hx hbb g1 g2 g3 g4 g5 rfl rfl hd k) hw
  case aaload => exact mm_o_aald C hk hw
  case iastore => obtain rfl := one hl; exact mm_o_ast 0 C hd (Or.inl ⟨rfl, rfl⟩) hw
  case lastore => obtain rfl := one hl; exact mm_o_ast 1 C hd (Or.inr (Or.inl ⟨rfl, rfl⟩)) hw
  case bastore => obtain rfl := one hl; exact mm_o_ast 2 C hd (Or.inr (Or.inr (Or.inl ⟨rfl, rfl⟩))) hw
  case aastore => obtain rfl := one hl; exact mm_o_ast 3 C hd (Or.inr (Or.inr (Or.inr ⟨rfl, rfl⟩))) hw
  case arraylength =>
    have hz : (z == 0 || y == 0) = true := hi
    rcases z with _ | z
    · exact mm_o_alen C hk hw
    · obtain rfl := one hl
      have hy0 : y = 0 := by simpa using hz
      rcases st with _ | ⟨o1 | o1 | o, r⟩
      all_goals first
        | exact False.elim hw
        | skip
      obtain ⟨ho, hX⟩ := (hw : o = 5000 ∧ mm_X p l e R s m args below meth c Q γ y n0 Mf (pc + 1, lv, .inl (M.2 5001 0) :: r, M))
      refine ⟨hX.1, fun H locs cells slots ls hR hlo hce hsl hL hlv hst => ?_⟩
      have hR : mm_Rel γ M H := hR
      obtain ⟨cell, c1, c2, c3, c4⟩ := hscr hy0
      obtain ⟨e1, e2⟩ := hR.2.2.1.2 cell c1
      have hll : γ.2.2.2 5000 < γ.1.size := (Array.getElem?_eq_some_iff.mp c1).1
      have had : mm_ev γ (.inr (.inr o)) = .ref (γ.2.2.2 5000) := by
        subst ho
        rw [mm_ref (by omega)]
        unfold mm_ad
        rw [if_neg (by omega)]
      show W p l e R s m args below meth c H locs cells slots Q (F0 m pc ls (mm_ev γ (.inr (.inr o)) :: r.map (mm_ev γ)))
      rw [had]
      refine W.alen (n := Int32.ofInt (M.2 5001 0)) hx hbb (by rw [hR.2.2.1.1 _ hll]; exact c1) c2 (by rw [e1]; rfl) rfl rfl hd ?_
      exact hX.2 H locs cells slots ls hR hlo hce hsl hL hlv (mm_okl_c (show -2147483648 ≤ M.2 5001 0 ∧ M.2 5001 0 < 2147483648 by omega) (mm_okl_t hst))
  case new i => exact mm_o_new C hrc hrs hk hw
  case newarray t => exact mm_o_newa C hrc hrs hk hw
  case anewarray i => exact mm_o_anew C hrc hrs hk hw
  case invokevirtual i => exact mm_o_invk C hmx hrc hrs hIH (Or.inl rfl) hk hw
  case invokestatic i => exact mm_o_invk C hmx hrc hrs hIH (Or.inr (Or.inl rfl)) hk hw
  case invokespecial i => exact mm_o_invk C hmx hrc hrs hIH (Or.inr (Or.inr rfl)) hk hw
  case ireturn => exact hret _ _ _ _ _ _ _ _ _ _ _ rfl hk hw
  case lreturn => exact hret _ _ _ _ _ _ _ _ _ _ _ rfl hk hw
  case areturn => exact hret _ _ _ _ _ _ _ _ _ _ _ rfl hk hw
  case return_ => exact hret _ _ _ _ _ _ _ _ _ _ _ rfl hk hw
  all_goals exact False.elim hw
end Sim
