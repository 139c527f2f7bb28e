/-! the JDK's own: a text's length and its signs -/
theorem ms_in {w : Cond} (h1 : w ∈ tables_1) (h2 : mm_good w = true) : w ∈ mm_W := List.mem_filter.mpr ⟨List.mem_append_right _ h1, h2⟩
abbrev ms_coder : MethodName := ⟨"java/lang/String", "coder", "()B"⟩
abbrev ms_latin : MethodName := ⟨"java/lang/String", "isLatin1", "()Z"⟩
abbrev ms_at1 : MethodName := ⟨"java/lang/StringLatin1", "charAt", "([BI)C"⟩
abbrev ms_chk1 : MethodName := ⟨"java/lang/String", "checkIndex", "(II)V"⟩
abbrev ms_chk2 : MethodName := ⟨"jdk/internal/util/Preconditions", "checkIndex", "(IILjava/util/function/BiFunction;)I"⟩
def ms_words : List Cond := [.fieldLink "java/lang/String" 38 "java/lang/String" "COMPACT_STRINGS" "Z", .fieldLink "java/lang/String" 1053 "jdk/internal/util/Preconditions" "SIOOBE_FORMATTER" "Ljava/util/function/BiFunction;", .fieldLink "java/lang/String" 9 "java/lang/String" "value" "[B", .fieldLink "java/lang/String" 15 "java/lang/String" "coder" "B", .methodLink "java/lang/String" 335 ms_coder, .methodLink "java/lang/String" 492 ms_latin, .methodLink "java/lang/String" 495 ms_at1, .methodLink "java/lang/StringLatin1" 9 ms_chk1, .methodLink "java/lang/String" 1059 ms_chk2, .instanceMethod ms_coder, .selects "java/lang/String" ms_coder ms_coder, .instanceMethod ms_latin, .selects "java/lang/String" ms_latin ms_latin, .static ms_at1, .static ms_chk1, .static ms_chk2, .initialized "java/lang/String", .initialized "java/lang/StringLatin1", .initialized "jdk/internal/util/Preconditions"]
theorem ms_words_ok : ms_words.all (fun w => decide (w ∈ tables_1) && mm_good w) = true := by decide +kernel
theorem ms_w (k : Nat) {w : Cond} (h : ms_words[k]? = some w) : w ∈ mm_W := by
  have := List.all_eq_true.mp ms_words_ok w (List.mem_of_getElem? h)
  rw [Bool.and_eq_true] at this
  exact ms_in (of_decide_eq_true this.1) this.2
theorem ms_c1 : Cond.code ms_coder prog_17_method_152_code 1 (some .byte) ∈ mm_W := List.mem_filter.mpr ⟨mm_sub_in (j := 3) (List.mem_of_getElem? (i := 11) rfl), rfl⟩
theorem ms_c2 : Cond.code ms_latin prog_17_method_154_code 1 (some .boolean) ∈ mm_W := List.mem_filter.mpr ⟨mm_sub_in (j := 3) (List.mem_of_getElem? (i := 21) rfl), rfl⟩
theorem ms_c3 : Cond.code ms_at1 prog_18_method_2_code 2 (some .char) ∈ mm_W := List.mem_filter.mpr ⟨mm_sub_in (j := 3) (List.mem_of_getElem? (i := 24) rfl), rfl⟩
theorem ms_c4 : Cond.code ms_chk1 prog_17_method_155_code 2 none ∈ mm_W := List.mem_filter.mpr ⟨mm_sub_in (j := 3) (List.mem_of_getElem? (i := 27) rfl), rfl⟩
theorem ms_c5 : Cond.code ms_chk2 prog_21_method_11_code 3 (some .int) ∈ mm_W := List.mem_filter.mpr ⟨mm_sub_in (j := 3) (List.mem_of_getElem? (i := 32) rfl), rfl⟩
theorem ms_d1_0 : decode prog_17_method_152_code 0 = .ok (.getstatic 38, 3) := by decide +kernel
theorem ms_d1_3 : decode prog_17_method_152_code 3 = .ok (.ifCond .eq 10, 3) := by decide +kernel
theorem ms_d1_6 : decode prog_17_method_152_code 6 = .ok (.aload_n 0, 1) := by decide +kernel
theorem ms_d1_7 : decode prog_17_method_152_code 7 = .ok (.getfield 15, 3) := by decide +kernel
theorem ms_d1_10 : decode prog_17_method_152_code 10 = .ok (.goto 4, 3) := by decide +kernel
theorem ms_d1_14 : decode prog_17_method_152_code 14 = .ok (.ireturn, 1) := by decide +kernel
theorem ms_d2_0 : decode prog_17_method_154_code 0 = .ok (.getstatic 38, 3) := by decide +kernel
theorem ms_d2_3 : decode prog_17_method_154_code 3 = .ok (.ifCond .eq 14, 3) := by decide +kernel
theorem ms_d2_6 : decode prog_17_method_154_code 6 = .ok (.aload_n 0, 1) := by decide +kernel
theorem ms_d2_7 : decode prog_17_method_154_code 7 = .ok (.getfield 15, 3) := by decide +kernel
theorem ms_d2_10 : decode prog_17_method_154_code 10 = .ok (.ifCond .ne 7, 3) := by decide +kernel
theorem ms_d2_13 : decode prog_17_method_154_code 13 = .ok (.iconst 1, 1) := by decide +kernel
theorem ms_d2_14 : decode prog_17_method_154_code 14 = .ok (.goto 4, 3) := by decide +kernel
theorem ms_d2_18 : decode prog_17_method_154_code 18 = .ok (.ireturn, 1) := by decide +kernel
theorem ms_d3_0 : decode prog_18_method_2_code 0 = .ok (.iload_n 1, 1) := by decide +kernel
theorem ms_d3_1 : decode prog_18_method_2_code 1 = .ok (.aload_n 0, 1) := by decide +kernel
theorem ms_d3_2 : decode prog_18_method_2_code 2 = .ok (.arraylength, 1) := by decide +kernel
theorem ms_d3_3 : decode prog_18_method_2_code 3 = .ok (.invokestatic 9, 3) := by decide +kernel
theorem ms_d3_6 : decode prog_18_method_2_code 6 = .ok (.aload_n 0, 1) := by decide +kernel
theorem ms_d3_7 : decode prog_18_method_2_code 7 = .ok (.iload_n 1, 1) := by decide +kernel
theorem ms_d3_8 : decode prog_18_method_2_code 8 = .ok (.baload, 1) := by decide +kernel
theorem ms_d3_9 : decode prog_18_method_2_code 9 = .ok (.sipush 255, 3) := by decide +kernel
theorem ms_d3_12 : decode prog_18_method_2_code 12 = .ok (.iand, 1) := by decide +kernel
theorem ms_d3_13 : decode prog_18_method_2_code 13 = .ok (.i2c, 1) := by decide +kernel
theorem ms_d3_14 : decode prog_18_method_2_code 14 = .ok (.ireturn, 1) := by decide +kernel
theorem ms_d4_0 : decode prog_17_method_155_code 0 = .ok (.iload_n 0, 1) := by decide +kernel
theorem ms_d4_1 : decode prog_17_method_155_code 1 = .ok (.iload_n 1, 1) := by decide +kernel
theorem ms_d4_2 : decode prog_17_method_155_code 2 = .ok (.getstatic 1053, 3) := by decide +kernel
theorem ms_d4_5 : decode prog_17_method_155_code 5 = .ok (.invokestatic 1059, 3) := by decide +kernel
theorem ms_d4_8 : decode prog_17_method_155_code 8 = .ok (.pop, 1) := by decide +kernel
theorem ms_d4_9 : decode prog_17_method_155_code 9 = .ok (.return_, 1) := by decide +kernel
theorem ms_d5_0 : decode prog_21_method_11_code 0 = .ok (.iload_n 0, 1) := by decide +kernel
theorem ms_d5_1 : decode prog_21_method_11_code 1 = .ok (.ifCond .lt 8, 3) := by decide +kernel
theorem ms_d5_4 : decode prog_21_method_11_code 4 = .ok (.iload_n 0, 1) := by decide +kernel
theorem ms_d5_5 : decode prog_21_method_11_code 5 = .ok (.iload_n 1, 1) := by decide +kernel
theorem ms_d5_6 : decode prog_21_method_11_code 6 = .ok (.if_icmp .lt 10, 3) := by decide +kernel
theorem ms_d5_16 : decode prog_21_method_11_code 16 = .ok (.iload_n 0, 1) := by decide +kernel
theorem ms_d5_17 : decode prog_21_method_11_code 17 = .ok (.ireturn, 1) := by decide +kernel
/-- a start and an end that leave the heap as it is -/
def ms_Pc (γ : mm_G) (H0 : Heap) (av : List Value) : Array Value → State → Prop := fun a U => a = av.toArray ∧ U.heap = H0 ∧ mm_KS γ U
def ms_Qc (H0 : Heap) (r : Option Value) : Array Value → State → Outcome → State → Prop := fun _ _ o t => o = .returned r ∧ t.heap = H0
abbrev ms_rm (d : Nat) : Room := { frames := d, cells := 0, slots := 0, locals := 47 * d }
def ms_Mt (l : Launch) (γ : mm_G) (H0 : Heap) (d : Nat) (y : MethodName) (b : ByteArray) (n : Nat) (ret : Option FieldType) (av : List Value) (r : Option Value) : Prop := Met l y (Cond.code y b n ret :: mm_W) (ms_rm d) (ms_Pc γ H0 av) (ms_Qc H0 r) 0 0 (fun q => γ.1.size ≤ q)
theorem ms_blind (γ : mm_G) (H0 : Heap) (av : List Value) : FrameBlind (ms_Pc γ H0 av) := fun _ U g mk h => ⟨h.1, h.2.1, h.2.2.moved (Vm.Alike.refl U.vm)⟩
/-- the texts' facts, at a heap that has the start's cells -/
theorem ms_at {γ : mm_G} {s : State} (hK : mm_KS γ s) (hH : ∀ q : Nat, q < γ.1.size → s.heap[q]? = γ.1[q]?) : vk_S 5 mm_slen mm_sbyt (fun j => γ.2.2.2 (6000 + j)) (fun j => γ.2.2.2 (7000 + j)) (fun q => γ.1.size ≤ q) s s.heap ∧ va_Z "java/lang/String" "COMPACT_STRINGS" "Z" (.int 1) (fun q => γ.1.size ≤ q) s s.heap ∧ va_Zq "jdk/internal/util/Preconditions" "SIOOBE_FORMATTER" "Ljava/util/function/BiFunction;" (fun q => γ.1.size ≤ q) s s.heap := by
  refine ⟨hK.1.kept (fun a h _ => hH a h), hK.2.1.kept (fun a h _ => hH a h), ?_⟩
  rcases hK.2.2 with h | ⟨t, h⟩
  · exact Or.inl (h.kept (fun a h _ => hH a h))
  · exact Or.inr ⟨t, h.kept (fun a h _ => hH a h)⟩
section Str
variable {p : Program} {l : Launch} {e : Env} {R : Room} {s : State} {m : MethodId} {args : Array Value} {below : List Frame} {meth : Method} {c : Code} {Q : State → Prop} {γ : mm_G}
theorem ms_back {H : Heap} {locs : List Loc} {pc : Nat} {ls : Array Slot} {st0 rest : List Value} {r : Option Value} {aa : Array Value} {cells slots : Nat} (hrun : va_Run p l e R s m args below meth c H locs cells slots 0 0 (F0 m pc ls st0) rest (ms_Qc H r aa) (fun q => γ.1.size ≤ q))
    (k : ∀ locs1 : List Loc, (∀ q ∈ locs1, q ∈ locs ∨ γ.1.size ≤ q.base) → W p l e R s m args below meth c H locs1 cells slots Q (F0 m (pc + 3) ls (r.toList ++ rest))) : W p l e R s m args below meth c H locs cells slots Q (F0 m pc ls st0) := by
  intro T hT X
  obtain ⟨vv, st₀, t, T', L, h0, X', hLf, e1, e2, ⟨hq1, hq2⟩, stp⟩ := hrun T hT X
  have hvv : vv = r := Outcome.returned.inj hq1
  subst hvv
  obtain ⟨t2, a1, b1⟩ := k (locs ++ L) (fun q hq => by
    rcases List.mem_append.mp hq with h | h
    · exact Or.inl h
    · exact Or.inr (hLf q h)) T' (by rw [e1]; exact hq2) X'
  exact ⟨t2, stp t2 a1, b1⟩
end Str
theorem ms_m5 (l : Launch) (γ : mm_G) (H0 : Heap) (d : Nat) (i n : Int32) (f : Value) (h0 : ¬ i < 0) (h1 : i < n) (hf : f = .null ∨ ∃ t : Nat, f = .ref t) : ms_Mt l γ H0 d ms_chk2 prog_21_method_11_code 3 (some .int) [.int i, .int n, f] (some (.int i)) := by
  refine Met.ofW (cc := prog_21_method_11_code) (maxL := 3) (ret := some .int) (by decide +kernel) rfl ?_
  intro p e s m args below meth c s₁ B hml hv
  obtain ⟨rfl, hH, hK⟩ := hv
  have hx := B.exec
  have hb := B.bytes
  have hr := B.returns
  have hlocks := B.notSynchronized
  rw [lg_entry_eq]
  have hsl : (lg_sl [.int i, .int n, f]).length = 3 := by rcases hf with rfl | ⟨t, rfl⟩ <;> rfl
  have hl := lv_entry ([.int i, .int n, f]) (n := 3) (by rw [hsl]; exact Nat.le_refl _)
  generalize (lg_sl ([.int i, .int n, f]) ++ List.replicate (3 - (lg_sl ([.int i, .int n, f])).length) Slot.unset).toArray = ls at hl ⊢
  refine lv_iload_n hx hb ms_d5_0 rfl (lv_at hl 0 rfl) ?_
  refine lv_if_lt (tgt := 9) hx hb ms_d5_1 (by decide) (fun q => absurd q h0) (fun _ => ?_)
  refine lv_iload_n hx hb ms_d5_4 rfl (lv_at hl 0 rfl) ?_
  refine lv_iload_n hx hb ms_d5_5 rfl (lv_at hl 1 rfl) ?_
  refine lv_icmp_lt (tgt := 16) hx hb ms_d5_6 (by decide) (fun _ => ?_) (fun q => absurd h1 q)
  refine lv_iload_n hx hb ms_d5_16 rfl (lv_at hl 0 rfl) ?_
  exact W.iret hx hb hr (fun t ht hW => ⟨rfl, by rw [ht]; exact hH⟩) (fun q hq => by cases hq) ms_d5_17
theorem ms_m4 (l : Launch) (γ : mm_G) (H0 : Heap) (hH0 : ∀ q : Nat, q < γ.1.size → H0[q]? = γ.1[q]?) (d : Nat) (i n : Int32) (h0 : ¬ i < 0) (h1 : i < n) : ms_Mt l γ H0 (d + 1) ms_chk1 prog_17_method_155_code 2 none [.int i, .int n] none := by
  refine Met.ofW (cc := prog_17_method_155_code) (maxL := 2) (ret := none) (by decide +kernel) rfl ?_
  intro p e s m args below meth c s₁ B hml hv
  obtain ⟨rfl, hH, hK⟩ := hv
  have hx := B.exec
  have hb := B.bytes
  have hr := B.returns
  have hlocks := B.notSynchronized
  have hown : s.vm.findClass "java/lang/String" = some m.cls := findClass_of_methodNamed B.named
  have hts0 := atoms_spec (ws := Cond.code ms_chk1 prog_17_method_155_code 2 none :: mm_W) B.pre
  have hts : ∀ w ∈ mm_W, w.before (#[.int i, .int n] : Array Value) s = true := fun w hw => hts0 w (List.mem_cons_of_mem _ hw)
  subst hH
  obtain ⟨-, -, hZ⟩ := ms_at hK hH0
  rw [lg_entry_eq]
  have hl := lv_entry ([.int i, .int n]) (n := 2) (Nat.le_of_ble_eq_true rfl)
  generalize (lg_sl ([.int i, .int n]) ++ List.replicate (2 - (lg_sl ([.int i, .int n])).length) Slot.unset).toArray = ls at hl ⊢
  refine lv_iload_n hx hb ms_d4_0 rfl (lv_at hl 0 rfl) ?_
  refine lv_iload_n hx hb ms_d4_1 rfl (lv_at hl 1 rfl) ?_
  have go : ∀ f : Value, (f = .null ∨ ∃ t : Nat, f = .ref t) → va_Z "jdk/internal/util/Preconditions" "SIOOBE_FORMATTER" "Ljava/util/function/BiFunction;" f (fun q => γ.1.size ≤ q) s s.heap → W p l e (headSpec (Cond.code ms_chk1 prog_17_method_155_code 2 none :: mm_W) (ms_rm (d + 1))).room s m [.int i, .int n].toArray below meth c s.heap [] 0 0 (MQ below (ms_Qc s.heap none) [.int i, .int n].toArray s 0 0 (fun q => γ.1.size ≤ q)) (F0 m (0 + 1 + 1) ls [.int n, .int i]) := by
    intro f hf hZf
    refine va_gets hx hb hZf va_S.rf hown (hts _ (ms_w 1 rfl)) (fun _ h => h) ms_d4_2 ?_
    refine ms_back (γ := γ) (r := some (.int i)) (rest := []) (va_runS (n := 3) (As := [.int i, .int n, f]) ⟨hx, hb, hml, hown, hts⟩ (ms_m5 l γ s.heap d i n f h0 h1 hf) (va_cwS 3 hts (mm_goodIn (fun w hw => by
      rcases List.mem_append.mp hw with h | h
      · simp only [List.mem_cons, List.not_mem_nil, or_false] at h
        rcases h with rfl | rfl | rfl
        · exact ms_w 8 rfl
        · exact ms_w 15 rfl
        · exact ms_w 18 rfl
      · rcases List.mem_cons.mp h with rfl | h
        · exact ms_c5
        · exact h)) rfl rfl rfl ⟨by decide, by decide, by decide +kernel⟩ ⟨Nat.le_refl _, by show 8 + (3 + 11) + 47 * d ≤ 47 * (d + 1); omega⟩) ⟨ms_blind γ _ _, fun U hU hW => ⟨rfl, hU, hK.moved hW.alike⟩⟩ rfl rfl hl.1 rfl (lv_room (Nat.le_of_ble_eq_true rfl)) ms_d4_5 ⟨Nat.le_refl _, Nat.le_refl _⟩) (fun locs1 hlo => ?_)
    refine lv_pop hx hb ms_d4_8 rfl ?_
    exact W.vret hx hb hr (fun t ht hW => ⟨rfl, ht⟩) (fun q hq => by
      rcases hlo q hq with h | h
      · cases h
      · exact h) ms_d4_9
  rcases hZ with h | ⟨t, h⟩
  · exact go _ (Or.inl rfl) h
  · exact go _ (Or.inr ⟨_, rfl⟩) h
theorem ms_m3 (l : Launch) (γ : mm_G) (H0 : Heap) (hH0 : ∀ q : Nat, q < γ.1.size → H0[q]? = γ.1[q]?) (d j : Nat) (hj : j < 5) (i : Int32) (hi : vp_in i (mm_slen.getD j 0)) : ms_Mt l γ H0 (d + 2) ms_at1 prog_18_method_2_code 2 (some .char) [.ref (γ.2.2.2 (7000 + j)), .int i] (some (.int ((((mm_sbyt.getD j []).getD i.toNatClampNeg 0 &&& 255).toUInt32 % 65536).toInt32))) := by
  refine Met.ofW (cc := prog_18_method_2_code) (maxL := 2) (ret := some .char) (by decide +kernel) rfl ?_
  intro p e s m args below meth c s₁ B hml hv
  obtain ⟨rfl, hH, hK⟩ := hv
  have hx := B.exec
  have hb := B.bytes
  have hr := B.returns
  have hlocks := B.notSynchronized
  have hown : s.vm.findClass "java/lang/StringLatin1" = some m.cls := findClass_of_methodNamed B.named
  have hts0 := atoms_spec (ws := Cond.code ms_at1 prog_18_method_2_code 2 (some .char) :: mm_W) B.pre
  have hts : ∀ w ∈ mm_W, w.before (#[.ref (γ.2.2.2 (7000 + j)), .int i] : Array Value) s = true := fun w hw => hts0 w (List.mem_cons_of_mem _ hw)
  subst hH
  obtain ⟨hS, -, -⟩ := ms_at hK hH0
  have hT := (hS.1 j hj).2.2.2
  have hlen : mm_slen.getD j 0 < 100 := by
    have : (List.range 5).all (fun i => decide (mm_slen.getD i 0 < 100)) = true := by decide
    exact of_decide_eq_true (List.all_eq_true.mp this j (List.mem_range.mpr hj))
  have h0 : ¬ i < 0 := fun q => hi (Or.inl q)
  have h1 : i < Int32.ofNat (mm_slen.getD j 0) := by
    obtain ⟨k, hk, rfl⟩ := vp_in_of hi (by omega)
    exact nI_lt hk (by omega)
  rw [lg_entry_eq]
  have hl := lv_entry ([.ref (γ.2.2.2 (7000 + j)), .int i]) (n := 2) (Nat.le_of_ble_eq_true rfl)
  generalize (lg_sl ([.ref (γ.2.2.2 (7000 + j)), .int i]) ++ List.replicate (2 - (lg_sl ([.ref (γ.2.2.2 (7000 + j)), .int i])).length) Slot.unset).toArray = ls at hl ⊢
  refine lv_iload_n hx hb ms_d3_0 rfl (lv_at hl 1 rfl) ?_
  refine lv_aload_n hx hb ms_d3_1 rfl (lv_at hl 0 rfl) ?_
  refine va_tlen hx hb hT va_S.rf rfl ms_d3_2 ?_
  refine ms_back (γ := γ) (r := none) (rest := []) (va_runS (n := 2) (As := [.int i, .int (Int32.ofNat (mm_slen.getD j 0))]) ⟨hx, hb, hml, hown, hts⟩ (ms_m4 l γ s.heap hH0 d i _ h0 h1) (va_cwS 2 hts (mm_goodIn (fun w hw => by
      rcases List.mem_append.mp hw with h | h
      · simp only [List.mem_cons, List.not_mem_nil, or_false] at h
        rcases h with rfl | rfl | rfl
        · exact ms_w 7 rfl
        · exact ms_w 14 rfl
        · exact ms_w 16 rfl
      · rcases List.mem_cons.mp h with rfl | h
        · exact ms_c4
        · exact h)) rfl rfl rfl ⟨by decide, by decide, by decide +kernel⟩ ⟨Nat.le_refl _, by show 8 + (2 + 11) + 47 * (d + 1) ≤ 47 * (d + 2); omega⟩) ⟨ms_blind γ _ _, fun U hU hW => ⟨rfl, hU, hK.moved hW.alike⟩⟩ rfl rfl hl.1 rfl (lv_room (Nat.le_of_ble_eq_true rfl)) ms_d3_3 ⟨Nat.le_refl _, Nat.le_refl _⟩) (fun locs1 hlo => ?_)
  refine lv_aload_n hx hb ms_d3_6 rfl (lv_at hl 0 rfl) ?_
  refine lv_iload_n hx hb ms_d3_7 rfl (lv_at hl 1 rfl) ?_
  refine va_tb (v := .int ((mm_sbyt.getD j []).getD i.toNatClampNeg 0)) hx hb hT ⟨Nat.le_refl _, fun _ _ _ => rfl, fun q hq => by
      rcases hlo q hq with h | h
      · cases h
      · exact h⟩ hi rfl ms_d3_8 ?_
  refine lv_sipush (v := 255) hx hb ms_d3_9 (by decide) ?_
  refine lv_iand hx hb ms_d3_12 ?_
  refine lv_i2c hx hb ms_d3_13 rfl ?_
  exact W.zret (ty := .char) hx hb hr (pk_nc _) (fun t ht hW => ⟨rfl, ht⟩) (fun q hq => by
      rcases hlo q hq with h | h
      · cases h
      · exact h) ms_d3_14
theorem ms_m1 (l : Launch) (γ : mm_G) (H0 : Heap) (hH0 : ∀ q : Nat, q < γ.1.size → H0[q]? = γ.1[q]?) (d j : Nat) (hj : j < 5) : ms_Mt l γ H0 d ms_coder prog_17_method_152_code 1 (some .byte) [.ref (γ.2.2.2 (6000 + j))] (some (.int 0)) := by
  refine Met.ofW (cc := prog_17_method_152_code) (maxL := 1) (ret := some .byte) (by decide +kernel) rfl ?_
  intro p e s m args below meth c s₁ B hml hv
  obtain ⟨rfl, hH, hK⟩ := hv
  have hx := B.exec
  have hb := B.bytes
  have hr := B.returns
  have hlocks := B.notSynchronized
  have hown : s.vm.findClass "java/lang/String" = some m.cls := findClass_of_methodNamed B.named
  have hts0 := atoms_spec (ws := Cond.code ms_coder prog_17_method_152_code 1 (some .byte) :: mm_W) B.pre
  have hts : ∀ w ∈ mm_W, w.before (#[.ref (γ.2.2.2 (6000 + j))] : Array Value) s = true := fun w hw => hts0 w (List.mem_cons_of_mem _ hw)
  subst hH
  obtain ⟨hS, hZ, -⟩ := ms_at hK hH0
  rw [lg_entry_eq]
  have hl := lv_entry ([.ref (γ.2.2.2 (6000 + j))]) (n := 1) (Nat.le_of_ble_eq_true rfl)
  generalize (lg_sl ([.ref (γ.2.2.2 (6000 + j))]) ++ List.replicate (1 - (lg_sl ([.ref (γ.2.2.2 (6000 + j))])).length) Slot.unset).toArray = ls at hl ⊢
  refine va_gets hx hb hZ va_S.rf hown (hts _ (ms_w 0 rfl)) (fun _ h => h) ms_d1_0 ?_
  refine lv_if_eq (tgt := 13) hx hb ms_d1_3 (by decide) (fun q => absurd q (by decide)) (fun _ => ?_)
  refine lv_aload_n hx hb ms_d1_6 rfl (lv_at hl 0 rfl) ?_
  refine vk_getf hx hb (hS.1 j hj).2.1 va_S.rf hown (hts _ (ms_w 3 rfl)) (fun _ h => h) ms_d1_7 ?_
  refine lv_goto (tgt := 14) hx hb ms_d1_10 (by decide) ?_
  exact W.zret (ty := .byte) hx hb hr rfl (fun t ht hW => ⟨rfl, ht⟩) (fun q hq => by cases hq) ms_d1_14
theorem ms_m2 (l : Launch) (γ : mm_G) (H0 : Heap) (hH0 : ∀ q : Nat, q < γ.1.size → H0[q]? = γ.1[q]?) (d j : Nat) (hj : j < 5) : ms_Mt l γ H0 d ms_latin prog_17_method_154_code 1 (some .boolean) [.ref (γ.2.2.2 (6000 + j))] (some (.int 1)) := by
  refine Met.ofW (cc := prog_17_method_154_code) (maxL := 1) (ret := some .boolean) (by decide +kernel) rfl ?_
  intro p e s m args below meth c s₁ B hml hv
  obtain ⟨rfl, hH, hK⟩ := hv
  have hx := B.exec
  have hb := B.bytes
  have hr := B.returns
  have hlocks := B.notSynchronized
  have hown : s.vm.findClass "java/lang/String" = some m.cls := findClass_of_methodNamed B.named
  have hts0 := atoms_spec (ws := Cond.code ms_latin prog_17_method_154_code 1 (some .boolean) :: mm_W) B.pre
  have hts : ∀ w ∈ mm_W, w.before (#[.ref (γ.2.2.2 (6000 + j))] : Array Value) s = true := fun w hw => hts0 w (List.mem_cons_of_mem _ hw)
  subst hH
  obtain ⟨hS, hZ, -⟩ := ms_at hK hH0
  rw [lg_entry_eq]
  have hl := lv_entry ([.ref (γ.2.2.2 (6000 + j))]) (n := 1) (Nat.le_of_ble_eq_true rfl)
  generalize (lg_sl ([.ref (γ.2.2.2 (6000 + j))]) ++ List.replicate (1 - (lg_sl ([.ref (γ.2.2.2 (6000 + j))])).length) Slot.unset).toArray = ls at hl ⊢
  refine va_gets hx hb hZ va_S.rf hown (hts _ (ms_w 0 rfl)) (fun _ h => h) ms_d2_0 ?_
  refine lv_if_eq (tgt := 17) hx hb ms_d2_3 (by decide) (fun q => absurd q (by decide)) (fun _ => ?_)
  refine lv_aload_n hx hb ms_d2_6 rfl (lv_at hl 0 rfl) ?_
  refine vk_getf hx hb (hS.1 j hj).2.1 va_S.rf hown (hts _ (ms_w 3 rfl)) (fun _ h => h) ms_d2_7 ?_
  refine lv_if_ne (tgt := 17) hx hb ms_d2_10 (by decide) (fun q => absurd rfl q) (fun _ => ?_)
  refine lv_iconst (v := 1) hx hb ms_d2_13 (by decide) ?_
  refine lv_goto (tgt := 18) hx hb ms_d2_14 (by decide) ?_
  exact W.zret (ty := .boolean) hx hb hr rfl (fun t ht hW => ⟨rfl, ht⟩) (fun q hq => by cases hq) ms_d2_18
theorem ms_d6_0 : decode prog_17_method_54_code 0 = .ok (.aload_n 0, 1) := by decide +kernel
theorem ms_d6_1 : decode prog_17_method_54_code 1 = .ok (.getfield 9, 3) := by decide +kernel
theorem ms_d6_4 : decode prog_17_method_54_code 4 = .ok (.arraylength, 1) := by decide +kernel
theorem ms_d6_5 : decode prog_17_method_54_code 5 = .ok (.aload_n 0, 1) := by decide +kernel
theorem ms_d6_6 : decode prog_17_method_54_code 6 = .ok (.invokevirtual 335, 3) := by decide +kernel
theorem ms_d6_9 : decode prog_17_method_54_code 9 = .ok (.ishr, 1) := by decide +kernel
theorem ms_d6_10 : decode prog_17_method_54_code 10 = .ok (.ireturn, 1) := by decide +kernel
theorem ms_d7_0 : decode prog_17_method_56_code 0 = .ok (.aload_n 0, 1) := by decide +kernel
theorem ms_d7_1 : decode prog_17_method_56_code 1 = .ok (.invokevirtual 492, 3) := by decide +kernel
theorem ms_d7_4 : decode prog_17_method_56_code 4 = .ok (.ifCond .eq 12, 3) := by decide +kernel
theorem ms_d7_7 : decode prog_17_method_56_code 7 = .ok (.aload_n 0, 1) := by decide +kernel
theorem ms_d7_8 : decode prog_17_method_56_code 8 = .ok (.getfield 9, 3) := by decide +kernel
theorem ms_d7_11 : decode prog_17_method_56_code 11 = .ok (.iload_n 1, 1) := by decide +kernel
theorem ms_d7_12 : decode prog_17_method_56_code 12 = .ok (.invokestatic 495, 3) := by decide +kernel
theorem ms_d7_15 : decode prog_17_method_56_code 15 = .ok (.ireturn, 1) := by decide +kernel
theorem ms_308 : mm_word 308 = Cond.code ⟨"java/lang/String", "length", "()I"⟩ prog_17_method_54_code 1 (some .int) := rfl
theorem ms_309 : mm_word 309 = Cond.code ⟨"java/lang/String", "charAt", "(I)C"⟩ prog_17_method_56_code 2 (some .char) := rfl
theorem ms_lens : (List.range 5).all (fun j => (((mm_strs.getD j []).length == mm_slen.getD j 0) && decide (mm_slen.getD j 0 < 100)) && (List.range (mm_slen.getD j 0)).all (fun k => decide (((((mm_sbyt.getD j []).getD k 0 &&& 255).toUInt32 % 65536).toInt32) = Int32.ofInt ((mm_strs.getD j []).getD k 0) ∧ 0 ≤ (mm_strs.getD j []).getD k 0 ∧ (mm_strs.getD j []).getD k 0 < 256))) = true := by decide +kernel
theorem ms_recv {γ : mm_G} {s : State} {j : Nat} (hj : j < 5) (hS : vk_S 5 mm_slen mm_sbyt (fun j => γ.2.2.2 (6000 + j)) (fun j => γ.2.2.2 (7000 + j)) (fun q => γ.1.size ≤ q) s s.heap) : ∃ cell : Cell, s.heap[γ.2.2.2 (6000 + j)]? = some cell ∧ cell.vm.isStatics = false ∧ s.vm.findClass "java/lang/String" = some cell.cls := by
  obtain ⟨cell, h1, h2, h3, -⟩ := (hS.1 j hj).1
  exact ⟨cell, h1, h2, h3⟩
/-- the two contracts that the small machine takes as given -/
theorem mm_hstr (l : Launch) (γ : mm_G) (d a : Nat) (as : List mm_V) (M : mm_M) (v : Option mm_V) (M1 : mm_M) (hd : 5 ≤ d) (ha : 308 ≤ a) (ha2 : a < 310) (hok : mm_okl M.1 as) (h : mm_str a as M (fun x y => x = v ∧ y = M1)) : mm_Mt l γ (d + 1) a as M v M1 := by
  have hcase : a = 308 ∨ a = 309 := by omega
  rcases hcase with rfl | rfl
  · rcases as with _ | ⟨o | o | o, _ | ⟨o2, r⟩⟩ <;> first | exact False.elim h | skip
    obtain ⟨h1, h2, rfl, rfl⟩ := (h : 6000 ≤ o ∧ o < 6005 ∧ (some (Sum.inl ((mm_strs.getD (o - 6000) []).length : Int)) : Option mm_V) = v ∧ M = M1)
    obtain ⟨j, hj, rfl⟩ : ∃ j, j < 5 ∧ o = 6000 + j := ⟨o - 6000, by omega, by omega⟩
    have hlen := List.all_eq_true.mp ms_lens j (List.mem_range.mpr hj)
    simp only [Bool.and_eq_true, beq_iff_eq, decide_eq_true_eq] at hlen
    obtain ⟨⟨e1, e2⟩, -⟩ := hlen
    have e3 : 6000 + j - 6000 = j := by omega
    rw [e3, e1]
    have had : mm_ev γ (.inr (.inr (6000 + j))) = .ref (γ.2.2.2 (6000 + j)) := by
      rw [mm_ref (by omega)]
      unfold mm_ad
      rw [if_neg (by omega)]
    refine ⟨Nat.le_refl _, ?_⟩
    show Met l ⟨"java/lang/String", "length", "()I"⟩ (Cond.code ⟨"java/lang/String", "length", "()I"⟩ prog_17_method_54_code 1 (some .int) :: mm_W) { frames := d + 1, cells := M.1 - M.1, slots := mm_ss M.1 - mm_ss M.1, locals := 47 * (d + 1) } (mm_Pc γ [.inr (.inr (6000 + j))] M) (mm_Qc γ (some (.inl (mm_slen.getD j 0 : Int))) M) (M.1 - M.1) (mm_ss M.1 - mm_ss M.1) (fun q => γ.1.size ≤ q)
    rw [Nat.sub_self, Nat.sub_self]
    refine Met.ofW (cc := prog_17_method_54_code) (maxL := 1) (ret := some .int) (by decide +kernel) rfl ?_
    intro p e s m args below meth c s₁ B hml hv
    obtain ⟨rfl, hRel, hKn⟩ := hv
    have hx := B.exec
    have hb := B.bytes
    have hr := B.returns
    have hlocks := B.notSynchronized
    have hown : s.vm.findClass "java/lang/String" = some m.cls := findClass_of_methodNamed B.named
    have hts0 := atoms_spec (ws := Cond.code ⟨"java/lang/String", "length", "()I"⟩ prog_17_method_54_code 1 (some .int) :: mm_W) B.pre
    have hts : ∀ w ∈ mm_W, w.before (([.inr (.inr (6000 + j))] : List mm_V).map (mm_ev γ)).toArray s = true := fun w hw => hts0 w (List.mem_cons_of_mem _ hw)
    have hav : (([.inr (.inr (6000 + j))] : List mm_V).map (mm_ev γ)) = [.ref (γ.2.2.2 (6000 + j))] := by
      show [mm_ev γ (.inr (.inr (6000 + j)))] = _
      rw [had]
    obtain ⟨hS, -, -⟩ := ms_at hKn.2.2.2.2.2 hRel.2.2.1.1
    rw [lg_entry_eq]
    have hl := lv_entry (([.inr (.inr (6000 + j))] : List mm_V).map (mm_ev γ)) (n := 1) (by rw [hav]; exact Nat.le_of_ble_eq_true rfl)
    generalize (lg_sl (([.inr (.inr (6000 + j))] : List mm_V).map (mm_ev γ)) ++ List.replicate (1 - (lg_sl (([.inr (.inr (6000 + j))] : List mm_V).map (mm_ev γ))).length) Slot.unset).toArray = ls at hl ⊢
    rw [hav] at hl
    refine lv_aload_n hx hb ms_d6_0 rfl (lv_at hl 0 rfl) ?_
    refine vk_getf hx hb (hS.1 j hj).2.2.1 va_S.rf hown (hts _ (ms_w 2 rfl)) (fun _ h => h) ms_d6_1 ?_
    refine va_tlen hx hb (hS.1 j hj).2.2.2 va_S.rf rfl ms_d6_4 ?_
    refine lv_aload_n hx hb ms_d6_5 rfl (lv_at hl 0 rfl) ?_
    refine ms_back (γ := γ) (r := some (.int 0)) (rest := [.int (Int32.ofNat (mm_slen.getD j 0))]) (va_runV (C := "java/lang/String") (n := 0) (As := []) ⟨hx, hb, hml, hown, hts⟩ (ms_m1 l γ s.heap hRel.2.2.1.1 d j hj) (cwV 0 hts (mm_goodIn (fun w hw => by
      rcases List.mem_append.mp hw with h | h
      · simp only [List.mem_cons, List.not_mem_nil, or_false] at h
        rcases h with rfl | rfl | rfl | rfl
        · exact ms_w 4 rfl
        · exact ms_w 9 rfl
        · exact ms_w 10 rfl
        · exact ms_w 16 rfl
      · rcases List.mem_cons.mp h with rfl | h
        · exact ms_c1
        · exact h)) rfl rfl rfl ⟨rfl, by decide, by decide, by decide +kernel⟩ ⟨Nat.le_refl _, by show 8 + (1 + 11) + 47 * d ≤ 47 * (d + 1); omega⟩) ⟨ms_blind γ _ _, ms_recv hj hS, fun U hU hW => ⟨rfl, hU, hKn.2.2.2.2.2.moved hW.alike⟩⟩ rfl rfl hl.1 rfl (lv_room (Nat.le_of_ble_eq_true rfl)) ms_d6_6 ⟨Nat.le_refl _, Nat.le_refl _⟩) (fun locs1 hlo => ?_)
    refine lv_ishr hx hb ms_d6_9 ?_
    rw [sb_shr0]
    exact W.iret hx hb hr (fun t ht hW => ⟨rfl, by rw [ht]; exact hRel, fun u hu => by
      cases hu
      show -2147483648 ≤ (mm_slen.getD j 0 : Int) ∧ (mm_slen.getD j 0 : Int) < 2147483648
      omega⟩) (fun q hq => by
      rcases hlo q hq with h | h
      · cases h
      · exact h) ms_d6_10
  · rcases as with _ | ⟨o | o | o, _ | ⟨i | i | i, _ | ⟨o2, r⟩⟩⟩ <;> first | exact False.elim h | skip
    obtain ⟨h1, h2, h3, h4, rfl, rfl⟩ := (h : 6000 ≤ o ∧ o < 6005 ∧ 0 ≤ i ∧ i < ((mm_strs.getD (o - 6000) []).length : Int) ∧ (some (Sum.inl ((mm_strs.getD (o - 6000) []).getD i.toNat 0)) : Option mm_V) = v ∧ M = M1)
    obtain ⟨j, hj, rfl⟩ : ∃ j, j < 5 ∧ o = 6000 + j := ⟨o - 6000, by omega, by omega⟩
    have hlen := List.all_eq_true.mp ms_lens j (List.mem_range.mpr hj)
    simp only [Bool.and_eq_true, beq_iff_eq, decide_eq_true_eq] at hlen
    obtain ⟨⟨e1, e2⟩, e5⟩ := hlen
    have e3 : 6000 + j - 6000 = j := by omega
    rw [e3] at h4 ⊢
    rw [e1] at h4
    have e6 := of_decide_eq_true (List.all_eq_true.mp e5 i.toNat (List.mem_range.mpr (by omega)))
    obtain ⟨e6, e7, e8⟩ := e6
    have had : mm_ev γ (.inr (.inr (6000 + j))) = .ref (γ.2.2.2 (6000 + j)) := by
      rw [mm_ref (by omega)]
      unfold mm_ad
      rw [if_neg (by omega)]
    have hir : -2147483648 ≤ i ∧ i < 2147483648 := by omega
    refine ⟨Nat.le_refl _, ?_⟩
    show Met l ⟨"java/lang/String", "charAt", "(I)C"⟩ (Cond.code ⟨"java/lang/String", "charAt", "(I)C"⟩ prog_17_method_56_code 2 (some .char) :: mm_W) { frames := d + 1, cells := M.1 - M.1, slots := mm_ss M.1 - mm_ss M.1, locals := 47 * (d + 1) } (mm_Pc γ [.inr (.inr (6000 + j)), .inl i] M) (mm_Qc γ (some (.inl ((mm_strs.getD j []).getD i.toNat 0))) M) (M.1 - M.1) (mm_ss M.1 - mm_ss M.1) (fun q => γ.1.size ≤ q)
    rw [Nat.sub_self, Nat.sub_self]
    refine Met.ofW (cc := prog_17_method_56_code) (maxL := 2) (ret := some .char) (by decide +kernel) rfl ?_
    intro p e s m args below meth c s₁ B hml hv
    obtain ⟨rfl, hRel, hKn⟩ := hv
    have hx := B.exec
    have hb := B.bytes
    have hr := B.returns
    have hlocks := B.notSynchronized
    have hown : s.vm.findClass "java/lang/String" = some m.cls := findClass_of_methodNamed B.named
    have hts0 := atoms_spec (ws := Cond.code ⟨"java/lang/String", "charAt", "(I)C"⟩ prog_17_method_56_code 2 (some .char) :: mm_W) B.pre
    have hts : ∀ w ∈ mm_W, w.before (([.inr (.inr (6000 + j)), .inl i] : List mm_V).map (mm_ev γ)).toArray s = true := fun w hw => hts0 w (List.mem_cons_of_mem _ hw)
    have hav : (([.inr (.inr (6000 + j)), .inl i] : List mm_V).map (mm_ev γ)) = [.ref (γ.2.2.2 (6000 + j)), .int (Int32.ofInt i)] := by
      show [mm_ev γ (.inr (.inr (6000 + j))), .int (Int32.ofInt i)] = _
      rw [had]
    obtain ⟨hS, -, -⟩ := ms_at hKn.2.2.2.2.2 hRel.2.2.1.1
    rw [lg_entry_eq]
    have hl := lv_entry (([.inr (.inr (6000 + j)), .inl i] : List mm_V).map (mm_ev γ)) (n := 2) (by rw [hav]; exact Nat.le_of_ble_eq_true rfl)
    generalize (lg_sl (([.inr (.inr (6000 + j)), .inl i] : List mm_V).map (mm_ev γ)) ++ List.replicate (2 - (lg_sl (([.inr (.inr (6000 + j)), .inl i] : List mm_V).map (mm_ev γ))).length) Slot.unset).toArray = ls at hl ⊢
    rw [hav] at hl
    obtain ⟨d2, rfl⟩ : ∃ d2, d = d2 + 2 := ⟨d - 2, by omega⟩
    refine lv_aload_n hx hb ms_d7_0 rfl (lv_at hl 0 rfl) ?_
    refine ms_back (γ := γ) (r := some (.int 1)) (rest := []) (va_runV (C := "java/lang/String") (n := 0) (As := []) ⟨hx, hb, hml, hown, hts⟩ (ms_m2 l γ s.heap hRel.2.2.1.1 (d2 + 2) j hj) (cwV 0 hts (mm_goodIn (fun w hw => by
      rcases List.mem_append.mp hw with h | h
      · simp only [List.mem_cons, List.not_mem_nil, or_false] at h
        rcases h with rfl | rfl | rfl | rfl
        · exact ms_w 5 rfl
        · exact ms_w 11 rfl
        · exact ms_w 12 rfl
        · exact ms_w 16 rfl
      · rcases List.mem_cons.mp h with rfl | h
        · exact ms_c2
        · exact h)) rfl rfl rfl ⟨rfl, by decide, by decide, by decide +kernel⟩ ⟨Nat.le_refl _, by show 8 + (1 + 11) + 47 * (d2 + 2) ≤ 47 * (d2 + 2 + 1); omega⟩) ⟨ms_blind γ _ _, ms_recv hj hS, fun U hU hW => ⟨rfl, hU, hKn.2.2.2.2.2.moved hW.alike⟩⟩ rfl rfl hl.1 rfl (lv_room (Nat.le_of_ble_eq_true rfl)) ms_d7_1 ⟨Nat.le_refl _, Nat.le_refl _⟩) (fun locs1 hlo => ?_)
    have hlo1 : ∀ q ∈ locs1, γ.1.size ≤ q.base := fun q hq => by
      rcases hlo q hq with h | h
      · cases h
      · exact h
    refine lv_if_eq (tgt := 16) hx hb ms_d7_4 (by decide) (fun q => absurd q (by decide)) (fun _ => ?_)
    refine lv_aload_n hx hb ms_d7_7 rfl (lv_at hl 0 rfl) ?_
    refine vk_getf hx hb (hS.1 j hj).2.2.1 ⟨Nat.le_refl _, fun _ _ _ => rfl, hlo1⟩ hown (hts _ (ms_w 2 rfl)) (fun _ h => h) ms_d7_8 ?_
    refine lv_iload_n hx hb ms_d7_11 rfl (lv_at hl 1 rfl) ?_
    refine ms_back (γ := γ) (r := some (.int ((((mm_sbyt.getD j []).getD (Int32.ofInt i).toNatClampNeg 0 &&& 255).toUInt32 % 65536).toInt32))) (rest := []) (va_runS (n := 2) (As := [.ref (γ.2.2.2 (7000 + j)), .int (Int32.ofInt i)]) ⟨hx, hb, hml, hown, hts⟩ (ms_m3 l γ s.heap hRel.2.2.1.1 d2 j hj (Int32.ofInt i) (mm_vin hir h3 h4)) (va_cwS 2 hts (mm_goodIn (fun w hw => by
      rcases List.mem_append.mp hw with h | h
      · simp only [List.mem_cons, List.not_mem_nil, or_false] at h
        rcases h with rfl | rfl | rfl
        · exact ms_w 6 rfl
        · exact ms_w 13 rfl
        · exact ms_w 17 rfl
      · rcases List.mem_cons.mp h with rfl | h
        · exact ms_c3
        · exact h)) rfl rfl rfl ⟨by decide, by decide, by decide +kernel⟩ ⟨Nat.le_refl _, by show 8 + (2 + 11) + 47 * (d2 + 2) ≤ 47 * (d2 + 2 + 1); omega⟩) ⟨ms_blind γ _ _, fun U hU hW => ⟨rfl, hU, hKn.2.2.2.2.2.moved hW.alike⟩⟩ rfl rfl hl.1 rfl (lv_room (Nat.le_of_ble_eq_true rfl)) ms_d7_12 ⟨Nat.le_refl _, Nat.le_refl _⟩) (fun locs2 hlo2 => ?_)
    rw [mm_clI hir, e6]
    exact W.zret (ty := .char) hx hb hr (by rw [← e6]; exact pk_nc _) (fun t ht hW => ⟨rfl, by rw [ht]; exact hRel, fun u hu => by
      cases hu
      show -2147483648 ≤ (mm_strs.getD j []).getD i.toNat 0 ∧ (mm_strs.getD j []).getD i.toNat 0 < 2147483648
      omega⟩) (fun q hq => by
      rcases hlo2 q hq with h | h
      · exact hlo1 q h
      · exact h) ms_d7_15
