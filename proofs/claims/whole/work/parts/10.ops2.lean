/-! branches and heap -/
section Ops2
variable {p : Program} {l : Launch} {e : Env} {R : Room} {s : State} {m : MethodId} {args : Array Value} {below : List Frame} {meth : Method} {c : Code} {Q : State → Prop} {γ : mm_G} {y d n0 : Nat} {Mf : mm_M} {call : mm_K} {Rf : mm_P}
variable {pc len w a b z : Nat} {v : Int} {lv : mm_L} {st : List mm_V} {M : mm_M}
theorem mm_toE {pc : Nat} {off : Int} (h : mm_to_ok pc off = true) : (pc : Int) + off = ((mm_to pc off : Nat) : Int) := by
  have := of_decide_eq_true h
  unfold mm_to
  omega
theorem mm_o_br {Cp : Prop} {n2 : Nat} {c1 c2 : Nat} {r : List mm_V} {sv : List Value} (hn : ∀ n : Nat, mm_okl n st → mm_okl n r)
    (row : ∀ (H : Heap) (locs : List Loc) (cells slots : Nat) (ls : Array Slot), mm_okl M.1 st → (Cp → W p l e R s m args below meth c H locs cells slots Q (F0 m c1 ls (r.map (mm_ev γ)))) → (¬ Cp → W p l e R s m args below meth c H locs cells slots Q (F0 m c2 ls (r.map (mm_ev γ)))) → W p l e R s m args below meth c H locs cells slots Q (F0 m pc ls (st.map (mm_ev γ))))
    (h1 : Cp → mm_X p l e R s m args below meth c Q γ y n0 Mf (c1, lv, r, M)) (h2 : ¬ Cp → mm_X p l e R s m args below meth c Q γ y n0 Mf (c2, lv, r, M)) : mm_X p l e R s m args below meth c Q γ y n0 Mf (pc, lv, st, M) := by
  refine ⟨?_, fun H locs cells slots ls hR hlo hce hsl hL hlv hst => ?_⟩
  · by_cases q : Cp
    · exact (h1 q).1
    · exact (h2 q).1
  · exact row _ _ _ _ _ hst (fun q => (h1 q).2 H locs cells slots ls hR hlo hce hsl hL hlv (hn _ hst)) (fun q => (h2 q).2 H locs cells slots ls hR hlo hce hsl hL hlv (hn _ hst))
theorem mm_o_if {cc : Jvm.ClassFile.Cond} {off : Int} (C : mm_Ctx p R s m args meth c γ y d) (hk : mm_chk y (pc, .ifCond cc off, len, w, a, b, z, v) = true)
    (hw : mm_wq call Rf (mm_X p l e R s m args below meth c Q γ y n0 Mf) M (mm_do (pc, .ifCond cc off, len, w, a, b, z, v) lv st M)) : mm_X p l e R s m args below meth c Q γ y n0 Mf (pc, lv, st, M) := by
  obtain ⟨hd, hl, hi⟩ := mm_chk_d hk
  have hlen : len = 3 := by simpa [mm_ln] using hl
  subst hlen
  have ht := mm_toE (show mm_to_ok pc off = true from hi)
  rcases st with _ | ⟨x1 | x1 | x1, r⟩
  all_goals first
    | exact False.elim hw
    | skip
  refine mm_o_br (Cp := mm_cc cc x1 0) (r := r) (n2 := 0) (sv := []) (fun _ h => mm_okl_t h) (fun H locs cells slots ls hst kt kf => ?_) hw.1 hw.2
  have hx : -2147483648 ≤ x1 ∧ x1 < 2147483648 := mm_okl_h hst
  have e0 := mm_eqI hx (y := 0) (by omega)
  have e1 := mm_ltI hx (y := 0) (by omega)
  have e2 := mm_leI hx (y := 0) (by omega)
  have e3 := mm_ltI (x := 0) (by omega) hx
  have e4 := mm_leI (x := 0) (by omega) hx
  cases cc
  · exact lv_if_eq C.1 C.2.1 hd ht (fun q => kt (e0.mp q)) (fun q => kf (fun z => q (e0.mpr z)))
  · exact lv_if_ne C.1 C.2.1 hd ht (fun q => kt (fun z => q (e0.mpr z))) (fun q => kf (fun z => z (e0.mp q)))
  · exact lv_if_lt C.1 C.2.1 hd ht (fun q => kt (e1.mp q)) (fun q => kf (fun z => q (e1.mpr z)))
  · exact lv_if_ge C.1 C.2.1 hd ht (fun q => kt (e4.mp q)) (fun q => kf (fun z => q (e4.mpr z)))
  · exact lv_if_gt C.1 C.2.1 hd ht (fun q => kt (e3.mp q)) (fun q => kf (fun z => q (e3.mpr z)))
  · exact lv_if_le C.1 C.2.1 hd ht (fun q => kt (e2.mp q)) (fun q => kf (fun z => q (e2.mpr z)))
theorem mm_o_icmp {cc : Jvm.ClassFile.Cond} {off : Int} (C : mm_Ctx p R s m args meth c γ y d) (hk : mm_chk y (pc, .if_icmp cc off, len, w, a, b, z, v) = true)
    (hw : mm_wq call Rf (mm_X p l e R s m args below meth c Q γ y n0 Mf) M (mm_do (pc, .if_icmp cc off, len, w, a, b, z, v) lv st M)) : mm_X p l e R s m args below meth c Q γ y n0 Mf (pc, lv, st, M) := by
  obtain ⟨hd, hl, hi⟩ := mm_chk_d hk
  have hlen : len = 3 := by simpa [mm_ln] using hl
  subst hlen
  have ht := mm_toE (show mm_to_ok pc off = true from hi)
  rcases st with _ | ⟨y1 | y1 | y1, _ | ⟨x1 | x1 | x1, r⟩⟩
  all_goals first
    | exact False.elim hw
    | skip
  refine mm_o_br (Cp := mm_cc cc x1 y1) (r := r) (n2 := 0) (sv := []) (fun _ h => mm_okl_t (mm_okl_t h)) (fun H locs cells slots ls hst kt kf => ?_) hw.1 hw.2
  have hy : -2147483648 ≤ y1 ∧ y1 < 2147483648 := mm_okl_h hst
  have hx : -2147483648 ≤ x1 ∧ x1 < 2147483648 := mm_okl_h (mm_okl_t hst)
  have e0 := mm_eqI hx hy
  have e1 := mm_ltI hx hy
  have e2 := mm_leI hx hy
  have e3 := mm_ltI hy hx
  have e4 := mm_leI hy hx
  cases cc
  · exact lv_icmp_eq C.1 C.2.1 hd ht (fun q => kt (e0.mp q)) (fun q => kf (fun z => q (e0.mpr z)))
  · exact lv_icmp_ne C.1 C.2.1 hd ht (fun q => kt (fun z => q (e0.mpr z))) (fun q => kf (fun z => z (e0.mp q)))
  · exact lv_icmp_lt C.1 C.2.1 hd ht (fun q => kt (e1.mp q)) (fun q => kf (fun z => q (e1.mpr z)))
  · exact lv_icmp_ge C.1 C.2.1 hd ht (fun q => kt (e4.mp q)) (fun q => kf (fun z => q (e4.mpr z)))
  · exact lv_icmp_gt C.1 C.2.1 hd ht (fun q => kt (e3.mp q)) (fun q => kf (fun z => q (e3.mpr z)))
  · exact lv_icmp_le C.1 C.2.1 hd ht (fun q => kt (e2.mp q)) (fun q => kf (fun z => q (e2.mpr z)))
theorem mm_o_null {off : Int} {nn : Bool} (C : mm_Ctx p R s m args meth c γ y d) (hd : decode (mm_b y) pc = .ok (if nn then .ifnonnull off else .ifnull off, 3)) (ht : (pc : Int) + off = ((mm_to pc off : Nat) : Int)) {k : Nat} {r : List mm_V}
    (h1 : (if nn then k ≠ 0 else k = 0) → mm_X p l e R s m args below meth c Q γ y n0 Mf (mm_to pc off, lv, r, M)) (h2 : ¬ (if nn then k ≠ 0 else k = 0) → mm_X p l e R s m args below meth c Q γ y n0 Mf (pc + 3, lv, r, M)) : mm_X p l e R s m args below meth c Q γ y n0 Mf (pc, lv, .inr (.inr k) :: r, M) := by
  refine mm_o_br (Cp := if nn then k ≠ 0 else k = 0) (r := r) (n2 := 0) (sv := []) (fun _ h => mm_okl_t h) (fun H locs cells slots ls hst kt kf => ?_) h1 h2
  show W p l e R s m args below meth c H locs cells slots Q (F0 m pc ls ((if k = 0 then Value.null else Value.ref (mm_ad γ k)) :: r.map (mm_ev γ)))
  cases nn
  · by_cases q : k = 0
    · rw [if_pos q]; exact lv_ifnullN C.1 C.2.1 hd ht (kt (by simpa using q))
    · rw [if_neg q]; exact lv_ifnull C.1 C.2.1 hd (kf (by simpa using q))
  · by_cases q : k = 0
    · rw [if_pos q]; exact lv_ifnonnullN C.1 C.2.1 hd (kf (by simpa using q))
    · rw [if_neg q]; exact lv_ifnonnull C.1 C.2.1 hd ht (kt (by simpa using q))
theorem mm_o_table {dd lo hi : Int} {offs : Array Int} (C : mm_Ctx p R s m args meth c γ y d) (hk : mm_chk y (pc, .tableswitch dd lo hi offs, len, w, a, b, z, v) = true)
    (hw : mm_wq call Rf (mm_X p l e R s m args below meth c Q γ y n0 Mf) M (mm_do (pc, .tableswitch dd lo hi offs, len, w, a, b, z, v) lv st M)) : mm_X p l e R s m args below meth c Q γ y n0 Mf (pc, lv, st, M) := by
  obtain ⟨hd, hl, hi2⟩ := mm_chk_d hk
  have hi3 : (mm_to_ok pc dd && (decide (offs.size = (hi - lo + 1).toNat) && offs.toList.all (mm_to_ok pc))) = true := hi2
  rw [Bool.and_eq_true, Bool.and_eq_true] at hi3
  obtain ⟨g1, g2, g3⟩ := hi3
  have g2 := of_decide_eq_true g2
  rcases st with _ | ⟨x1 | x1 | x1, r⟩
  all_goals first
    | exact False.elim hw
    | skip
  refine mm_o_br (Cp := lo ≤ x1 ∧ x1 ≤ hi) (r := r) (n2 := 0) (sv := []) (fun _ h => mm_okl_t h) (fun H locs cells slots ls hst kt kf => ?_) hw.1 hw.2
  have hx : -2147483648 ≤ x1 ∧ x1 < 2147483648 := mm_okl_h hst
  have e1 := mm_rI hx
  by_cases q : lo ≤ x1 ∧ x1 ≤ hi
  · have hlt : (x1 - lo).toNat < offs.size := by omega
    have ho : offs[((Int32.ofInt x1).toInt - lo).toNat]? = some (offs.getD (x1 - lo).toNat dd) := by
      rw [e1, Array.getD_eq_getD_getElem?, Array.getElem?_eq_getElem hlt]
      rfl
    refine lv_tableIn C.1 C.2.1 hd (by rw [e1]; omega) (by rw [e1]; omega) ho ?_ (kt q)
    refine mm_toE (List.all_eq_true.mp g3 _ ?_)
    rw [Array.getD_eq_getD_getElem?, Array.getElem?_eq_getElem hlt]
    exact Array.getElem_mem_toList hlt
  · exact lv_tableOut C.1 C.2.1 hd (by rw [e1]; omega) (mm_toE g1) (kf q)
theorem mm_look_off (dd x : Int) : ∀ ps : List (Int × Int), Op.lookupswitch.offset ps dd x = mm_look dd ps x
  | [] => rfl
  | (a, o) :: t => by
    rw [Op.lookupswitch.offset_cons]
    unfold mm_look
    rw [mm_look_off dd x t]
    by_cases h : a = x
    · rw [if_pos h, if_pos h.symm]
    · rw [if_neg h, if_neg (fun z => h z.symm)]
theorem mm_look_in {pc : Nat} {dd x : Int} (h1 : mm_to_ok pc dd = true) : ∀ ps : List (Int × Int), (ps.all (fun q => mm_to_ok pc q.2)) = true → mm_to_ok pc (mm_look dd ps x) = true
  | [], _ => h1
  | q :: t, h => by
    rw [List.all_cons, Bool.and_eq_true] at h
    unfold mm_look
    by_cases e : x = q.1
    · rw [if_pos e]; exact h.1
    · rw [if_neg e]; exact mm_look_in h1 t h.2
theorem mm_o_lookup {dd : Int} {ps : Array (Int × Int)} (C : mm_Ctx p R s m args meth c γ y d) (hk : mm_chk y (pc, .lookupswitch dd ps, len, w, a, b, z, v) = true)
    (hw : mm_wq call Rf (mm_X p l e R s m args below meth c Q γ y n0 Mf) M (mm_do (pc, .lookupswitch dd ps, len, w, a, b, z, v) lv st M)) : mm_X p l e R s m args below meth c Q γ y n0 Mf (pc, lv, st, M) := by
  obtain ⟨hd, hl, hi2⟩ := mm_chk_d hk
  have hi3 : (mm_to_ok pc dd && (ps.toList.all (fun q => mm_to_ok pc q.2) && (ps.toList.zip (ps.toList.drop 1)).all (fun (a, next) => a.1 < next.1))) = true := hi2
  rw [Bool.and_eq_true, Bool.and_eq_true] at hi3
  obtain ⟨g1, g2, g3⟩ := hi3
  rcases st with _ | ⟨x1 | x1 | x1, r⟩
  all_goals first
    | exact False.elim hw
    | skip
  refine ⟨hw.1, fun H locs cells slots ls hR hlo hce hsl hL hlv hst => ?_⟩
  have hx : -2147483648 ≤ x1 ∧ x1 < 2147483648 := mm_okl_h hst
  refine lv_lookup C.1 C.2.1 hd g3 (off := mm_look dd ps.toList x1) (by rw [mm_rI hx]; exact mm_look_off _ _ _) (mm_toE (mm_look_in g1 _ g2)) ?_
  exact hw.2 H locs cells slots ls hR hlo hce hsl hL hlv (mm_okl_t hst)
end Ops2
