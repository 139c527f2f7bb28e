/-! one step, whatever it is -/
def mm_isret (ins : Instr) : Bool := match ins with
  | .ireturn => true
  | .lreturn => true
  | .areturn => true
  | .return_ => true
  | _ => false
section Step
variable {p : Program} {l : Launch} {e : Env} {R : Room} {s : State} {m : MethodId} {args : Array Value} {below : List Frame} {meth : Method} {c : Code} {Q : State → Prop} {γ : mm_G} {y d n0 : Nat} {Mf : mm_M} {call : mm_K} {Rf : mm_P}
variable {pc len w a b z : Nat} {v : Int} {lv : mm_L} {st : List mm_V} {M : mm_M}
/-- a step that takes some, gives some, and leaves the memory -/
theorem mm_o_sim {st2 : List mm_V} {pc2 : Nat} (row : ∀ (H : Heap) (locs : List Loc) (cells slots : Nat) (ls : Array Slot), mm_okl M.1 st → mm_okl M.1 st2 ∧ (W p l e R s m args below meth c H locs cells slots Q (F0 m pc2 ls (st2.map (mm_ev γ))) → W p l e R s m args below meth c H locs cells slots Q (F0 m pc ls (st.map (mm_ev γ)))))
    (hX : mm_X p l e R s m args below meth c Q γ y n0 Mf (pc2, lv, st2, M)) : mm_X p l e R s m args below meth c Q γ y n0 Mf (pc, lv, st, M) :=
  ⟨hX.1, fun H locs cells slots ls hR hlo hce hsl hL hlv hst => (row H locs cells slots ls hst).2 (hX.2 H locs cells slots ls hR hlo hce hsl hL hlv (row H locs cells slots ls hst).1)⟩
theorem mm_o_copy {i : Nat} (C : mm_Ctx p R s m args meth c γ y d) (hd : decode (mm_b y) pc = .ok (.invokestatic i, 3)) (hlk : mm_lk_ok (mm_y y).cls i w 1011 0 = true)
    (hw : mm_wq call Rf (mm_X p l e R s m args below meth c Q γ y n0 Mf) M (mm_inv (pc + 3) a b 11 v lv st M)) : mm_X p l e R s m args below meth c Q γ y n0 Mf (pc, lv, st, M) := by
  obtain ⟨hx, hbb, hml, hown, hts, hname, hKn, hfr, hlo47⟩ := id C
  have hlink := mm_pr_use (z := 11) (by decide) hlk
  unfold mm_inv at hw
  rcases st with _ | ⟨n1 | n1 | n1, _ | ⟨dp1 | dp1 | dp1, _ | ⟨d1 | d1 | d1, _ | ⟨sp1 | sp1 | sp1, _ | ⟨s1 | s1 | s1, r⟩⟩⟩⟩⟩
  all_goals first
    | exact False.elim hw
    | skip
  have hw : mm_wq call Rf (mm_X p l e R s m args below meth c Q γ y n0 Mf) M (if mm_ws r ≤ 8 then mm_if ((mm_kd s1).1 = (mm_kd d1).1 ∧ ((mm_kd s1).1 = 20 ∨ (mm_kd s1).1 = 21) ∧ 0 ≤ sp1 ∧ 0 ≤ dp1 ∧ 0 ≤ n1 ∧ sp1 + n1 ≤ ((mm_kd s1).2 : Int) ∧ dp1 + n1 ≤ ((mm_kd d1).2 : Int)) (pc + 3, lv, r, mm_cp M s1 sp1 d1 dp1 n1) else none) := hw
  by_cases hr8 : mm_ws r ≤ 8
  · rw [if_pos hr8] at hw
    obtain ⟨⟨hk, h20, h1, h2, h3, h4, h5⟩, hX⟩ := (hw : ((mm_kd s1).1 = (mm_kd d1).1 ∧ ((mm_kd s1).1 = 20 ∨ (mm_kd s1).1 = 21) ∧ 0 ≤ sp1 ∧ 0 ≤ dp1 ∧ 0 ≤ n1 ∧ sp1 + n1 ≤ ((mm_kd s1).2 : Int) ∧ dp1 + n1 ≤ ((mm_kd d1).2 : Int)) ∧ mm_X p l e R s m args below meth c Q γ y n0 Mf (pc + 3, lv, r, mm_cp M s1 sp1 d1 dp1 n1))
    refine ⟨hX.1, fun H locs cells slots ls hR hlo hce hsl hL hlv hst => ?_⟩
    have hR : mm_Rel γ M H := hR
    have hn := mm_okl_h hst
    have hdp := mm_okl_h (mm_okl_t hst)
    have hd1 := mm_okl_h (mm_okl_t (mm_okl_t hst))
    have hsp := mm_okl_h (mm_okl_t (mm_okl_t (mm_okl_t hst)))
    have hs1 := mm_okl_h (mm_okl_t (mm_okl_t (mm_okl_t (mm_okl_t hst))))
    have hr := mm_okl_t (mm_okl_t (mm_okl_t (mm_okl_t (mm_okl_t hst))))
    have hn : -2147483648 ≤ n1 ∧ n1 < 2147483648 := hn
    have hdp : -2147483648 ≤ dp1 ∧ dp1 < 2147483648 := hdp
    have hsp : -2147483648 ≤ sp1 ∧ sp1 < 2147483648 := hsp
    obtain ⟨a1, a2, a3, a4⟩ := mm_arr hR hs1 (by omega)
    obtain ⟨b1, b2, b3, b4⟩ := mm_arr hR hd1 (by omega)
    have hms := hKn.2.1 (mm_kd s1).1 (mm_kd_arr (by omega)).1
    have hmd := hKn.2.1 (mm_kd d1).1 (mm_kd_arr (by omega)).1
    obtain ⟨-, k0, hk0, cm0, hkk0⟩ := hms.1 (mm_kd s1).2 (mm_fv γ M s1)
    obtain ⟨-, k1, hk1, cm1, hkk1⟩ := hmd.1 (mm_kd d1).2 (mm_fv γ M d1)
    have hpr : refKind (mm_tyA (mm_kd s1).1) = false := by rcases h20 with q | q <;> rw [q] <;> rfl
    show W p l e R s m args below meth c H locs cells slots Q (F0 m pc ls (.int (Int32.ofInt n1) :: .int (Int32.ofInt dp1) :: mm_ev γ (.inr (.inr d1)) :: .int (Int32.ofInt sp1) :: mm_ev γ (.inr (.inr s1)) :: r.map (mm_ev γ)))
    rw [mm_ref a1, mm_ref b1]
    intro T hT X
    obtain ⟨vm', X', step⟩ := X.arraycopy hx hown (hts _ hlink) (hts _ (mm_A_use (k := 3) (by decide))) (hts _ (mm_A_use (k := 4) (by decide))) (hts _ (mm_A_use (k := 5) (by decide))) (src := mm_ad γ s1) (dst := mm_ad γ d1) (cs := arrV (γ.2.2.1 (mm_kd s1).1) (mm_kd s1).2 (mm_fv γ M s1)) (cd := arrV (γ.2.2.1 (mm_kd d1).1) (mm_kd d1).2 (mm_fv γ M d1)) (srcPos := Int32.ofInt sp1) (destPos := Int32.ofInt dp1) (n := Int32.ofInt n1) (by rw [hT]; exact a3) (by rw [hT]; exact b3)
      (fun _ h => by cases h) (fun _ h => by cases h) (fun h => by cases h) (fun h => by cases h) hk0 hk1 hkk0 hkk1 (by rw [hk]; simp [← hk, hpr])
      (by rw [mm_0I, mm_ltI hsp (by omega)]; omega) (by rw [mm_0I, mm_ltI hdp (by omega)]; omega) (by rw [mm_0I, mm_ltI hn (by omega)]; omega)
      (by rw [mm_rI hsp, mm_rI hn, arrV_size]; omega) (by rw [mm_rI hdp, mm_rI hn, arrV_size]; omega)
      (fun vm₁ _ j hj => by
        rw [mm_clI hn] at hj
        rw [mm_clI hsp]
        have e0 : (arrV (γ.2.2.1 (mm_kd s1).1) (mm_kd s1).2 (mm_fv γ M s1)).slots.getD (sp1.toNat + j) .null = mm_fv γ M s1 (sp1.toNat + j) := by
          rw [Array.getD_eq_getD_getElem?, arrV_read _ _ (by omega)]
          rfl
        rw [e0]
        unfold mm_fv
        rw [mm_zk_arr (by omega), ← hk]
        rcases h20 with q | q <;> rw [q] <;> exact ⟨rfl, trivial⟩)
      (g := F0 m pc ls (.int (Int32.ofInt n1) :: .int (Int32.ofInt dp1) :: .ref (mm_ad γ d1) :: .int (Int32.ofInt sp1) :: .ref (mm_ad γ s1) :: r.map (mm_ev γ))) rfl (by rw [hml]; exact hL.1) (rest := r.map (mm_ev γ)) rfl (by rw [hbb]; exact hd) (by omega) (by
        have := mm_ws_sum γ r
        have e7 : nativeFrameWords "java/lang/System" "arraycopy" 5 = 7 := by decide
        rw [e7, this]
        show 2 * 0 + mm_ws r + (7 + 11) ≤ R.locals
        omega)
    have e1 : copied (arrV (γ.2.2.1 (mm_kd s1).1) (mm_kd s1).2 (mm_fv γ M s1)) (arrV (γ.2.2.1 (mm_kd d1).1) (mm_kd d1).2 (mm_fv γ M d1)) (Int32.ofInt sp1) (Int32.ofInt dp1) (Int32.ofInt n1) = arrV (γ.2.2.1 (mm_kd d1).1) (mm_kd d1).2 (va_cpy (mm_fv γ M s1) (mm_fv γ M d1) sp1.toNat dp1.toNat n1.toNat) := by
      have h := va_copied (fun z => z) (γ.2.2.1 (mm_kd s1).1) (γ.2.2.1 (mm_kd d1).1) (n0 := (mm_kd s1).2) (n1 := (mm_kd d1).2) (sp := sp1.toNat) (dp := dp1.toNat) (n := n1.toNat) (mm_fv γ M s1) (mm_fv γ M d1) (by omega)
      rw [← mm_clI hsp, ← mm_clI hdp, ← mm_clI hn] at h ⊢
      exact h
    rw [e1] at X' step
    have hl : mm_ad γ d1 < H.size := (Array.getElem?_eq_some_iff.mp b3).1
    have hM : mm_max = 887 := rfl
    have hmx := hR.2.1
    have hadl := mm_ad_in (γ := γ) b1 (by omega : d1 ≤ 887)
    have hheap : ((T.setVm vm').setCell (mm_ad γ d1) (arrV (γ.2.2.1 (mm_kd d1).1) (mm_kd d1).2 (va_cpy (mm_fv γ M s1) (mm_fv γ M d1) sp1.toNat dp1.toNat n1.toNat))).heap = H.setIfInBounds (mm_ad γ d1) (arrV (γ.2.2.1 (mm_kd d1).1) (mm_kd d1).2 (va_cpy (mm_fv γ M s1) (mm_fv γ M d1) sp1.toNat dp1.toNat n1.toNat)) := by rw [← hT]; rfl
    obtain ⟨t, q1, q2⟩ := hX.2 _ _ cells slots ls (hR.copy ⟨b1, b2⟩ hk (by omega) ⟨h1, h2, h3, h4⟩ a4 (by simp) (fun q hq => by simp [Array.getElem?_setIfInBounds, Ne.symm hq]) (by simp [Array.getElem?_setIfInBounds, hl])) (fun q hq => by
      rcases List.mem_append.mp hq with h | h
      · exact hlo q h
      · obtain ⟨zz, -, hz⟩ := List.mem_map.mp h
        rw [← hz]
        show γ.1.size ≤ mm_ad γ d1
        omega) hce hsl hL hlv hr _ hheap X'
    exact ⟨t, step t q1, q2⟩
  · rw [if_neg hr8] at hw
    exact False.elim hw
theorem mm_o_math {i : Nat} {z : Nat} (hz : z = 15 ∨ z = 16 ∨ z = 17) (C : mm_Ctx p R s m args meth c γ y d) (hrc : Mf.1 ≤ n0 + R.cells) (hrs : mm_ss Mf.1 ≤ mm_ss n0 + R.slots) (hd : decode (mm_b y) pc = .ok (.invokestatic i, 3)) (hlk : mm_lk_ok (mm_y y).cls i w (1000 + z) 0 = true)
    (hw : mm_wq call Rf (mm_X p l e R s m args below meth c Q γ y n0 Mf) M (mm_inv (pc + 3) a b z v lv st M)) : mm_X p l e R s m args below meth c Q γ y n0 Mf (pc, lv, st, M) := by
  obtain ⟨hx, hbb, hml, hown, hts, hname, hKn, hfr, hlo47⟩ := id C
  have hlink := mm_pr_use (by omega) hlk
  have hmi : (Cond.initialized "java/lang/Math").before args s = true := hts _ (mm_A_use (k := 8) (by decide))
  unfold mm_inv at hw
  rcases hz with rfl | rfl | rfl
  · rcases st with _ | ⟨y1 | y1 | y1, _ | ⟨x1 | x1 | x1, r⟩⟩
    all_goals first
      | exact False.elim hw
      | skip
    have hw : mm_wq call Rf (mm_X p l e R s m args below meth c Q γ y n0 Mf) M (if mm_ws r ≤ 8 then mm_go (pc + 3, lv, .inl (max x1 y1) :: r, M) else none) := hw
    by_cases hr8 : mm_ws r ≤ 8
    · rw [if_pos hr8] at hw
      have hX : mm_X p l e R s m args below meth c Q γ y n0 Mf (pc + 3, lv, .inl (max x1 y1) :: r, M) := hw
      refine ⟨hX.1, fun H locs cells slots ls hR hlo hce hsl hL hlv hst => ?_⟩
      have hy := mm_okl_h hst
      have hx1 := mm_okl_h (mm_okl_t hst)
      have hy : -2147483648 ≤ y1 ∧ y1 < 2147483648 := hy
      have hx1 : -2147483648 ≤ x1 ∧ x1 < 2147483648 := hx1
      have hle : M.1 ≤ Mf.1 := hX.1
      have hss := mm_ss_le hle
      have hce2 : cells + n0 = M.1 := hce
      have hsl2 : slots + mm_ss n0 = mm_ss M.1 := hsl
      refine va_mmax hx hbb (by rw [hml]; exact hL.1.symm) hown (hts _ hlink) (hts _ (mm_A_use (k := 9) (by decide))) hmi (hts _ (mm_A_use (k := 10) (by decide))) (by omega) (by rw [mm_ws_sum]; omega) (by omega) (by omega) hd ?_
      rw [mm_maxI hx1 hy]
      exact hX.2 H locs cells slots ls hR hlo hce hsl hL hlv (mm_okl_c (show -2147483648 ≤ max x1 y1 ∧ max x1 y1 < 2147483648 by omega) (mm_okl_t (mm_okl_t hst)))
    · rw [if_neg hr8] at hw
      exact False.elim hw
  · rcases st with _ | ⟨y1 | y1 | y1, _ | ⟨x1 | x1 | x1, r⟩⟩
    all_goals first
      | exact False.elim hw
      | skip
    have hw : mm_wq call Rf (mm_X p l e R s m args below meth c Q γ y n0 Mf) M (if mm_ws r ≤ 8 then mm_go (pc + 3, lv, .inl (min x1 y1) :: r, M) else none) := hw
    by_cases hr8 : mm_ws r ≤ 8
    · rw [if_pos hr8] at hw
      have hX : mm_X p l e R s m args below meth c Q γ y n0 Mf (pc + 3, lv, .inl (min x1 y1) :: r, M) := hw
      refine ⟨hX.1, fun H locs cells slots ls hR hlo hce hsl hL hlv hst => ?_⟩
      have hy := mm_okl_h hst
      have hx1 := mm_okl_h (mm_okl_t hst)
      have hy : -2147483648 ≤ y1 ∧ y1 < 2147483648 := hy
      have hx1 : -2147483648 ≤ x1 ∧ x1 < 2147483648 := hx1
      have hle : M.1 ≤ Mf.1 := hX.1
      have hss := mm_ss_le hle
      have hce2 : cells + n0 = M.1 := hce
      have hsl2 : slots + mm_ss n0 = mm_ss M.1 := hsl
      refine va_mmin hx hbb (by rw [hml]; exact hL.1.symm) hown (hts _ hlink) (hts _ (mm_A_use (k := 11) (by decide))) hmi (hts _ (mm_A_use (k := 12) (by decide))) (by omega) (by rw [mm_ws_sum]; omega) (by omega) (by omega) hd ?_
      have e : (if Int32.ofInt y1 < Int32.ofInt x1 then Int32.ofInt y1 else Int32.ofInt x1) = Int32.ofInt (min x1 y1) := by
        by_cases h : y1 < x1
        · rw [if_pos ((mm_ltI hy hx1).mpr h), show min x1 y1 = y1 by omega]
        · rw [if_neg (fun q => h ((mm_ltI hy hx1).mp q)), show min x1 y1 = x1 by omega]
      rw [e]
      exact hX.2 H locs cells slots ls hR hlo hce hsl hL hlv (mm_okl_c (show -2147483648 ≤ min x1 y1 ∧ min x1 y1 < 2147483648 by omega) (mm_okl_t (mm_okl_t hst)))
    · rw [if_neg hr8] at hw
      exact False.elim hw
  · rcases st with _ | ⟨x1 | x1 | x1, r⟩
    all_goals first
      | exact False.elim hw
      | skip
    have hw : mm_wq call Rf (mm_X p l e R s m args below meth c Q γ y n0 Mf) M (if mm_ws r ≤ 8 then mm_go (pc + 3, lv, .inr (.inl (if 0 < x1 then x1 else mm_w64 (-x1))) :: r, M) else none) := hw
    by_cases hr8 : mm_ws r ≤ 8
    · rw [if_pos hr8] at hw
      have hX : mm_X p l e R s m args below meth c Q γ y n0 Mf (pc + 3, lv, .inr (.inl (if 0 < x1 then x1 else mm_w64 (-x1))) :: r, M) := hw
      refine ⟨hX.1, fun H locs cells slots ls hR hlo hce hsl hL hlv hst => ?_⟩
      have hx1 : -9223372036854775808 ≤ x1 ∧ x1 < 9223372036854775808 := mm_okl_h hst
      have hle : M.1 ≤ Mf.1 := hX.1
      have hss := mm_ss_le hle
      have hce2 : cells + n0 = M.1 := hce
      have hsl2 : slots + mm_ss n0 = mm_ss M.1 := hsl
      refine va_mabs_long hx hbb (by rw [hml]; exact hL.1.symm) hown (hts _ hlink) (hts _ (mm_A_use (k := 13) (by decide))) hmi (hts _ (mm_A_use (k := 14) (by decide))) (by omega) (by rw [mm_ws_sum]; omega) (by omega) (by omega) hd ?_
      have e : (if 0 < Int64.ofInt x1 then Int64.ofInt x1 else -Int64.ofInt x1) = Int64.ofInt (if 0 < x1 then x1 else mm_w64 (-x1)) := by
        have h0 : (0 < Int64.ofInt x1) ↔ 0 < x1 := by
          rw [Int64.lt_iff_toInt_lt, mm_rL hx1]
          rfl
        by_cases h : 0 < x1
        · rw [if_pos (h0.mpr h), if_pos h]
        · rw [if_neg (fun q => h (h0.mp q)), if_neg h, mm_oL, Int64.ofInt_neg]
      rw [e]
      have hw64 := mm_w64_in (-x1)
      exact hX.2 H locs cells slots ls hR hlo hce hsl hL hlv (mm_okl_c (show -9223372036854775808 ≤ (if 0 < x1 then x1 else mm_w64 (-x1)) ∧ (if 0 < x1 then x1 else mm_w64 (-x1)) < 9223372036854775808 by split <;> omega) (mm_okl_t hst))
    · rw [if_neg hr8] at hw
      exact False.elim hw
end Step
