/-! every instruction in one row; a method's contract -/
section Main
variable {p : Program} {l : Launch} {e : Env} {R : Room} {s : State} {m : MethodId} {args : Array Value} {below : List Frame} {meth : Method} {c : Code} {Q : State → Prop} {γ : mm_G} {y d n0 : Nat} {Mf : mm_M} {Rf : mm_P}
set_option maxHeartbeats 4000000 in
theorem mm_o_invk {pc len w a b z : Nat} {v : Int} {lv : mm_L} {st : List mm_V} {M : mm_M} {i : Nat} (C : mm_Ctx p R s m args meth c γ y d) (hmx : ∀ y, y < 310 → mm_mx y = mm_ml_ y ∧ mm_mx y ≤ 28) (hrc : Mf.1 ≤ n0 + R.cells) (hrs : mm_ss Mf.1 ≤ mm_ss n0 + R.slots)
    (hIH : ∀ (a : Nat) (as : List mm_V) (M : mm_M) (v : Option mm_V) (M1 : mm_M), 0 < a → a < 310 → mm_okl M.1 as → mm_run d a as M (fun x y => x = v ∧ y = M1) → mm_Mt l γ d a as M v M1)
    {ins : Instr} (hins : ins = .invokevirtual i ∨ ins = .invokestatic i ∨ ins = .invokespecial i) (hk : mm_chk y (pc, ins, len, w, a, b, z, v) = true)
    (hw : mm_wq (mm_run d) Rf (mm_X p l e R s m args below meth c Q γ y n0 Mf) M (mm_do (pc, ins, len, w, a, b, z, v) lv st M)) : mm_X p l e R s m args below meth c Q γ y n0 Mf (pc, lv, st, M) := by
  obtain ⟨hd, hl, hi⟩ := mm_chk_d hk
  have hny : mm_ny = 310 := rfl
  obtain ⟨hx, hbb, hml, hown, hts, hname, hKn, hfr, hlo47⟩ := id C
  have inst : ∀ (kind : Nat) (Cp : Prop) (o : Nat) (r : List mm_V), (kind = 1 ∨ kind = 2) → decode (mm_b y) pc = .ok (if kind = 1 then .invokevirtual i else .invokespecial i, 3) → mm_lk_ok (mm_y y).cls i w a kind = true → 0 < a → a < 310 → mm_par a = some b → st.drop b = .inr (.inr o) :: r → mm_ws r ≤ 8 → o ≠ 0 → (∀ H : Heap, mm_Rel γ M H → mm_okv M.1 (.inr (.inr o)) → ∃ cellB : Cell, H[mm_ad γ o]? = some cellB ∧ cellB.vm.isStatics = false ∧ s.vm.findClass (mm_y a).cls = some cellB.cls) → mm_run d a (.inr (.inr o) :: (st.take b).reverse) M (fun q M' => mm_X p l e R s m args below meth c Q γ y n0 Mf (pc + 3, lv, q.toList ++ r, M')) → mm_X p l e R s m args below meth c Q γ y n0 Mf (pc, lv, st, M) := by
    intro kind Cp o r hkind hd hlk ha ha2 hpar hdrop hws ho hrecv hrun
    obtain ⟨v1, M1, hX, h1⟩ := mm_run_one d _ _ _ _ hrun
    exact mm_o_inst kind C hmx hrc hrs hd hkind hlk ha ha2 hpar hdrop hws ho hrecv (fun hok => hIH _ _ _ _ _ ha ha2 hok h1) hX (mm_run_le h1)
  rcases hins with rfl | rfl | rfl
  · have hlen : len = 3 := by simpa [mm_ln] using hl
    subst hlen
    have hi2 : (mm_lk_ok (mm_y y).cls i w a 1 && (match (generalizing := false) z with
        | 1 => decide (a < mm_ny) && (decide (mm_par a = some b) && (decide (0 < v ∧ v < 14) && decide (mm_cn v.toNat = (mm_y a).cls)))
        | 18 => decide (a < mm_ny) && (decide (mm_par a = some b) && (decide (307 < a) && decide ((mm_y a).cls = "java/lang/String")))
        | _ => false)) = true := hi
    rw [Bool.and_eq_true] at hi2
    obtain ⟨hlk, h2⟩ := hi2
    split at h2
    · simp only [Bool.and_eq_true, decide_eq_true_eq] at h2
      obtain ⟨ha, hpar, hv, hcn⟩ := h2
      have hw2 : mm_wq (mm_run d) Rf (mm_X p l e R s m args below meth c Q γ y n0 Mf) M (match (generalizing := false) st.drop b with
        | .inr (.inr o) :: r => if mm_ws r ≤ 8 then mm_ca ((mm_kd o).1 = v.toNat) a (.inr (.inr o) :: (st.take b).reverse) (fun q M' => (pc + 3, lv, q.toList ++ r, M')) else none
        | _ => none) := hw
      have h0 : 0 < a := by
        obtain ⟨k, p1, p2, hm, hk4⟩ := mm_lk_use hlk
        have hf := List.all_eq_true.mp mm_okM_all _ hm
        unfold mm_okM at hf
        simp only [Bool.or_eq_true, Bool.and_eq_true, decide_eq_true_eq, beq_iff_eq] at hf
        omega
      split at hw2
      · rename_i o r hdrop
        by_cases hr8 : mm_ws r ≤ 8
        · rw [if_pos hr8] at hw2
          have hkd : (mm_kd o).1 = v.toNat := hw2.1
          refine inst 1 True o r (Or.inl rfl) hd hlk h0 (by omega) hpar hdrop hr8 (by
            intro ho; subst ho
            have : (mm_kd 0).1 = 0 := rfl
            omega) (fun H hR hok => ?_) hw2.2
          obtain ⟨h1, h2, h3, ⟨cell, q1, q2, q3, q4⟩, h5⟩ := mm_obj hR hok (a := v.toNat) (by omega) (by omega) hkd
          refine ⟨cell, q1, by rw [q3]; rfl, ?_⟩
          rw [q2, ← hcn]
          exact (hKn.1 v.toNat (by omega) (by omega)).2.1
        · rw [if_neg hr8] at hw2; exact hw2.elim
      · exact hw2.elim
    · simp only [Bool.and_eq_true, decide_eq_true_eq] at h2
      obtain ⟨ha, hpar, ha3, hcn⟩ := h2
      have hw2 : mm_wq (mm_run d) Rf (mm_X p l e R s m args below meth c Q γ y n0 Mf) M (match (generalizing := false) st.drop b with
        | .inr (.inr o) :: r => if mm_ws r ≤ 8 then mm_ca (6000 ≤ o ∧ o < 6005) a (.inr (.inr o) :: (st.take b).reverse) (fun q M' => (pc + 3, lv, q.toList ++ r, M')) else none
        | _ => none) := hw
      split at hw2
      · rename_i o r hdrop
        by_cases hr8 : mm_ws r ≤ 8
        · rw [if_pos hr8] at hw2
          have hkd : 6000 ≤ o ∧ o < 6005 := hw2.1
          refine inst 1 True o r (Or.inl rfl) hd hlk (by omega) (by omega) hpar hdrop hr8 (by omega) (fun H hR hok => ?_) hw2.2
          have hS := hKn.2.2.2.2.2.1.1 (o - 6000) (by omega)
          obtain ⟨cell, q1, q2, q3, q4⟩ := hS.1
          have hlt : γ.2.2.2 (6000 + (o - 6000)) < γ.1.size := (Array.getElem?_eq_some_iff.mp q1).1
          have had : mm_ad γ o = γ.2.2.2 (6000 + (o - 6000)) := by
            unfold mm_ad
            rw [if_neg (by omega), show 6000 + (o - 6000) = o by omega]
          refine ⟨cell, by rw [had, hR.2.2.1.1 _ hlt]; exact q1, q2, ?_⟩
          rw [hcn]
          exact q3
        · rw [if_neg hr8] at hw2; exact hw2.elim
      · exact hw2.elim
    · cases h2
  · have hlen : len = 3 := by simpa [mm_ln] using hl
    subst hlen
    have hi2 : (mm_lk_ok (mm_y y).cls i w a 0 && (match (generalizing := false) z with
        | 0 => decide (a < mm_ny) && decide (mm_par a = some b)
        | 11 => a == 1011
        | 15 => a == 1015
        | 16 => a == 1016
        | 17 => a == 1017
        | _ => false)) = true := hi
    rw [Bool.and_eq_true] at hi2
    obtain ⟨hlk, h2⟩ := hi2
    split at h2
    · simp only [Bool.and_eq_true, decide_eq_true_eq] at h2
      obtain ⟨ha, hpar⟩ := h2
      have h0 : 0 < a := by
        obtain ⟨k, p1, p2, hm, hk4⟩ := mm_lk_use hlk
        have hf := List.all_eq_true.mp mm_okM_all _ hm
        unfold mm_okM at hf
        simp only [Bool.or_eq_true, Bool.and_eq_true, decide_eq_true_eq, beq_iff_eq] at hf
        omega
      have hw2 : mm_wq (mm_run d) Rf (mm_X p l e R s m args below meth c Q γ y n0 Mf) M (if b ≤ st.length ∧ mm_ws (st.drop b) ≤ 8 then mm_ca True a (st.take b).reverse (fun q M' => (pc + 3, lv, q.toList ++ st.drop b, M')) else none) := hw
      by_cases hb8 : b ≤ st.length ∧ mm_ws (st.drop b) ≤ 8
      · rw [if_pos hb8] at hw2
        obtain ⟨v1, M1, hX, h1⟩ := mm_run_one d _ _ _ _ hw2.2
        exact mm_o_static C hmx hrc hrs hd hlk h0 (by omega) hpar hb8.1 hb8.2 (fun hok => hIH _ _ _ _ _ h0 (by omega) hok h1) hX (mm_run_le h1)
      · rw [if_neg hb8] at hw2; exact hw2.elim
    · have ha : a = 1011 := by simpa using h2
      subst ha
      exact mm_o_copy (a := 1011) (b := b) (v := v) C hd hlk hw
    · have ha : a = 1015 := by simpa using h2
      subst ha
      exact mm_o_math (a := 1015) (b := b) (v := v) (Or.inl rfl) C hrc hrs hd hlk hw
    · have ha : a = 1016 := by simpa using h2
      subst ha
      exact mm_o_math (a := 1016) (b := b) (v := v) (Or.inr (Or.inl rfl)) C hrc hrs hd hlk hw
    · have ha : a = 1017 := by simpa using h2
      subst ha
      exact mm_o_math (a := 1017) (b := b) (v := v) (Or.inr (Or.inr rfl)) C hrc hrs hd hlk hw
    · cases h2
  · have hlen : len = 3 := by simpa [mm_ln] using hl
    subst hlen
    have hi2 : (mm_lk_ok (mm_y y).cls i w a 2 && (match (generalizing := false) z with
        | 2 => decide (a < mm_ny) && (decide (mm_par a = some b) && (decide (0 < v ∧ v < 14) && decide (mm_cn v.toNat = (mm_y a).cls)))
        | 10 => a == 1010
        | _ => false)) = true := hi
    rw [Bool.and_eq_true] at hi2
    obtain ⟨hlk, h2⟩ := hi2
    split at h2
    · simp only [Bool.and_eq_true, decide_eq_true_eq] at h2
      obtain ⟨ha, hpar, hv, hcn⟩ := h2
      have hw2 : mm_wq (mm_run d) Rf (mm_X p l e R s m args below meth c Q γ y n0 Mf) M (match (generalizing := false) st.drop b with
        | .inr (.inr o) :: r => if mm_ws r ≤ 8 then mm_ca ((mm_kd o).1 = v.toNat) a (.inr (.inr o) :: (st.take b).reverse) (fun q M' => (pc + 3, lv, q.toList ++ r, M')) else none
        | _ => none) := hw
      have h0 : 0 < a := by
        obtain ⟨k, p1, p2, hm, hk4⟩ := mm_lk_use hlk
        have hf := List.all_eq_true.mp mm_okM_all _ hm
        unfold mm_okM at hf
        simp only [Bool.or_eq_true, Bool.and_eq_true, decide_eq_true_eq, beq_iff_eq] at hf
        omega
      split at hw2
      · rename_i o r hdrop
        by_cases hr8 : mm_ws r ≤ 8
        · rw [if_pos hr8] at hw2
          have hkd : (mm_kd o).1 = v.toNat := hw2.1
          refine inst 2 True o r (Or.inr rfl) hd hlk h0 (by omega) hpar hdrop hr8 (by
            intro ho; subst ho
            have : (mm_kd 0).1 = 0 := rfl
            omega) (fun H hR hok => ?_) hw2.2
          obtain ⟨h1, h2, h3, ⟨cell, q1, q2, q3, q4⟩, h5⟩ := mm_obj hR hok (a := v.toNat) (by omega) (by omega) hkd
          refine ⟨cell, q1, by rw [q3]; rfl, ?_⟩
          rw [q2, ← hcn]
          exact (hKn.1 v.toNat (by omega) (by omega)).2.1
        · rw [if_neg hr8] at hw2; exact hw2.elim
      · exact hw2.elim
    · have ha : a = 1010 := by simpa using h2
      subst ha
      have hlink := mm_pr_use (z := 10) (by decide) hlk
      have hw2 : mm_wq (mm_run d) Rf (mm_X p l e R s m args below meth c Q γ y n0 Mf) M (match (generalizing := false) st with
        | .inr (.inr o) :: r => if mm_ws r ≤ 8 then mm_if ((mm_kd o).1 ≠ 0) (pc + 3, lv, r, M) else none
        | _ => none) := hw
      split at hw2
      · rename_i o r
        by_cases hr8 : mm_ws r ≤ 8
        · rw [if_pos hr8] at hw2
          have hp := mm_kd_pos hw2.1
          refine ⟨hw2.2.1, fun H locs cells slots ls hR hlo hce hsl hL hlv hst => ?_⟩
          show W p l e R s m args below meth c H locs cells slots Q (F0 m pc ls (mm_ev γ (.inr (.inr o)) :: r.map (mm_ev γ)))
          rw [mm_ref hp.1]
          refine W.objInit hx hbb hown (hts _ hlink) (hts _ (mm_A_use (k := 6) (by decide))) (hts _ (mm_A_use (k := 7) (by decide))) rfl (by rw [hml]; exact hL.1) rfl hd (by omega) (by
            rw [mm_ws_sum]
            show 2 * 0 + mm_ws r + 12 ≤ R.locals
            omega) ?_
          exact hw2.2.2 H locs cells slots ls hR hlo hce hsl hL hlv (mm_okl_t hst)
        · rw [if_neg hr8] at hw2; exact hw2.elim
      · exact hw2.elim
    · cases h2
end Main
