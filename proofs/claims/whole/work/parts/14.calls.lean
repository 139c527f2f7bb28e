/-! constants; copies; the JDK's own -/
section Rest
variable {p : Program} {l : Launch} {e : Env} {R : Room} {s : State} {m : MethodId} {args : Array Value} {below : List Frame} {meth : Method} {c : Code} {Q : State → Prop} {γ : mm_G} {y d n0 : Nat} {Mf : mm_M} {call : mm_K} {Rf : mm_P}
variable {pc len w a b z : Nat} {v : Int} {lv : mm_L} {st : List mm_V} {M : mm_M}
theorem mm_kq_use {own : String} {i : Nat} {v : Int} (h : (match mm_kq[w]? with
        | some (o, j, u, _, _) => decide (o = own) && (j == i && decide (u = v))
        | none => false) = true) : Cond.constant own i (Int32.ofInt v) ∈ mm_W := by
  cases hr : mm_kq[w]? with
  | none => rw [hr] at h; cases h
  | some r =>
    rw [hr] at h
    obtain ⟨o, j, u, p1, p2⟩ := r
    simp only [Bool.and_eq_true, decide_eq_true_eq, beq_iff_eq] at h
    obtain ⟨rfl, rfl, rfl⟩ := h
    exact mm_has_of (List.all_eq_true.mp mm_okK _ (List.mem_of_getElem? hr))
theorem mm_lq_use {own : String} {i : Nat} {v : Int} (h : (match mm_lq[w]? with
        | some (o, j, u, _, _) => decide (o = own) && (j == i && decide (u = v))
        | none => false) = true) : Cond.constantLong own i (Int64.ofInt v) ∈ mm_W := by
  cases hr : mm_lq[w]? with
  | none => rw [hr] at h; cases h
  | some r =>
    rw [hr] at h
    obtain ⟨o, j, u, p1, p2⟩ := r
    simp only [Bool.and_eq_true, decide_eq_true_eq, beq_iff_eq] at h
    obtain ⟨rfl, rfl, rfl⟩ := h
    exact mm_has_of (List.all_eq_true.mp mm_okL _ (List.mem_of_getElem? hr))
theorem mm_o_ldc {i : Nat} (C : mm_Ctx p R s m args meth c γ y d) (hk : mm_chk y (pc, .ldc i, len, w, a, b, z, v) = true)
    (hw : mm_wq call Rf (mm_X p l e R s m args below meth c Q γ y n0 Mf) M (mm_do (pc, .ldc i, len, w, a, b, z, v) lv st M)) : mm_X p l e R s m args below meth c Q γ y n0 Mf (pc, lv, st, M) := by
  obtain ⟨hd, hl, hi2⟩ := mm_chk_d hk
  have hlen : len = 2 := by simpa [mm_ln] using hl
  subst hlen
  obtain ⟨hx, hbb, hml, hown, hts, hname, hKn, -⟩ := id C
  have hi3 : (if z = 0 then (decide (-2147483648 ≤ v ∧ v < 2147483648) && (match mm_kq[w]? with
        | some (o, j, u, _, _) => decide (o = (mm_y y).cls) && (j == i && decide (u = v))
        | none => false)) else (z == 1 && match mm_sl[a]? with
        | some (o, j, _) => decide (o = (mm_y y).cls) && j == i
        | none => false)) = true := hi2
  by_cases hz : z = 0
  · subst hz
    rw [if_pos rfl, Bool.and_eq_true] at hi3
    have hv := of_decide_eq_true hi3.1
    have hc := mm_kq_use hi3.2
    exact mm_o_push (u := .inl v) (fun _ _ => hv) (fun H locs cells slots ls rest k => lv_ldc hx hbb hown (hts _ hc) hd k) hw
  · rw [if_neg hz, Bool.and_eq_true] at hi3
    have hz1 : z = 1 := by simpa using hi3.1
    subst hz1
    have h2 := hi3.2
    cases hr : mm_sl[a]? with
    | none => rw [hr] at h2; cases h2
    | some r =>
      rw [hr] at h2
      obtain ⟨o, j, t⟩ := r
      simp only [Bool.and_eq_true, decide_eq_true_eq, beq_iff_eq] at h2
      obtain ⟨rfl, rfl⟩ := h2
      have hR := hKn.2.2.2.2.1 a _ hr
      refine mm_o_push (u := .inr (.inr (6000 + a))) (fun _ _ => Or.inr (by omega)) (fun H locs cells slots ls rest k => ?_) hw
      have e : mm_ev γ (.inr (.inr (6000 + a))) = .ref (γ.2.2.2 (6000 + a)) := by
        rw [mm_ref (by omega)]
        unfold mm_ad
        rw [if_neg (by omega)]
      rw [e] at k
      exact va_ldcS hx hbb hown hR hd k
theorem mm_o_ldcw {i : Nat} (C : mm_Ctx p R s m args meth c γ y d) (hk : mm_chk y (pc, .ldc_w i, len, w, a, b, z, v) = true)
    (hw : mm_wq call Rf (mm_X p l e R s m args below meth c Q γ y n0 Mf) M (mm_do (pc, .ldc_w i, len, w, a, b, z, v) lv st M)) : mm_X p l e R s m args below meth c Q γ y n0 Mf (pc, lv, st, M) := by
  obtain ⟨hd, hl, hi2⟩ := mm_chk_d hk
  have hlen : len = 3 := by simpa [mm_ln] using hl
  subst hlen
  obtain ⟨hx, hbb, hml, hown, hts, hname, hKn, -⟩ := id C
  have hi3 := (Bool.and_eq_true _ _).mp hi2
  have hv := of_decide_eq_true hi3.1
  have hc := mm_kq_use hi3.2
  exact mm_o_push (u := .inl v) (fun _ _ => hv) (fun H locs cells slots ls rest k => lv_ldcw hx hbb hown (hts _ hc) hd k) hw
theorem mm_o_ldc2 {i : Nat} (C : mm_Ctx p R s m args meth c γ y d) (hk : mm_chk y (pc, .ldc2_w i, len, w, a, b, z, v) = true)
    (hw : mm_wq call Rf (mm_X p l e R s m args below meth c Q γ y n0 Mf) M (mm_do (pc, .ldc2_w i, len, w, a, b, z, v) lv st M)) : mm_X p l e R s m args below meth c Q γ y n0 Mf (pc, lv, st, M) := by
  obtain ⟨hd, hl, hi2⟩ := mm_chk_d hk
  have hlen : len = 3 := by simpa [mm_ln] using hl
  subst hlen
  obtain ⟨hx, hbb, hml, hown, hts, hname, hKn, -⟩ := id C
  have hi3 := (Bool.and_eq_true _ _).mp hi2
  have hv := of_decide_eq_true hi3.1
  have hc := mm_lq_use hi3.2
  exact mm_o_push (u := .inr (.inl v)) (fun _ _ => hv) (fun H locs cells slots ls rest k => lv_ldc2 hx hbb hown (hts _ hc) hd k) hw
/-- Rel after a copy -/
theorem mm_Rel.copy {γ : mm_G} {M : mm_M} {H H' : Heap} (h : mm_Rel γ M H) {s1 d1 : Nat} {sp dp n : Int} (hd1 : 1 ≤ d1 ∧ d1 ≤ M.1) (hk : (mm_kd s1).1 = (mm_kd d1).1) (h20 : 20 ≤ (mm_kd d1).1) (h0 : 0 ≤ sp ∧ 0 ≤ dp ∧ 0 ≤ n ∧ sp + n ≤ ((mm_kd s1).2 : Int)) (hso : mm_okc M s1) (hz : H'.size = H.size) (hq : ∀ q : Nat, q ≠ mm_ad γ d1 → H'[q]? = H[q]?)
    (hc : H'[mm_ad γ d1]? = some (arrV (γ.2.2.1 (mm_kd d1).1) (mm_kd d1).2 (va_cpy (mm_fv γ M s1) (mm_fv γ M d1) sp.toNat dp.toNat n.toNat))) : mm_Rel γ (mm_cp M s1 sp d1 dp n) H' := by
  obtain ⟨g1, g2, g3, g4⟩ := h
  have hM : mm_max = 887 := rfl
  have ha := mm_ad_in (γ := γ) hd1.1 (by omega : d1 ≤ 887)
  refine ⟨by rw [hz]; exact g1, g2, ⟨fun q hlt => by rw [hq q (by omega)]; exact g3.1 q hlt, mm_scr_of g3.2 (if_neg (fun z => by omega)) (fun j => if_neg (fun z => by omega))⟩, fun k hk1 hk2 => ?_⟩
  have hk2 : k ≤ M.1 := hk2
  by_cases hkd : k = d1
  · subst hkd
    have e : ∀ j, (mm_cp M s1 sp k dp n).2 k j = if dp ≤ (j : Int) ∧ (j : Int) < dp + n then M.2 s1 ((j : Int) - dp + sp).toNat else M.2 k j := fun j => by
      show (if k = k ∧ dp ≤ (j : Int) ∧ (j : Int) < dp + n then M.2 s1 ((j : Int) - dp + sp).toNat else M.2 k j) = _
      simp only [true_and]
    have hzs : ∀ j, mm_zk s1 j = mm_zA (mm_kd k).1 := fun j => by rw [mm_zk_arr (by omega), hk]
    have hzd : ∀ j, mm_zk k j = mm_zA (mm_kd k).1 := fun j => mm_zk_arr h20
    refine ⟨⟨fun q => absurd q (by omega), fun _ => ?_⟩, fun j hj => ?_⟩
    · rw [hc]
      congr 2
      funext j
      unfold va_cpy mm_fv
      rw [e j, hzd j]
      by_cases hin : dp ≤ (j : Int) ∧ (j : Int) < dp + n
      · rw [if_pos hin, if_pos (by omega), hzs, show sp.toNat + (j - dp.toNat) = ((j : Int) - dp + sp).toNat by omega]
      · rw [if_neg hin, if_neg (by omega)]
    · rw [e j, hzd j]
      by_cases hin : dp ≤ (j : Int) ∧ (j : Int) < dp + n
      · rw [if_pos hin]
        have := hso ((j : Int) - dp + sp).toNat (by omega)
        rwa [hzs] at this
      · rw [if_neg hin]
        have := (g4 k hk1 hk2).2 j hj
        rwa [hzd] at this
  · have e : ∀ j, (mm_cp M s1 sp d1 dp n).2 k j = M.2 k j := fun j => if_neg (fun z => hkd z.1)
    have e2 : mm_fv γ (mm_cp M s1 sp d1 dp n) k = mm_fv γ M k := funext fun j => by unfold mm_fv; rw [e j]
    have hak := mm_ad_in (γ := γ) hk1 (by omega : k ≤ 887)
    have hqk := hq (mm_ad γ k) (by omega)
    refine ⟨⟨fun q => ?_, fun q => ?_⟩, fun j hj => ?_⟩
    · rw [e2]; exact ((g4 k hk1 hk2).1.1 q).kept hqk
    · rw [e2, hqk]; exact (g4 k hk1 hk2).1.2 q
    · rw [e j]; exact (g4 k hk1 hk2).2 j hj
end Rest
