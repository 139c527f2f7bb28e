/-! new cells; copies; constants -/
theorem mm_A_use {k : Nat} (h : k < 15) : mm_aqw.getD k .tt ∈ mm_W := mm_has_of (List.all_eq_true.mp mm_okA k (List.mem_range.mpr h))
theorem mm_cl_use {own : String} {i w a : Nat} (h : (match mm_cl[w]? with
        | some (o, j, c, _, _) => decide (o = own) && (j == i && c == a)
        | none => false) = true) : Cond.classLink own i (mm_cn a) ∈ mm_W ∧ 0 < a ∧ a < 14 := by
  cases hr : mm_cl[w]? with
  | none => rw [hr] at h; cases h
  | some r =>
    rw [hr] at h
    obtain ⟨o, j, c, p1, p2⟩ := r
    simp only [Bool.and_eq_true, decide_eq_true_eq, beq_iff_eq] at h
    obtain ⟨rfl, rfl, rfl⟩ := h
    have hf := List.all_eq_true.mp mm_okCl_all _ (List.mem_of_getElem? hr)
    unfold mm_okCl at hf
    rw [Bool.and_eq_true, Bool.and_eq_true] at hf
    exact ⟨mm_has_of hf.1, of_decide_eq_true hf.2.1, of_decide_eq_true hf.2.2⟩
theorem mm_dflt (γ : mm_G) {z : Nat} {ty : FieldType} (h : mm_tyok z ty = true) : defaultValue ty = mm_ev γ (mm_val z 0) := by
  rcases z with _ | _ | _ | _ | z
  · cases ty <;> first | rfl | cases h
  · cases ty <;> first | rfl | cases h
  · cases ty <;> first | rfl | cases h
  · cases ty <;> first | rfl | cases h
  · cases h
section Make
variable {p : Program} {l : Launch} {e : Env} {R : Room} {s : State} {m : MethodId} {args : Array Value} {below : List Frame} {meth : Method} {c : Code} {Q : State → Prop} {γ : mm_G} {y d n0 : Nat} {Mf : mm_M} {call : mm_K} {Rf : mm_P}
variable {pc len w a b z : Nat} {v : Int} {lv : mm_L} {st : List mm_V} {M : mm_M}
theorem mm_adn {γ : mm_G} {M : mm_M} {H : Heap} (hR : mm_Rel γ M H) (hm : M.1 < mm_max) : mm_ad γ (M.1 + 1) = H.size := by
  have hM : mm_max = 887 := rfl
  have h1 := hR.1
  have := mm_ad_in (γ := γ) (k := M.1 + 1) (by omega) (by omega)
  omega
theorem mm_o_new {i : Nat} (C : mm_Ctx p R s m args meth c γ y d) (hrc : Mf.1 ≤ n0 + R.cells) (hrs : mm_ss Mf.1 ≤ mm_ss n0 + R.slots) (hk : mm_chk y (pc, .new i, len, w, a, b, z, v) = true)
    (hw : mm_wq call Rf (mm_X p l e R s m args below meth c Q γ y n0 Mf) M (mm_do (pc, .new i, len, w, a, b, z, v) lv st M)) : mm_X p l e R s m args below meth c Q γ y n0 Mf (pc, lv, st, M) := by
  obtain ⟨hd, hl, hi2⟩ := mm_chk_d hk
  have hlen : len = 3 := by simpa [mm_ln] using hl
  subst hlen
  obtain ⟨hlink, h0, h14⟩ := mm_cl_use hi2
  obtain ⟨hx, hbb, hml, hown, hts, hname, hKn, -⟩ := id C
  obtain ⟨⟨hm, hkd⟩, hX⟩ := (hw : (M.1 < mm_max ∧ (mm_kd (M.1 + 1)).1 = a) ∧ mm_X p l e R s m args below meth c Q γ y n0 Mf (pc + 3, lv, .inr (.inr (M.1 + 1)) :: st, mm_nw M))
  have hle : M.1 + 1 ≤ Mf.1 := hX.1
  have hsl1 := mm_ss_le hle
  have hss : mm_ss (M.1 + 1) = mm_ss M.1 + (mm_kd (M.1 + 1)).2 := rfl
  have hn := (mm_kd_obj (k := M.1 + 1) (by omega) (by omega)).2
  rw [hkd] at hn
  refine ⟨by show M.1 ≤ Mf.1; omega, fun H locs cells slots ls hR hlo hce hsl hL hlv hst => ?_⟩
  have hR : mm_Rel γ M H := hR
  have had := mm_adn hR hm
  obtain ⟨hin1, hin2, hall⟩ := mm_C_use h0 h14
  have hcl := (hKn.1 a h0 h14)
  have hce' : cells + n0 = M.1 := hce
  have hsl' : slots + mm_ss n0 = mm_ss M.1 := hsl
  refine W.newcK hx hbb hown (hts _ hlink) (hts _ hin1) (hts _ hin2) rfl hd (by omega) (by omega) hcl.2.1 rfl (fun H1 kC hkC e1 z1 o1 => ?_)
  have hne : M.1 + 1 ≠ 0 := by omega
  show W p l e R s m args below meth c H1 locs (cells + 1) (slots + mm_N a) Q (F0 m (pc + 3) ls (.ref H.size :: st.map (mm_ev γ)))
  rw [← had, ← mm_ref (γ := γ) (show 1 ≤ M.1 + 1 by omega)]
  refine hX.2 H1 locs (cells + 1) (slots + mm_N a) ls (hR.new hm z1 o1 ⟨fun _ => ?_, fun q => absurd q (by omega)⟩) hlo (by show cells + 1 + n0 = M.1 + 1; omega) (by show slots + mm_N a + mm_ss n0 = mm_ss (M.1 + 1); omega) hL (fun q hq => mm_okv_mono (Nat.le_succ _) (hlv q hq)) (mm_okl_c (Or.inl (Nat.le_refl _)) (fun q hq => mm_okv_mono (Nat.le_succ _) (hst q hq)))
  rw [had, hkd, hn]
  refine (u_born (fun k => mm_ft a k) hts (mm_ws_in h0 h14) hcl hkC e1 (fun k hk => (hall k hk).2.1)).to (fun k hk => ?_)
  rw [mm_zk_obj hkd h14]
  exact mm_dflt γ (hall k hk).2.2.2.1
theorem mm_o_newa {t : ArrayType} (C : mm_Ctx p R s m args meth c γ y d) (hrc : Mf.1 ≤ n0 + R.cells) (hrs : mm_ss Mf.1 ≤ mm_ss n0 + R.slots) (hk : mm_chk y (pc, .newarray t, len, w, a, b, z, v) = true)
    (hw : mm_wq call Rf (mm_X p l e R s m args below meth c Q γ y n0 Mf) M (mm_do (pc, .newarray t, len, w, a, b, z, v) lv st M)) : mm_X p l e R s m args below meth c Q γ y n0 Mf (pc, lv, st, M) := by
  obtain ⟨hd, hl, hi2⟩ := mm_chk_d hk
  have hlen : len = 2 := by simpa [mm_ln] using hl
  subst hlen
  obtain ⟨hx, hbb, hml, hown, hts, hname, hKn, -⟩ := id C
  rcases st with _ | ⟨n1 | n1 | n1, r⟩
  all_goals first
    | exact False.elim hw
    | skip
  obtain ⟨⟨hm, hkd, h0n⟩, hX⟩ := (hw : (M.1 < mm_max ∧ mm_kd (M.1 + 1) = (mm_akind t, n1.toNat) ∧ 0 ≤ n1) ∧ mm_X p l e R s m args below meth c Q γ y n0 Mf (pc + 2, lv, .inr (.inr (M.1 + 1)) :: r, mm_nw M))
  have hle : M.1 + 1 ≤ Mf.1 := hX.1
  have hsl1 := mm_ss_le hle
  have hss : mm_ss (M.1 + 1) = mm_ss M.1 + (mm_kd (M.1 + 1)).2 := rfl
  rw [hkd] at hss
  have hss : mm_ss (M.1 + 1) = mm_ss M.1 + n1.toNat := hss
  have ht : (mm_akind t = 20 ∧ newarray.typeOf t = .int ∨ mm_akind t = 21 ∧ newarray.typeOf t = .long ∨ mm_akind t = 22 ∧ newarray.typeOf t = .boolean) ∧ Cond.arrayClass (newarray.typeOf t) ∈ mm_W := by
    have hi4 : (mm_akind t != 99) = true := hi2
    cases t <;> first
      | exact absurd hi4 (by decide)
      | exact ⟨Or.inl ⟨rfl, rfl⟩, mm_A_use (k := 0) (by decide)⟩
      | exact ⟨Or.inr (Or.inl ⟨rfl, rfl⟩), mm_A_use (k := 1) (by decide)⟩
      | exact ⟨Or.inr (Or.inr ⟨rfl, rfl⟩), mm_A_use (k := 2) (by decide)⟩
  have hk20 : 20 ≤ (mm_kd (M.1 + 1)).1 := by rw [hkd]; show 20 ≤ mm_akind t; omega
  have hsz := (mm_kd_arr hk20).2
  rw [hkd] at hsz
  have hsz : n1.toNat ≤ 40000 := hsz
  have hmem : mm_akind t ∈ [20, 21, 22, 33, 35, 39, 42] := by
    have := (mm_kd_arr hk20).1
    rwa [hkd] at this
  have hty : mm_tyA (mm_akind t) = newarray.typeOf t ∧ defaultValue (newarray.typeOf t) = mm_ev γ (mm_val (mm_zA (mm_akind t)) 0) ∧ componentBytes (newarray.typeOf t) ≤ 8 ∧ ∀ cA, va_RA s cA (newarray.typeOf t) → s.vm.findClass ("[" ++ (newarray.typeOf t).toString) = some cA := by
    rcases ht.1 with ⟨h1, h2⟩ | ⟨h1, h2⟩ | ⟨h1, h2⟩ <;> rw [h1, h2] <;> exact ⟨rfl, rfl, by decide, fun cA h => h⟩
  refine ⟨by show M.1 ≤ Mf.1; omega, fun H locs cells slots ls hR hlo hce hsl hL hlv hst => ?_⟩
  have hR : mm_Rel γ M H := hR
  have had := mm_adn hR hm
  have hce' : cells + n0 = M.1 := hce
  have hsl' : slots + mm_ss n0 = mm_ss M.1 := hsl
  have hn1 : -2147483648 ≤ n1 ∧ n1 < 2147483648 := mm_okl_h hst
  have hbytes : n1.toNat * componentBytes (newarray.typeOf t) ≤ 536870912 := by
    have := Nat.mul_le_mul hsz hty.2.2.1
    omega
  show W p l e R s m args below meth c H locs cells slots Q (F0 m pc ls (.int (Int32.ofInt n1) :: r.map (mm_ev γ)))
  refine va_newaK hx hbb (hts _ ht.2) rfl hd rfl (by rw [mm_0I, mm_ltI hn1 (by omega)]; omega) (mm_clI hn1) hbytes (by omega) (by omega) rfl (fun H1 cA e1 z1 o1 hAr hNm => ?_)
  have hcA : cA = γ.2.2.1 (mm_akind t) := by
    have hra := (hKn.2.1 _ hmem).2
    rw [hty.1] at hra
    exact Option.some.inj (hNm.symm.trans (hty.2.2.2 _ hra))
  subst hcA
  show W p l e R s m args below meth c H1 locs (cells + 1) (slots + n1.toNat) Q (F0 m (pc + 2) ls (.ref H.size :: r.map (mm_ev γ)))
  rw [← had, ← mm_ref (γ := γ) (show 1 ≤ M.1 + 1 by omega)]
  refine hX.2 H1 locs (cells + 1) (slots + n1.toNat) ls (hR.new hm z1 o1 ⟨fun q => absurd q (by omega), fun _ => ?_⟩) hlo (by show cells + 1 + n0 = M.1 + 1; omega) (by show slots + n1.toNat + mm_ss n0 = mm_ss (M.1 + 1); omega) hL (fun q hq => mm_okv_mono (Nat.le_succ _) (hlv q hq)) (mm_okl_c (Or.inl (Nat.le_refl _)) (fun q hq => mm_okv_mono (Nat.le_succ _) (mm_okl_t hst q hq)))
  rw [had, e1, hkd]
  congr 2
  funext j
  rw [mm_zk_arr hk20, hkd]
  exact hty.2.1
theorem mm_o_anew {i : Nat} (C : mm_Ctx p R s m args meth c γ y d) (hrc : Mf.1 ≤ n0 + R.cells) (hrs : mm_ss Mf.1 ≤ mm_ss n0 + R.slots) (hk : mm_chk y (pc, .anewarray i, len, w, a, b, z, v) = true)
    (hw : mm_wq call Rf (mm_X p l e R s m args below meth c Q γ y n0 Mf) M (mm_do (pc, .anewarray i, len, w, a, b, z, v) lv st M)) : mm_X p l e R s m args below meth c Q γ y n0 Mf (pc, lv, st, M) := by
  obtain ⟨hd, hl, hi2⟩ := mm_chk_d hk
  have hlen : len = 3 := by simpa [mm_ln] using hl
  subst hlen
  have hi3 := (Bool.and_eq_true _ _).mp hi2
  obtain ⟨hlink, h0, h14⟩ := mm_cl_use hi3.1
  obtain ⟨hx, hbb, hml, hown, hts, hname, hKn, -⟩ := id C
  rcases st with _ | ⟨n1 | n1 | n1, r⟩
  all_goals first
    | exact False.elim hw
    | skip
  obtain ⟨⟨hm, hkd, h0n⟩, hX⟩ := (hw : (M.1 < mm_max ∧ mm_kd (M.1 + 1) = (30 + a, n1.toNat) ∧ 0 ≤ n1) ∧ mm_X p l e R s m args below meth c Q γ y n0 Mf (pc + 3, lv, .inr (.inr (M.1 + 1)) :: r, mm_nw M))
  have hle : M.1 + 1 ≤ Mf.1 := hX.1
  have hsl1 := mm_ss_le hle
  have hss : mm_ss (M.1 + 1) = mm_ss M.1 + (mm_kd (M.1 + 1)).2 := rfl
  rw [hkd] at hss
  have hss : mm_ss (M.1 + 1) = mm_ss M.1 + n1.toNat := hss
  have hk20 : 20 ≤ (mm_kd (M.1 + 1)).1 := by rw [hkd]; show 20 ≤ 30 + a; omega
  have hsz := (mm_kd_arr hk20).2
  rw [hkd] at hsz
  have hsz : n1.toNat ≤ 40000 := hsz
  have ha : a = 12 ∨ a = 5 ∨ a = 3 ∨ a = 9 := by
    have := hi3.2
    simpa using this
  have hA3 : a ∈ [3, 5, 9, 12] := by
    simp only [List.mem_cons, List.not_mem_nil, or_false]
    omega
  have hmem : 30 + a ∈ [20, 21, 22, 33, 35, 39, 42] := by
    simp only [List.mem_cons, List.not_mem_nil, or_false]
    omega
  have hty : mm_tyA (30 + a) = .object (mm_cn a) ∧ mm_zA (30 + a) = 3 := by
    rcases ha with rfl | rfl | rfl | rfl <;> exact ⟨rfl, rfl⟩
  refine ⟨by show M.1 ≤ Mf.1; omega, fun H locs cells slots ls hR hlo hce hsl hL hlv hst => ?_⟩
  have hR : mm_Rel γ M H := hR
  have had := mm_adn hR hm
  have hce' : cells + n0 = M.1 := hce
  have hsl' : slots + mm_ss n0 = mm_ss M.1 := hsl
  have hn1 : -2147483648 ≤ n1 ∧ n1 < 2147483648 := mm_okl_h hst
  have hcl := mm_clI hn1
  show W p l e R s m args below meth c H locs cells slots Q (F0 m pc ls (.int (Int32.ofInt n1) :: r.map (mm_ev γ)))
  refine W.anew hx hbb hown (hts _ hlink) (va_AO.use (hKn.2.2.1 a hA3)) rfl hd rfl (by rw [mm_0I, mm_ltI hn1 (by omega)]; omega) (by omega) (by omega) (by omega) (fun cA kA comp h1 h2 h3 h4 => ?_)
  have hcA : cA = γ.2.2.1 (30 + a) := by
    have hra := (hKn.2.1 _ hmem).2
    rw [hty.1] at hra
    obtain ⟨_, _, _, _, _, k4⟩ := hra
    exact Option.some.inj (h1.symm.trans k4)
  subst hcA
  rw [hcl]
  show W p l e R s m args below meth c _ locs (cells + 1) (slots + n1.toNat) Q (F0 m (pc + 3) ls (.ref H.size :: r.map (mm_ev γ)))
  rw [← had, ← mm_ref (γ := γ) (show 1 ≤ M.1 + 1 by omega)]
  refine hX.2 _ locs (cells + 1) (slots + n1.toNat) ls (hR.new hm (by simp) (fun q hq => by rw [Array.getElem?_push, if_neg (Nat.ne_of_lt hq)]) ⟨fun q => absurd q (by omega), fun _ => ?_⟩) hlo (by show cells + 1 + n0 = M.1 + 1; omega) (by show slots + n1.toNat + mm_ss n0 = mm_ss (M.1 + 1); omega) hL (fun q hq => mm_okv_mono (Nat.le_succ _) (hlv q hq)) (mm_okl_c (Or.inl (Nat.le_refl _)) (fun q hq => mm_okv_mono (Nat.le_succ _) (mm_okl_t hst q hq)))
  rw [had, arrV_new]
  rw [Array.getElem?_push, if_pos rfl, hkd]
  congr 2
  funext j
  rw [mm_zk_arr hk20, hkd, hty.2]
  rfl
end Make
