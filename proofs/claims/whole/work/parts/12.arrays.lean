/-! arrays: reads, writes, new ones, copies -/
section Arr
variable {p : Program} {l : Launch} {e : Env} {R : Room} {s : State} {m : MethodId} {args : Array Value} {below : List Frame} {meth : Method} {c : Code} {Q : State → Prop} {γ : mm_G} {y d n0 : Nat} {Mf : mm_M} {call : mm_K} {Rf : mm_P}
variable {pc len w a b z : Nat} {v : Int} {lv : mm_L} {st : List mm_V} {M : mm_M}
/-- an element is read -/
theorem mm_o_ald (k t : Nat) (C : mm_Ctx p R s m args meth c γ y d) (hk20 : k = 20 ∧ t = 0 ∨ k = 21 ∧ t = 1 ∨ k = 22 ∧ t = 0)
    (row : ∀ (H : Heap) (locs : List Loc) (cells slots : Nat) (ls : Array Slot) (rest : List Value) (ad : Addr) (cell : Cell) (j : Int32) (u : Value), H[ad]? = some cell → s.isArrayOf cell (mm_tyA k) → cell.vm ≠ .unknown → ¬ (j < 0 ∨ cell.slots.size ≤ j.toNatClampNeg) → cell.slots[j.toNatClampNeg]? = some u → W p l e R s m args below meth c H locs cells slots Q (F0 m (pc + len) ls (u :: rest)) → W p l e R s m args below meth c H locs cells slots Q (F0 m pc ls (.int j :: .ref ad :: rest)))
    (hw : mm_wq call Rf (mm_X p l e R s m args below meth c Q γ y n0 Mf) M (mm_ald k (pc + len) t lv st M)) : mm_X p l e R s m args below meth c Q γ y n0 Mf (pc, lv, st, M) := by
  obtain ⟨hx, hbb, hml, hown, hts, hname, hKn, -⟩ := id C
  rcases st with _ | ⟨i1 | i1 | i1, _ | ⟨o1 | o1 | o, r⟩⟩
  all_goals first
    | exact False.elim hw
    | skip
  obtain ⟨⟨hkd, h0i, hin⟩, hX⟩ := (hw : ((mm_kd o).1 = k ∧ 0 ≤ i1 ∧ i1 < ((mm_kd o).2 : Int)) ∧ mm_X p l e R s m args below meth c Q γ y n0 Mf (pc + len, lv, mm_val t (M.2 o i1.toNat) :: r, M))
  refine ⟨hX.1, fun H locs cells slots ls hR hlo hce hsl hL hlv hst => ?_⟩
  obtain ⟨h1, h2, h3, h4⟩ := mm_arr hR (mm_okl_h (mm_okl_t hst)) (by omega)
  have hi : -2147483648 ≤ i1 ∧ i1 < 2147483648 := mm_okl_h hst
  have hz := mm_zk_arr (o := o) (k := i1.toNat) (by omega)
  have hA := (hKn.2.1 (mm_kd o).1 (mm_kd_arr (by omega)).1).1 (mm_kd o).2 (mm_fv γ M o)
  have hlt : i1.toNat < (mm_kd o).2 := by omega
  have ht : mm_val (mm_zk o i1.toNat) (M.2 o i1.toNat) = mm_val t (M.2 o i1.toNat) := by
    rw [hz, hkd]
    rcases hk20 with ⟨rfl, rfl⟩ | ⟨rfl, rfl⟩ | ⟨rfl, rfl⟩ <;> rfl
  show W p l e R s m args below meth c H locs cells slots Q (F0 m pc ls (.int (Int32.ofInt i1) :: mm_ev γ (.inr (.inr o)) :: r.map (mm_ev γ)))
  rw [mm_ref h1]
  refine row _ _ _ _ _ _ _ _ _ (mm_fv γ M o i1.toNat) h3 (by rw [← hkd]; exact hA) (fun q => by cases q) (by rw [arrV_size]; exact mm_vin hi h0i hin) (by rw [mm_clI hi]; exact arrV_read _ _ hlt) ?_
  have hok := mm_okn_v hR.2.1 (h4 i1.toNat hlt)
  rw [ht] at hok
  have e : mm_fv γ M o i1.toNat = mm_ev γ (mm_val t (M.2 o i1.toNat)) := by unfold mm_fv; rw [ht]
  rw [e]
  exact hX.2 H locs cells slots ls hR hlo hce hsl hL hlv (mm_okl_c hok (mm_okl_t (mm_okl_t hst)))
theorem mm_o_aald (C : mm_Ctx p R s m args meth c γ y d) (hk : mm_chk y (pc, .aaload, len, w, a, b, z, v) = true)
    (hw : mm_wq call Rf (mm_X p l e R s m args below meth c Q γ y n0 Mf) M (mm_do (pc, .aaload, len, w, a, b, z, v) lv st M)) : mm_X p l e R s m args below meth c Q γ y n0 Mf (pc, lv, st, M) := by
  obtain ⟨hd, hl, -⟩ := mm_chk_d hk
  have hlen : len = 1 := by simpa [mm_ln] using hl
  subst hlen
  obtain ⟨hx, hbb, hml, hown, hts, hname, hKn, -⟩ := id C
  rcases st with _ | ⟨i1 | i1 | i1, _ | ⟨o1 | o1 | o, r⟩⟩
  all_goals first
    | exact False.elim hw
    | skip
  obtain ⟨⟨hkd, h0i, hin⟩, hX⟩ := (hw : (30 < (mm_kd o).1 ∧ 0 ≤ i1 ∧ i1 < ((mm_kd o).2 : Int)) ∧ mm_X p l e R s m args below meth c Q γ y n0 Mf (pc + 1, lv, .inr (.inr (M.2 o i1.toNat).toNat) :: r, M))
  refine ⟨hX.1, fun H locs cells slots ls hR hlo hce hsl hL hlv hst => ?_⟩
  obtain ⟨h1, h2, h3, h4⟩ := mm_arr hR (mm_okl_h (mm_okl_t hst)) (by omega)
  have hi : -2147483648 ≤ i1 ∧ i1 < 2147483648 := mm_okl_h hst
  have hz := mm_zk_arr (o := o) (k := i1.toNat) (by omega)
  have hmem := (mm_kd_arr (k := o) (by omega)).1
  have hA := (hKn.2.1 (mm_kd o).1 hmem).1 (mm_kd o).2 (mm_fv γ M o)
  have hlt : i1.toNat < (mm_kd o).2 := by omega
  have hz3 : mm_zA (mm_kd o).1 = 3 ∧ (mm_tyA (mm_kd o).1).isReference = true := by
    generalize (mm_kd o).1 = k at hkd hmem
    simp only [List.mem_cons, List.not_mem_nil, or_false] at hmem
    rcases hmem with rfl | rfl | rfl | rfl | rfl | rfl | rfl <;> first
      | omega
      | exact ⟨rfl, rfl⟩
  show W p l e R s m args below meth c H locs cells slots Q (F0 m pc ls (.int (Int32.ofInt i1) :: mm_ev γ (.inr (.inr o)) :: r.map (mm_ev γ)))
  rw [mm_ref h1]
  refine W.aald hx hbb (v := mm_fv γ M o i1.toNat) h3 hA hz3.2 (fun q => by cases q) (by rw [arrV_size]; exact mm_vin hi h0i hin) (by rw [mm_clI hi]; exact arrV_read _ _ hlt) rfl rfl hd ?_
  have hok := h4 i1.toNat hlt
  rw [hz, hz3.1] at hok
  have hok := mm_okn_v hR.2.1 hok
  have e : mm_fv γ M o i1.toNat = mm_ev γ (.inr (.inr (M.2 o i1.toNat).toNat)) := by unfold mm_fv; rw [hz, hz3.1]; rfl
  rw [e]
  exact hX.2 H locs cells slots ls hR hlo hce hsl hL hlv (mm_okl_c hok (mm_okl_t (mm_okl_t hst)))
/-- an element is written -/
theorem mm_o_ast1 (k : Nat) (C : mm_Ctx p R s m args meth c γ y d) {u : mm_V} {i1 x : Int} {o : Nat} {r : List mm_V} (hst0 : st = u :: .inl i1 :: .inr (.inr o) :: r) (hk20 : 20 ≤ k) (hkd : (mm_kd o).1 = k) (h0i : 0 ≤ i1) (hin : i1 < ((mm_kd o).2 : Int)) (hval : mm_val (mm_zA k) x = u) (hokx : ∀ n, n < 5000 → mm_okv n u → mm_okn n (mm_zA k) x)
    (row : ∀ (H : Heap) (locs : List Loc) (cells slots : Nat) (ls : Array Slot) (rest : List Value) (ad : Addr) (cell : Cell) (j : Int32), mm_Rel γ M H → mm_okl M.1 st → H[ad]? = some cell → cell.cls = γ.2.2.1 k → s.isArrayOf cell (mm_tyA k) → cell.vm = .none → ¬ (j < 0 ∨ cell.slots.size ≤ j.toNatClampNeg) → (∀ H' : Heap, H'[ad]? = some (cell.setSlot j.toNatClampNeg (mm_ev γ u)) → H'.size = H.size → (∀ q, q ≠ ad → H'[q]? = H[q]?) → W p l e R s m args below meth c H' (locs ++ [⟨ad, j.toNatClampNeg⟩]) cells slots Q (F0 m (pc + len) ls rest)) → W p l e R s m args below meth c H locs cells slots Q (F0 m pc ls (mm_ev γ u :: .int j :: .ref ad :: rest)))
    (hX : mm_X p l e R s m args below meth c Q γ y n0 Mf (pc + len, lv, r, mm_up M o i1.toNat x)) : mm_X p l e R s m args below meth c Q γ y n0 Mf (pc, lv, st, M) := by
  obtain ⟨hx, hbb, hml, hown, hts, hname, hKn, -⟩ := id C
  subst hst0
  refine ⟨hX.1, fun H locs cells slots ls hR hlo hce hsl hL hlv hst => ?_⟩
  have hso := mm_okl_t (mm_okl_t hst)
  obtain ⟨h1, h2, h3, h4⟩ := mm_arr hR (mm_okl_h hso) (by omega)
  have hi : -2147483648 ≤ i1 ∧ i1 < 2147483648 := mm_okl_h (mm_okl_t hst)
  have hz := mm_zk_arr (o := o) (k := i1.toNat) (by omega)
  have hA := (hKn.2.1 (mm_kd o).1 (mm_kd_arr (by omega)).1).1 (mm_kd o).2 (mm_fv γ M o)
  have hlt : i1.toNat < (mm_kd o).2 := by omega
  have hM : mm_max = 887 := rfl
  have hn := hR.2.1
  have hadl := mm_ad_in (γ := γ) h1 (by omega : o ≤ 887)
  show W p l e R s m args below meth c H locs cells slots Q (F0 m pc ls (mm_ev γ u :: .int (Int32.ofInt i1) :: mm_ev γ (.inr (.inr o)) :: r.map (mm_ev γ)))
  rw [mm_ref h1]
  refine row _ _ _ _ _ _ _ _ _ hR hst h3 (by rw [hkd]; rfl) (by rw [← hkd]; exact hA) rfl (by rw [arrV_size]; exact mm_vin hi h0i hin) (fun H' e1 e2 e3 => ?_)
  rw [mm_clI hi] at e1
  rw [arrV_store] at e1
  refine hX.2 H' _ cells slots ls (hR.put (by omega) h2 e2 e3 ⟨fun q => absurd q (by omega), fun _ => ?_⟩ (by rw [hz, hkd]; exact hokx _ (by omega) (mm_okl_h hst))) (fun q hq => ?_) hce hsl hL hlv (mm_okl_t hso)
  · rw [e1]
    congr 2
    funext j
    unfold updV mm_fv
    by_cases hj : j = i1.toNat
    · subst hj
      rw [if_pos rfl, mm_up_s, hz, hkd, hval]
    · rw [if_neg hj, mm_up_b hj]
  · rcases List.mem_append.mp hq with hq | hq
    · exact hlo q hq
    · rw [List.mem_singleton.mp hq]
      show γ.1.size ≤ mm_ad γ o
      omega
theorem mm_o_ast {ins : Instr} (k : Nat) (C : mm_Ctx p R s m args meth c γ y d) (hd : decode (mm_b y) pc = .ok (ins, 1)) (hins : k = 0 ∧ ins = .iastore ∨ k = 1 ∧ ins = .lastore ∨ k = 2 ∧ ins = .bastore ∨ k = 3 ∧ ins = .aastore)
    (hw : mm_wq call Rf (mm_X p l e R s m args below meth c Q γ y n0 Mf) M (mm_ast k (pc + 1) lv st M)) : mm_X p l e R s m args below meth c Q γ y n0 Mf (pc, lv, st, M) := by
  obtain ⟨hx, hbb, hml, hown, hts, hname, hKn, -⟩ := id C
  rcases hins with ⟨rfl, rfl⟩ | ⟨rfl, rfl⟩ | ⟨rfl, rfl⟩ | ⟨rfl, rfl⟩
  · rcases st with _ | ⟨x1 | x1 | x1, _ | ⟨i1 | i1 | i1, _ | ⟨o1 | o1 | o, r⟩⟩⟩
    all_goals first
      | exact False.elim hw
      | skip
    obtain ⟨⟨hkd, h0i, hin⟩, hX⟩ := (hw : ((mm_kd o).1 = 20 ∧ 0 ≤ i1 ∧ i1 < ((mm_kd o).2 : Int)) ∧ mm_X p l e R s m args below meth c Q γ y n0 Mf (pc + 1, lv, r, mm_up M o i1.toNat x1))
    exact mm_o_ast1 20 C (u := .inl x1) rfl (by decide) hkd h0i hin rfl (fun n _ h => h) (fun H locs cells slots ls rest ad cell j hR hst g1 gc g2 g3 g4 kk => W.iast hx hbb g1 g2 (by rw [g3]; exact fun q => by cases q) g4 rfl rfl hd kk) hX
  · rcases st with _ | ⟨x1 | x1 | x1, _ | ⟨i1 | i1 | i1, _ | ⟨o1 | o1 | o, r⟩⟩⟩
    all_goals first
      | exact False.elim hw
      | skip
    obtain ⟨⟨hkd, h0i, hin⟩, hX⟩ := (hw : ((mm_kd o).1 = 21 ∧ 0 ≤ i1 ∧ i1 < ((mm_kd o).2 : Int)) ∧ mm_X p l e R s m args below meth c Q γ y n0 Mf (pc + 1, lv, r, mm_up M o i1.toNat x1))
    exact mm_o_ast1 21 C (u := .inr (.inl x1)) rfl (by decide) hkd h0i hin rfl (fun n _ h => h) (fun H locs cells slots ls rest ad cell j hR hst g1 gc g2 g3 g4 kk => W.last hx hbb g1 g2 (by rw [g3]; exact fun q => by cases q) g4 rfl rfl hd kk) hX
  · rcases st with _ | ⟨x1 | x1 | x1, _ | ⟨i1 | i1 | i1, _ | ⟨o1 | o1 | o, r⟩⟩⟩
    all_goals first
      | exact False.elim hw
      | skip
    obtain ⟨⟨hkd, h01, h0i, hin⟩, hX⟩ := (hw : ((mm_kd o).1 = 22 ∧ (x1 = 0 ∨ x1 = 1) ∧ 0 ≤ i1 ∧ i1 < ((mm_kd o).2 : Int)) ∧ mm_X p l e R s m args below meth c Q γ y n0 Mf (pc + 1, lv, r, mm_up M o i1.toNat x1))
    have hnr : narrow .boolean (.int (Int32.ofInt x1)) = .int (Int32.ofInt x1) := by rcases h01 with rfl | rfl <;> rfl
    exact mm_o_ast1 22 C (u := .inl x1) rfl (by decide) hkd h0i hin rfl (fun n _ h => h01) (fun H locs cells slots ls rest ad cell j hR hst g1 gc g2 g3 g4 kk => W.zast hx hbb g1 g2 (by rw [g3]; exact fun q => by cases q) g4 rfl rfl hd (fun H' e1 e2 e3 => kk H' (by rw [e1, hnr]; rfl) e2 e3)) hX
  · rcases st with _ | ⟨x1 | x1 | x1, _ | ⟨i1 | i1 | i1, _ | ⟨o1 | o1 | o, r⟩⟩⟩
    all_goals first
      | exact False.elim hw
      | skip
    obtain ⟨⟨hkd, hx0, hx20, h0i, hin⟩, hX⟩ := (hw : ((mm_kd o).1 = 30 + (mm_kd x1).1 ∧ 0 < (mm_kd x1).1 ∧ (mm_kd x1).1 < 20 ∧ 0 ≤ i1 ∧ i1 < ((mm_kd o).2 : Int)) ∧ mm_X p l e R s m args below meth c Q γ y n0 Mf (pc + 1, lv, r, mm_up M o i1.toNat (x1 : Int)))
    have hx14 := (mm_kd_obj (k := x1) (by omega) hx20).1
    have hz3 : mm_zA (30 + (mm_kd x1).1) = 3 ∧ mm_tyA (30 + (mm_kd x1).1) = .object (mm_cn (mm_kd x1).1) := by
      generalize (mm_kd x1).1 = q at hx0 hx14
      obtain ⟨q, rfl⟩ : ∃ j, q = j + 1 := ⟨q - 1, by omega⟩
      have e : 30 + (q + 1) = q + 31 := by omega
      rw [e]
      refine ⟨rfl, ?_⟩
      show FieldType.object (mm_cn (q + 31 - 30)) = _
      rw [show q + 31 - 30 = q + 1 by omega]
    refine mm_o_ast1 (30 + (mm_kd x1).1) C (u := .inr (.inr x1)) rfl (by omega) hkd h0i hin ?_ (fun n h5 h => ?_) (fun H locs cells slots ls rest ad cell j hR hst g1 gc g2 g3 g4 kk => ?_) hX
    · rw [hz3.1]
      show (Sum.inr (Sum.inr (x1 : Int).toNat) : mm_V) = _
      rw [Int.toNat_natCast]
    · have h6 : x1 ≤ n ∨ 5000 ≤ x1 := h
      have := mm_kd_pos (k := x1) (by omega)
      rw [hz3.1]
      show 0 ≤ (x1 : Int) ∧ (x1 : Int) ≤ (n : Int)
      omega
    · obtain ⟨hv1, hv2, hv3, ⟨cellV, q1, q2, q3, -⟩, -⟩ := mm_obj hR (mm_okl_h hst) hx0 hx14 rfl
      have hmem : 30 + (mm_kd x1).1 ∈ [20, 21, 22, 33, 35, 39, 42] := by
        have := (mm_kd_arr (k := o) (by omega)).1
        rwa [hkd] at this
      have hra := (hKn.2.1 _ hmem).2
      rw [hz3.2] at hra
      obtain ⟨kA, comp, k1, k2, k3, -⟩ := hra
      have hcls := (hKn.1 _ hx0 hx14).2
      have hcomp : comp = γ.2.1.1 (mm_kd x1).1 := Option.some.inj (k3.symm.trans hcls.1)
      subst hcomp
      obtain ⟨kC, hkC, -⟩ := hcls.2
      have hnn : ¬ j < 0 ∧ j.toNatClampNeg < cell.slots.size := ⟨fun q => g4 (Or.inl q), Nat.not_le.mp fun q => g4 (Or.inr q)⟩
      rw [mm_ref hv1] at kk ⊢
      exact W.aast hx hbb g1 (by rw [g3]; exact fun q h => by cases h) (by rw [g3]; exact fun h => by cases h) (by rw [gc]; exact k1) k2 rfl hkC hnn q1 (fun q h => by rw [q3] at h; cases h) (by rw [q2]; exact hkC) (by rw [q2]; exact va_assign hcls) rfl rfl hd kk
theorem mm_o_alen (C : mm_Ctx p R s m args meth c γ y d) (hk : mm_chk y (pc, .arraylength, len, w, a, b, 0, v) = true)
    (hw : mm_wq call Rf (mm_X p l e R s m args below meth c Q γ y n0 Mf) M (mm_do (pc, .arraylength, len, w, a, b, 0, v) lv st M)) : mm_X p l e R s m args below meth c Q γ y n0 Mf (pc, lv, st, M) := by
  obtain ⟨hd, hl, -⟩ := mm_chk_d hk
  have hlen : len = 1 := by simpa [mm_ln] using hl
  subst hlen
  obtain ⟨hx, hbb, hml, hown, hts, hname, hKn, -⟩ := id C
  rcases st with _ | ⟨o1 | o1 | o, r⟩
  all_goals first
    | exact False.elim hw
    | skip
  obtain ⟨hkd, hX⟩ := (hw : 20 ≤ (mm_kd o).1 ∧ mm_X p l e R s m args below meth c Q γ y n0 Mf (pc + 1, lv, .inl ((mm_kd o).2 : Int) :: r, M))
  refine ⟨hX.1, fun H locs cells slots ls hR hlo hce hsl hL hlv hst => ?_⟩
  obtain ⟨h1, h2, h3, h4⟩ := mm_arr hR (mm_okl_h hst) (by omega)
  have hmem := mm_kd_arr hkd
  have hA := (hKn.2.1 (mm_kd o).1 hmem.1).1 (mm_kd o).2 (mm_fv γ M o)
  show W p l e R s m args below meth c H locs cells slots Q (F0 m pc ls (mm_ev γ (.inr (.inr o)) :: r.map (mm_ev γ)))
  rw [mm_ref h1]
  refine W.alen (n := Int32.ofInt ((mm_kd o).2 : Int)) hx hbb h3 hA (by rw [arrV_size]; rfl) rfl rfl hd ?_
  exact hX.2 H locs cells slots ls hR hlo hce hsl hL hlv (mm_okl_c (show -2147483648 ≤ ((mm_kd o).2 : Int) ∧ ((mm_kd o).2 : Int) < 2147483648 by omega) (mm_okl_t hst))
end Arr
