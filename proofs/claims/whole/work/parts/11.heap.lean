/-! fields and arrays -/
theorem mm_C_all {a : Nat} (h0 : 0 < a) (h : a < 14) : mm_okC a = true := by
  have := List.all_eq_true.mp mm_okC_all (a - 1) (List.mem_range.mpr (by omega))
  rwa [show a - 1 + 1 = a by omega] at this
theorem mm_C_use {a : Nat} (h0 : 0 < a) (h : a < 14) : Cond.instantiable (mm_cn a) (mm_N a) ∈ mm_W ∧ Cond.initialized (mm_cn a) ∈ mm_W ∧ ∀ k, k < mm_N a → u_lay (mm_cn a) (mm_F a) k ∈ mm_W ∧ parseFieldDescriptor (mm_F a k).2.2.1 = some (mm_ft a k) ∧ (mm_F a k).1 = mm_cn a ∧ mm_tyok (mm_fz a k) (mm_ft a k) = true ∧ ∀ j, j < mm_N a → j ≠ k → (mm_F a j).2.1 ≠ (mm_F a k).2.1 := by
  have hc := mm_C_all h0 h
  unfold mm_okC at hc
  rw [Bool.and_eq_true, Bool.and_eq_true] at hc
  refine ⟨mm_has_of hc.1, mm_has_of hc.2.1, fun k hk => ?_⟩
  have hk2 := List.all_eq_true.mp hc.2.2 k (List.mem_range.mpr hk)
  rw [Bool.and_eq_true, Bool.and_eq_true, Bool.and_eq_true, Bool.and_eq_true] at hk2
  refine ⟨mm_has_of hk2.1, of_decide_eq_true hk2.2.1, of_decide_eq_true hk2.2.2.1, hk2.2.2.2.1, fun j hj hjk => ?_⟩
  have h5 := List.all_eq_true.mp hk2.2.2.2.2 j (List.mem_range.mpr hj)
  rcases (Bool.or_eq_true _ _).mp h5 with h6 | h6
  · exact absurd (by simpa using h6) hjk
  · exact of_decide_eq_true h6
theorem mm_ws_in {a : Nat} (h0 : 0 < a) (h : a < 14) : ∀ w ∈ u_ws (mm_cn a) (mm_F a) (mm_N a), w ∈ mm_W := by
  intro w hw
  unfold u_ws at hw
  obtain ⟨k, hk, rfl⟩ := List.mem_map.mp hw
  exact ((mm_C_use h0 h).2.2 k (List.mem_range.mp hk)).1
theorem mm_fl_use {own : String} {i w a b z : Nat} (h : (match mm_fl[w]? with
        | some (o, j, c, k, _, _) => decide (o = own) && (j == i && (c == a && (k == b && (z == mm_fz a b && decide (0 < a)))))
        | none => false) = true) : Cond.fieldLink own i (mm_F a b).1 (mm_F a b).2.1 (mm_F a b).2.2.1 ∈ mm_W ∧ 0 < a ∧ a < 14 ∧ b < mm_N a ∧ z = mm_fz a b := by
  cases hr : mm_fl[w]? with
  | none => rw [hr] at h; cases h
  | some r =>
    rw [hr] at h
    obtain ⟨o, j, c, k, p1, p2⟩ := r
    simp only [Bool.and_eq_true, decide_eq_true_eq, beq_iff_eq] at h
    obtain ⟨rfl, rfl, rfl, rfl, hz, h0⟩ := h
    have hf := List.all_eq_true.mp mm_okF_all _ (List.mem_of_getElem? hr)
    unfold mm_okF at hf
    dsimp only at hf
    rcases (Bool.or_eq_true _ _).mp hf with hf | hf
    · have : c = 0 := by simpa using hf
      omega
    · rw [Bool.and_eq_true, Bool.and_eq_true] at hf
      exact ⟨mm_has_of hf.1, h0, of_decide_eq_true hf.2.1, of_decide_eq_true hf.2.2, hz⟩
def mm_tf (z : Nat) (u : mm_V) : Prop := match z, u with
  | 0, .inl _ => True
  | 1, .inr (.inl _) => True
  | 2, .inl x => x = 0 ∨ x = 1
  | 3, .inr (.inr _) => True
  | _, _ => False
section Heap
variable {p : Program} {l : Launch} {e : Env} {R : Room} {s : State} {m : MethodId} {args : Array Value} {below : List Frame} {meth : Method} {c : Code} {Q : State → Prop} {γ : mm_G} {y d n0 : Nat} {Mf : mm_M} {call : mm_K} {Rf : mm_P}
variable {pc len w a b z : Nat} {v : Int} {lv : mm_L} {st : List mm_V} {M : mm_M}
theorem mm_ref {o : Nat} (h : 1 ≤ o) : mm_ev γ (.inr (.inr o)) = .ref (mm_ad γ o) := if_neg (by omega)
/-- an object that is there -/
theorem mm_obj {o : Nat} {H : Heap} (hR : mm_Rel γ M H) (hv : mm_okv M.1 (.inr (.inr o))) (h0 : 0 < a) (h14 : a < 14) (hk : (mm_kd o).1 = a) : 1 ≤ o ∧ o ≤ M.1 ∧ (mm_kd o).2 = mm_N a ∧ t_OB (mm_ad γ o) (γ.2.1.1 a) (mm_N a) (γ.2.1.2 a) H (mm_fv γ M o) ∧ mm_okc M o := by
  have hp := mm_kd_pos (k := o) (by omega)
  have hv2 : o ≤ M.1 ∨ 5000 ≤ o := hv
  have hn := (mm_kd_obj (k := o) (by omega) (by omega)).2
  rw [hk] at hn
  have hc := hR.2.2.2 o hp.1 (by omega)
  refine ⟨hp.1, by omega, hn, ?_, hc.2⟩
  have := hc.1.1 (by omega)
  rwa [hk, hn] at this
theorem mm_arr {o : Nat} {H : Heap} (hR : mm_Rel γ M H) (hv : mm_okv M.1 (.inr (.inr o))) (hk : 20 ≤ (mm_kd o).1) : 1 ≤ o ∧ o ≤ M.1 ∧ H[mm_ad γ o]? = some (arrV (γ.2.2.1 (mm_kd o).1) (mm_kd o).2 (mm_fv γ M o)) ∧ mm_okc M o := by
  have hp := mm_kd_pos (k := o) (by omega)
  have hv2 : o ≤ M.1 ∨ 5000 ≤ o := hv
  have hc := hR.2.2.2 o hp.1 (by omega)
  exact ⟨hp.1, by omega, hc.1.2 hk, hc.2⟩
theorem mm_zk_obj {o k : Nat} (h : (mm_kd o).1 = a) (h14 : a < 14) : mm_zk o k = mm_fz a k := by
  unfold mm_zk
  rw [if_pos (by omega), h]
theorem mm_zk_arr {o k : Nat} (h : 20 ≤ (mm_kd o).1) : mm_zk o k = mm_zA (mm_kd o).1 := if_neg (by omega)
theorem mm_apart {a : Nat} (C : mm_Ctx p R s m args meth c γ y d) (h0 : 0 < a) (h14 : a < 14) : ∀ i j, i < mm_N a → j < mm_N a → i ≠ j → γ.2.1.2 a i ≠ γ.2.1.2 a j := by
  intro i j hi hj hne
  obtain ⟨-, -, -, -, hts, -, hKn, -⟩ := C
  obtain ⟨hS, -⟩ := hKn.1 a h0 h14
  obtain ⟨_, _, _, fa, hia, ea⟩ := hS i hi
  obtain ⟨_, _, _, fb, hib, eb⟩ := hS j hj
  rw [← ea, ← eb]
  have u1 := (mm_C_use h0 h14).2.2 i hi
  have u2 := (mm_C_use h0 h14).2.2 j hj
  refine u_apart (u_lays hts (mm_ws_in h0 h14) hi) (u_lays hts (mm_ws_in h0 h14) hj) hia hib ?_
  rw [(State.fieldFound?_type hia u1.2.1).1, (State.fieldFound?_type hib u2.2.1).1]
  exact u2.2.2.2.2 i hi hne
theorem mm_o_get {i : Nat} (C : mm_Ctx p R s m args meth c γ y d) (hk : mm_chk y (pc, .getfield i, len, w, a, b, z, v) = true)
    (hw : mm_wq call Rf (mm_X p l e R s m args below meth c Q γ y n0 Mf) M (mm_do (pc, .getfield i, len, w, a, b, z, v) lv st M)) : mm_X p l e R s m args below meth c Q γ y n0 Mf (pc, lv, st, M) := by
  obtain ⟨hd, hl, hi2⟩ := mm_chk_d hk
  have hlen : len = 3 := by simpa [mm_ln] using hl
  subst hlen
  obtain ⟨hlink, h0, h14, hb, rfl⟩ := mm_fl_use hi2
  obtain ⟨hx, hbb, hml, hown, hts, hname, hKn, -⟩ := id C
  rcases st with _ | ⟨x1 | x1 | o, r⟩
  all_goals first
    | exact False.elim hw
    | skip
  obtain ⟨hkd, hw⟩ := (hw : (mm_kd o).1 = a ∧ mm_X p l e R s m args below meth c Q γ y n0 Mf (pc + 3, lv, mm_val (mm_fz a b) (M.2 o b) :: r, M))
  refine ⟨hw.1, fun H locs cells slots ls hR hlo hce hsl hL hlv hst => ?_⟩
  obtain ⟨h1, h2, h3, ⟨cell, q1, q2, q3, q4⟩, h5⟩ := mm_obj hR (mm_okl_h hst) h0 h14 hkd
  obtain ⟨hS, hfc, kC, hkC, hkind⟩ := hKn.1 a h0 h14
  obtain ⟨cf, kf, fi, f, hfi, hsl2⟩ := hS b hb
  show W p l e R s m args below meth c H locs cells slots Q (F0 m pc ls (mm_ev γ (.inr (.inr o)) :: r.map (mm_ev γ)))
  rw [mm_ref h1]
  refine W.getf hx hbb hown (hts _ hlink) hfi (u_facts hfc hkC (u_lays hts (mm_ws_in h0 h14) hb) hfi).1 q1 (by rw [q3]; exact fun h => by cases h) (v := mm_fv γ M o b) (by rw [hsl2]; exact q4 b hb) rfl rfl hd ?_
  have hz := mm_zk_obj (k := b) hkd h14
  have e : mm_fv γ M o b = mm_ev γ (mm_val (mm_fz a b) (M.2 o b)) := by
    unfold mm_fv
    rw [hz]
  rw [e]
  have hok := h5 b (by rw [h3]; exact hb)
  rw [hz] at hok
  exact hw.2 H locs cells slots ls hR hlo hce hsl hL hlv (mm_okl_c (mm_okn_v hR.2.1 hok) (mm_okl_t hst))
theorem mm_fit (γ : mm_G) {z : Nat} {ty : FieldType} {u : mm_V} (h : mm_tyok z ty = true) (hu : mm_tf z u) : narrow ty (mm_ev γ u) = mm_ev γ u ∧ fits ty (mm_ev γ u) = true := by
  rcases z with _ | _ | _ | _ | z <;> rcases u with x | x | x <;> first
    | exact False.elim hu
    | skip
  · cases ty <;> first | exact ⟨rfl, rfl⟩ | cases h
  · cases ty <;> first | exact ⟨rfl, rfl⟩ | cases h
  · have hx : x = 0 ∨ x = 1 := hu
    cases ty <;> first | (rcases hx with rfl | rfl <;> exact ⟨rfl, rfl⟩) | cases h
  · show narrow ty (if x = 0 then Value.null else Value.ref (mm_ad γ x)) = (if x = 0 then Value.null else Value.ref (mm_ad γ x)) ∧ fits ty (if x = 0 then Value.null else Value.ref (mm_ad γ x)) = true
    by_cases hx : x = 0
    · rw [if_pos hx]; cases ty <;> first | exact ⟨rfl, rfl⟩ | cases h
    · rw [if_neg hx]; cases ty <;> first | exact ⟨rfl, rfl⟩ | cases h
theorem mm_o_put {i : Nat} (C : mm_Ctx p R s m args meth c γ y d) (hk : mm_chk y (pc, .putfield i, len, w, a, b, z, v) = true)
    (hw : mm_wq call Rf (mm_X p l e R s m args below meth c Q γ y n0 Mf) M (mm_do (pc, .putfield i, len, w, a, b, z, v) lv st M)) : mm_X p l e R s m args below meth c Q γ y n0 Mf (pc, lv, st, M) := by
  obtain ⟨hd, hl, hi2⟩ := mm_chk_d hk
  have hlen : len = 3 := by simpa [mm_ln] using hl
  subst hlen
  have hi3 := (Bool.and_eq_true _ _).mp hi2
  obtain ⟨hlink, h0, h14, hb, hzz⟩ := mm_fl_use hi3.1
  have hfin := hi3.2
  obtain ⟨hx, hbb, hml, hown, hts, hname, hKn, -⟩ := id C
  have main : ∀ (u : mm_V) (o : Nat) (x : Int) (r : List mm_V), st = u :: .inr (.inr o) :: r → mm_tf z u → mm_val z x = u → (∀ n, mm_okv n u → n < 5000 → mm_okn n z x) → (mm_kd o).1 = a → mm_X p l e R s m args below meth c Q γ y n0 Mf (pc + 3, lv, r, mm_up M o b x) → mm_X p l e R s m args below meth c Q γ y n0 Mf (pc, lv, st, M) := by
    intro u o x r hst0 hu hval hokx hkd hX
    subst hst0
    refine ⟨hX.1, fun H locs cells slots ls hR hlo hce hsl hL hlv hst => ?_⟩
    obtain ⟨h1, h2, h3, ⟨cell, q1, q2, q3, q4⟩, h5⟩ := mm_obj hR (mm_okl_h (mm_okl_t hst)) h0 h14 hkd
    obtain ⟨hS, hfc, kC, hkC, hkind⟩ := hKn.1 a h0 h14
    obtain ⟨cf, kf, fi, f, hfi, hsl2⟩ := hS b hb
    obtain ⟨-, hty, hdecl, htyk, -⟩ := (mm_C_use h0 h14).2.2 b hb
    have hM : mm_max = 887 := rfl
    have hn := hR.2.1
    rw [hzz] at hu
    have hf := mm_fit γ htyk hu
    have hlay := hts _ (mm_ws_in h0 h14 _ (u_in_lay hb))
    have hst2 := (u_facts hfc hkC (u_lays hts (mm_ws_in h0 h14) hb) hfi).1
    have hap := mm_apart C h0 h14
    have hz := mm_zk_obj (k := b) hkd h14
    have kk : ∀ H' : Heap, H'[mm_ad γ o]? = some (cell.setSlot f.slot (mm_ev γ u)) → H'.size = H.size → (∀ q, q ≠ mm_ad γ o → H'[q]? = H[q]?) → W p l e R s m args below meth c H' (locs ++ [⟨mm_ad γ o, f.slot⟩]) cells slots Q (F0 m (pc + 3) ls (r.map (mm_ev γ))) := by
      intro H' e1 e2 e3
      rw [hsl2] at e1
      have hadl := mm_ad_in (γ := γ) h1 (by omega : o ≤ 887)
      refine hX.2 H' _ cells slots ls (hR.put (by omega) h2 e2 e3 ⟨fun _ => ?_, fun q => absurd q (by omega)⟩ (by rw [hz, ← hzz]; exact hokx _ (mm_okl_h hst) (by omega))) (fun q hq => ?_) hce hsl hL hlv (mm_okl_t (mm_okl_t hst))
      · rw [hkd, h3]
        refine t_OB.to (V := updV (mm_fv γ M o) b (mm_ev γ u)) ⟨_, e1, q2, q3, t_set q4 hap hb _⟩ (fun j _ => ?_)
        unfold updV mm_fv
        by_cases hjb : j = b
        · subst hjb
          rw [if_pos rfl, mm_up_s, hz, ← hzz, hval]
        · rw [if_neg hjb, mm_up_b hjb]
      · rcases List.mem_append.mp hq with hq | hq
        · exact hlo q hq
        · rw [List.mem_singleton.mp hq]
          show γ.1.size ≤ mm_ad γ o
          omega
    show W p l e R s m args below meth c H locs cells slots Q (F0 m pc ls (mm_ev γ u :: mm_ev γ (.inr (.inr o)) :: r.map (mm_ev γ)))
    rw [mm_ref h1]
    unfold u_lay at hlay
    by_cases hfl : (mm_F a b).2.2.2 = true
    · rw [if_pos hfl] at hlay
      rw [hfl] at hfin
      simp only [Bool.not_true, Bool.false_or, Bool.and_eq_true, decide_eq_true_eq] at hfin
      have hcf : m.cls = cf := by
        obtain ⟨_, _, c', _, _, _, -, -, hf', -, -, -, hown2, -⟩ := Cond.laysFinal_spec hlay
        have e1 : c' = cf := by have := hfi.symm.trans hf'; simp at this; exact this.1.symm
        rw [hfin.2] at hown2
        rw [← e1]; exact Option.some.inj (hown.symm.trans hown2)
      exact W.putFinK hx hbb hown (hts _ hlink) hfi hst2 hcf (by
        rw [hname (by
          intro h0y
          subst h0y
          exact absurd hfin.1 (by decide +kernel))]
        exact hfin.1) (by rw [q2]; exact u_fits hfc hkC hkind (Or.inr hlay) hfi hty hf.1 hf.2) q1 q3 (by rw [hsl2]; exact k2_hasslot (q4 b hb)) rfl rfl hd kk
    · rw [if_neg hfl] at hlay
      exact W.putK hx hbb (f := f) ⟨hown, hts _ hlink, ⟨_, _, _, hfi⟩, hst2⟩ (by rw [q2]; exact u_store hfc hkC hkind hlay hfi hty hf.1 hf.2) q1 q3 (by rw [hsl2]; exact k2_hasslot (q4 b hb)) rfl rfl hd kk
  rcases z with _ | _ | _ | _ | z <;> rcases st with _ | ⟨x1 | x1 | x1, _ | ⟨o1 | o1 | o, r⟩⟩ <;> first
    | exact False.elim hw
    | skip
  · exact main _ o x1 r rfl trivial rfl (fun n h _ => h) hw.1 hw.2
  · exact main _ o x1 r rfl trivial rfl (fun n h _ => h) hw.1 hw.2
  · exact main _ o x1 r rfl hw.1.2 rfl (fun n h _ => hw.1.2) hw.1.1 hw.2
  · refine main _ o (x1 : Int) r rfl trivial ?_ (fun n h h5 => ?_) hw.1.1 hw.2
    · show (Sum.inr (Sum.inr (x1 : Int).toNat) : mm_V) = _
      rw [Int.toNat_natCast]
    · have h6 : x1 ≤ n ∨ 5000 ≤ x1 := h
      have h7 := hw.1.2
      show 0 ≤ (x1 : Int) ∧ (x1 : Int) ≤ (n : Int)
      omega
end Heap
