/-! from the small machine's meaning to the method's contract -/
theorem mm_at_mem : ∀ {code : List mm_E} {pc : Nat} {e : mm_E}, mm_at code pc = some e → e ∈ code ∧ e.1 = pc
  | [], _, _, h => by cases h
  | e :: t, pc, e2, h => by
    unfold mm_at at h
    by_cases q : e.1 = pc
    · rw [if_pos q] at h
      cases h
      exact ⟨List.mem_cons_self, q⟩
    · rw [if_neg q] at h
      exact ⟨List.mem_cons_of_mem _ (mm_at_mem h).1, (mm_at_mem h).2⟩
section MM
variable {p : Program} {l : Launch} {e : Env} {R : Room} {s : State} {m : MethodId} {args : Array Value} {below : List Frame} {meth : Method} {c : Code} {Q : State → Prop} {γ : mm_G} {y d n0 : Nat} {Mf : mm_M} {Rf : mm_P}
theorem mm_Go_X (hchk : (mm_code y).all (mm_chk y) = true) (C : mm_Ctx p R s m args meth c γ y d) (hmx : ∀ y, y < 310 → mm_mx y = mm_ml_ y ∧ mm_mx y ≤ 28) (hrc : Mf.1 ≤ n0 + R.cells) (hrs : mm_ss Mf.1 ≤ mm_ss n0 + R.slots) (hscr : mm_Scr s γ y)
    (hIH : ∀ (a : Nat) (as : List mm_V) (M : mm_M) (v : Option mm_V) (M1 : mm_M), 0 < a → a < 310 → mm_okl M.1 as → mm_run d a as M (fun x y => x = v ∧ y = M1) → mm_Mt l γ d a as M v M1)
    (hret : ∀ (pc : Nat) (ins : Instr) (len w a b z : Nat) (v : Int) (lv : mm_L) (st : List mm_V) (M : mm_M), mm_isret ins = true → mm_chk y (pc, ins, len, w, a, b, z, v) = true → mm_wq (mm_run d) Rf (mm_X p l e R s m args below meth c Q γ y n0 Mf) M (mm_do (pc, ins, len, w, a, b, z, v) lv st M) → mm_X p l e R s m args below meth c Q γ y n0 Mf (pc, lv, st, M))
    {k : mm_C} (h : mm_Go (mm_run d) (mm_code y) Rf k) : mm_X p l e R s m args below meth c Q γ y n0 Mf k := by
  refine h (mm_X p l e R s m args below meth c Q γ y n0 Mf) (fun k hw => ?_)
  obtain ⟨pc, lv, st, M⟩ := k
  unfold mm_wp at hw
  dsimp only at hw
  cases he : mm_at (mm_code y) pc with
  | none => rw [he] at hw; exact hw.elim
  | some en =>
    rw [he] at hw
    obtain ⟨hm, hpc⟩ := mm_at_mem he
    obtain ⟨pc2, ins, len, w, a, b, z, v⟩ := en
    have hpc : pc2 = pc := hpc
    subst hpc
    exact mm_step C hmx hrc hrs hscr hIH hret _ _ _ _ _ _ _ _ _ _ _ (List.all_eq_true.mp hchk _ hm) hw
theorem mm_ret (C : mm_Ctx p R s m args meth c γ y d) (hr : meth.sig.returnType = mm_rt y) (hlocks : meth.locks = false) (vf : Option mm_V)
    {pc : Nat} {ins : Instr} {len w a b z : Nat} {v : Int} {lv : mm_L} {st : List mm_V} {M : mm_M} (hi : mm_isret ins = true) (hk : mm_chk y (pc, ins, len, w, a, b, z, v) = true)
    (hw : mm_wq (mm_run d) (fun x y => x = vf ∧ y = Mf) (mm_X p l e R s m args below meth c (MQ below (mm_Qc γ vf Mf) args s (Mf.1 - n0) (mm_ss Mf.1 - mm_ss n0) (fun q => γ.1.size ≤ q)) γ y n0 Mf) M (mm_do (pc, ins, len, w, a, b, z, v) lv st M)) :
    mm_X p l e R s m args below meth c (MQ below (mm_Qc γ vf Mf) args s (Mf.1 - n0) (mm_ss Mf.1 - mm_ss n0) (fun q => γ.1.size ≤ q)) γ y n0 Mf (pc, lv, st, M) := by
  obtain ⟨hd, hl, hch⟩ := mm_chk_d hk
  obtain ⟨hx, hbb, hml, hown, hts, hname, hKn, hfr, hlo47⟩ := id C
  have one : (len == 1) = true → len = 1 := fun h => by simpa using h
  cases ins <;> first
    | (cases hi; done)
    | skip
  · obtain rfl := one hl
    rcases st with _ | ⟨x1 | x1 | x1, _ | ⟨o1, r⟩⟩
    all_goals first
      | exact False.elim hw
      | skip
    exact (by
      have hw2 : mm_wq (mm_run d) (fun x y => x = vf ∧ y = Mf) (mm_X p l e R s m args below meth c (MQ below (mm_Qc γ vf Mf) args s (Mf.1 - n0) (mm_ss Mf.1 - mm_ss n0) (fun q => γ.1.size ≤ q)) γ y n0 Mf) M (mm_re (some (.inr (.inr x1)))) := hw
      obtain ⟨e1, e2⟩ := (hw2 : some (.inr (.inr x1)) = vf ∧ M = Mf)
      subst e1; subst e2
      refine ⟨Nat.le_refl _, fun H locs cells slots ls hR hlo hce hsl hL hlv hst => ?_⟩
      have hce : cells + n0 = M.1 := hce
      have hsl : slots + mm_ss n0 = mm_ss M.1 := hsl
      have hrt : ∃ n, mm_rt y = some (.object n) := by
        have h2 : (match mm_rt y with
          | some (.object _) => true
          | _ => false) = true := hch
        split at h2
        · rename_i n h3; exact ⟨n, h3⟩
        · cases h2
      obtain ⟨n, hn⟩ := hrt
      refine W.cs (cells' := M.1 - n0) (slots' := mm_ss M.1 - mm_ss n0) (by omega) (by omega) ?_
      exact W.aret (rt := .object n) hx hbb (by rw [hr]; exact hn) (Or.inl ⟨n, rfl⟩) (by
        show (if x1 = 0 then Value.null else Value.ref (mm_ad γ x1)) = .null ∨ ∃ a, (if x1 = 0 then Value.null else Value.ref (mm_ad γ x1)) = .ref a
        by_cases h0 : x1 = 0
        · rw [if_pos h0]; exact Or.inl rfl
        · rw [if_neg h0]; exact Or.inr ⟨_, rfl⟩) (fun t ht hW => ⟨rfl, by rw [ht]; exact hR, fun u hu => by cases hu; exact mm_okl_h hst⟩) hlo hd hlocks)
  · obtain rfl := one hl
    rcases st with _ | ⟨x1 | x1 | x1, _ | ⟨o1, r⟩⟩
    all_goals first
      | exact False.elim hw
      | skip
    rcases z with _ | z
    · obtain ⟨e1, e2⟩ := (hw : some (.inl x1) = vf ∧ M = Mf)
      subst e1; subst e2
      refine ⟨Nat.le_refl _, fun H locs cells slots ls hR hlo hce hsl hL hlv hst => ?_⟩
      have hce : cells + n0 = M.1 := hce
      have hsl : slots + mm_ss n0 = mm_ss M.1 := hsl
      have hrt : mm_rt y = some .int := of_decide_eq_true hch
      refine W.cs (cells' := M.1 - n0) (slots' := mm_ss M.1 - mm_ss n0) (by omega) (by omega) ?_
      exact W.iret hx hbb (by rw [hr]; exact hrt) (fun t ht hW => ⟨rfl, by rw [ht]; exact hR, fun u hu => by cases hu; exact mm_okl_h hst⟩) hlo hd hlocks
    · obtain ⟨h01, e1, e2⟩ := (hw : (x1 = 0 ∨ x1 = 1) ∧ some (.inl x1) = vf ∧ M = Mf)
      subst e1; subst e2
      refine ⟨Nat.le_refl _, fun H locs cells slots ls hR hlo hce hsl hL hlv hst => ?_⟩
      have hce : cells + n0 = M.1 := hce
      have hsl : slots + mm_ss n0 = mm_ss M.1 := hsl
      have hrt : mm_rt y = some .boolean := of_decide_eq_true hch
      refine W.cs (cells' := M.1 - n0) (slots' := mm_ss M.1 - mm_ss n0) (by omega) (by omega) ?_
      exact W.zret (ty := .boolean) hx hbb (by rw [hr]; exact hrt) (by rcases h01 with rfl | rfl <;> rfl) (fun t ht hW => ⟨rfl, by rw [ht]; exact hR, fun u hu => by cases hu; exact mm_okl_h hst⟩) hlo hd hlocks
  · obtain rfl := one hl
    rcases st with _ | ⟨x1 | x1 | x1, _ | ⟨o1, r⟩⟩
    all_goals first
      | exact False.elim hw
      | skip
    obtain ⟨e1, e2⟩ := (hw : some (.inr (.inl x1)) = vf ∧ M = Mf)
    subst e1; subst e2
    refine ⟨Nat.le_refl _, fun H locs cells slots ls hR hlo hce hsl hL hlv hst => ?_⟩
    have hce : cells + n0 = M.1 := hce
    have hsl : slots + mm_ss n0 = mm_ss M.1 := hsl
    have hrt : mm_rt y = some .long := of_decide_eq_true hch
    refine W.cs (cells' := M.1 - n0) (slots' := mm_ss M.1 - mm_ss n0) (by omega) (by omega) ?_
    exact W.lret hx hbb (by rw [hr]; exact hrt) (fun t ht hW => ⟨rfl, by rw [ht]; exact hR, fun u hu => by cases hu; exact mm_okl_h hst⟩) hlo hd hlocks
  · obtain rfl := one hl
    rcases st with _ | ⟨x1, r⟩
    all_goals first
      | exact False.elim hw
      | skip
    obtain ⟨e1, e2⟩ := (hw : none = vf ∧ M = Mf)
    subst e1; subst e2
    refine ⟨Nat.le_refl _, fun H locs cells slots ls hR hlo hce hsl hL hlv hst => ?_⟩
    have hce : cells + n0 = M.1 := hce
    have hsl : slots + mm_ss n0 = mm_ss M.1 := hsl
    have hrt : mm_rt y = none := of_decide_eq_true hch
    refine W.cs (cells' := M.1 - n0) (slots' := mm_ss M.1 - mm_ss n0) (by omega) (by omega) ?_
    exact W.vret hx hbb (by rw [hr]; exact hrt) (fun t ht hW => ⟨rfl, by rw [ht]; exact hR, fun u hu => by cases hu⟩) hlo hd hlocks
end MM
theorem mm_sl_len (γ : mm_G) : ∀ as : List mm_V, (lg_sl (as.map (mm_ev γ))).length = mm_ws as
  | [] => rfl
  | v :: t => by
    have e : lg_sl ((v :: t).map (mm_ev γ)) = (if (mm_ev γ v).category = 2 then [Slot.val (mm_ev γ v), .second] else [.val (mm_ev γ v)]) ++ lg_sl (t.map (mm_ev γ)) := by
      unfold lg_sl
      rw [List.map_cons, List.flatMap_cons]
    rw [e, List.length_append, mm_sl_len γ t, mm_cat]
    show _ = (if mm_is2 v = true then 2 else 1) + mm_ws t
    cases mm_is2 v <;> rfl
theorem mm_args_E (γ : mm_G) : ∀ (as : List mm_V) (i : Nat), lv_args i (as.map (mm_ev γ)) = mm_E1 γ (mm_args i as)
  | [], _ => rfl
  | v :: t, i => by
    have e : (if (mm_ev γ v).category = 2 then i + 2 else i + 1) = if mm_is2 v = true then i + 2 else i + 1 := by
      rw [mm_cat]
      cases mm_is2 v <;> rfl
    show (i, mm_ev γ v) :: lv_args (if (mm_ev γ v).category = 2 then i + 2 else i + 1) (t.map (mm_ev γ)) = (i, mm_ev γ v) :: mm_E1 γ (mm_args (if mm_is2 v = true then i + 2 else i + 1) t)
    rw [e, mm_args_E γ t]
theorem mm_args_ok {n : Nat} : ∀ {as : List mm_V} {i : Nat}, mm_okl n as → ∀ q ∈ mm_args i as, mm_okv n q.2
  | [], _, _, q, hq => by cases hq
  | v :: t, i, h, q, hq => by
    rcases List.mem_cons.mp hq with e | e
    · rw [e]; exact mm_okl_h h
    · exact mm_args_ok (mm_okl_t h) q e
set_option maxHeartbeats 2000000 in
theorem mm_met {l : Launch} {γ : mm_G} (hchk : ∀ y, y < 310 → (mm_code y).all (mm_chk y) = true) (hmx : ∀ y, y < 310 → mm_mx y = mm_ml_ y ∧ mm_mx y ≤ 28)
    (hstr : ∀ (d a : Nat) (as : List mm_V) (M : mm_M) (v : Option mm_V) (M1 : mm_M), 5 ≤ d → 308 ≤ a → a < 310 → mm_okl M.1 as → mm_str a as M (fun x y => x = v ∧ y = M1) → mm_Mt l γ (d + 1) a as M v M1) :
    ∀ (d a : Nat) (as : List mm_V) (M : mm_M) (v : Option mm_V) (M1 : mm_M), 0 < a → a < 310 → mm_okl M.1 as → mm_run d a as M (fun x y => x = v ∧ y = M1) → mm_Mt l γ d a as M v M1
  | 0, _, _, _, _, _, _, _, _, h => h.elim
  | d + 1, a, as, M, v, M1, ha, ha2, hok, h => by
    have hle := mm_run_le h
    unfold mm_run at h
    cases hy : Nat.ble 308 a with
    | true =>
      rw [hy] at h
      exact hstr d a as M v M1 h.1 (Nat.le_of_ble_eq_true hy) ha2 hok h.2
    | false =>
      rw [hy] at h
      dsimp only at h
      cases hb : Nat.ble (mm_ws as) (mm_mx a) with
      | false => rw [hb] at h; exact h.elim
      | true =>
        rw [hb] at h
        have hgo : mm_Go (mm_run d) (mm_code a) (fun x y => x = v ∧ y = M1) (0, mm_args 0 as, [], M) := h
        have hws := Nat.le_of_ble_eq_true hb
        obtain ⟨g1, g2, g3, g4, -⟩ := mm_Y_use ha ha2
        obtain ⟨hm1, hm2⟩ := hmx a ha2
        refine ⟨hle, Met.ofW (cc := mm_b a) (maxL := mm_ml_ a) (ret := mm_rt a) g4 rfl ?_⟩
        intro p e s m args below meth c s₁ B hml hv
        obtain ⟨rfl, hRel, hKn⟩ := hv
        have hts0 := atoms_spec (ws := mm_cw a) B.pre
        have C : mm_Ctx p (mm_rm (d + 1) M M1) s m (as.map (mm_ev γ)).toArray meth c γ a d := ⟨B.exec, B.bytes, hml.trans hm1.symm, findClass_of_methodNamed B.named, fun w hw => hts0 w (List.mem_cons_of_mem _ hw), fun _ => (name_of_methodNamed B.named B.method).1, hKn, Nat.le_refl _, by show 47 + 47 * d ≤ 47 * (d + 1); omega⟩
        have hss := mm_ss_le hle
        have hX := mm_Go_X (p := p) (l := l) (e := e) (R := mm_rm (d + 1) M M1) (below := below) (n0 := M.1) (Mf := M1) (hchk a ha2) C hmx (by show M1.1 ≤ M.1 + (M1.1 - M.1); omega) (by show mm_ss M1.1 ≤ mm_ss M.1 + (mm_ss M1.1 - mm_ss M.1); omega) (fun q => absurd q (by omega)) (fun a2 as2 M2 v2 M3 q1 q2 q3 q4 => mm_met hchk hmx hstr d a2 as2 M2 v2 M3 q1 q2 q3 q4)
          (fun pc ins len w a2 b z v2 lv st M2 q1 q2 q3 => mm_ret C B.returns B.notSynchronized v q1 q2 q3) hgo
        rw [lg_entry_eq]
        have hl := lv_entry (as.map (mm_ev γ)) (n := mm_ml_ a) (by rw [mm_sl_len]; omega)
        rw [mm_args_E, ← hm1] at hl
        rw [← hm1]
        exact hX.2 s.heap [] 0 0 _ hRel (fun q hq => by cases hq) (Nat.zero_add _) (Nat.zero_add _) hl (mm_args_ok hok) (fun u hu => by cases hu)
