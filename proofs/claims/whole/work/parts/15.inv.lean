/-! calls -/
def mm_Pc (γ : mm_G) (as : List mm_V) (M : mm_M) : Array Value → State → Prop := fun a U => a = (as.map (mm_ev γ)).toArray ∧ mm_Rel γ M U.heap ∧ mm_Kn γ U
def mm_Qc (γ : mm_G) (v : Option mm_V) (M' : mm_M) : Array Value → State → Outcome → State → Prop := fun _ _ o t => o = .returned (v.map (mm_ev γ)) ∧ mm_Rel γ M' t.heap ∧ ∀ u : mm_V, v = some u → mm_okv M'.1 u
abbrev mm_rm (d : Nat) (M M' : mm_M) : Room := { frames := d, cells := M'.1 - M.1, slots := mm_ss M'.1 - mm_ss M.1, locals := 47 * d }
abbrev mm_cw (y : Nat) : List Cond := Cond.code (mm_y y) (mm_b y) (mm_ml_ y) (mm_rt y) :: mm_W
def mm_Mt (l : Launch) (γ : mm_G) (d y : Nat) (as : List mm_V) (M : mm_M) (v : Option mm_V) (M' : mm_M) : Prop :=
  M.1 ≤ M'.1 ∧ Met l (mm_y y) (mm_cw y) (mm_rm d M M') (mm_Pc γ as M) (mm_Qc γ v M') (M'.1 - M.1) (mm_ss M'.1 - mm_ss M.1) (fun q => γ.1.size ≤ q)
theorem mm_blind (γ : mm_G) (as : List mm_V) (M : mm_M) : FrameBlind (mm_Pc γ as M) := fun _ U g mk h => ⟨h.1, h.2.1, h.2.2.same (u := U) rfl⟩
theorem mm_goodIn {ws : List Cond} (h : ∀ w ∈ ws, w ∈ mm_W) : GoodIn mm_W ws := fun w hw => ⟨h w hw, mm_W_good w (h w hw)⟩
theorem mm_ws_sum (γ : mm_G) : ∀ st : List mm_V, ((st.map (mm_ev γ)).map fun v => v.category).sum = mm_ws st
  | [] => rfl
  | v :: t => by
    simp only [List.map_cons, List.sum_cons]
    rw [mm_ws_sum γ t, mm_cat]
    rfl
/-- what the tables say of a called method -/
theorem mm_Y_use {y : Nat} (h0 : 0 < y) (h : y < 310) : Cond.code (mm_y y) (mm_b y) (mm_ml_ y) (mm_rt y) ∈ mm_W ∧ Cond.initialized (mm_y y).cls ∈ mm_W ∧ ((mm_y y).cls ≠ "java/lang/invoke/MethodHandle" ∧ (mm_y y).cls ≠ "java/lang/invoke/VarHandle") ∧ plainName (mm_y y).cls = true ∧
    ((mm_yq.getD y (0, 0, 0, 0, 0, 0, 0, 0, 0)).1 = 0 → Cond.static (mm_y y) ∈ mm_W) ∧ ((mm_yq.getD y (0, 0, 0, 0, 0, 0, 0, 0, 0)).1 = 1 → Cond.instanceMethod (mm_y y) ∈ mm_W ∧ Cond.selects (mm_y y).cls (mm_y y) (mm_y y) ∈ mm_W) ∧ ((mm_yq.getD y (0, 0, 0, 0, 0, 0, 0, 0, 0)).1 = 2 → Cond.instanceMethod (mm_y y) ∈ mm_W ∧ (mm_y y).name = "<init>" ∧ mm_rt y = none) := by
  have hy := mm_okY_all h0 h
  have hword : mm_word y = ((mm_sub (mm_yq.getD y (0, 0, 0, 0, 0, 0, 0, 0, 0)).2.1)[(mm_yq.getD y (0, 0, 0, 0, 0, 0, 0, 0, 0)).2.2.1]?).getD .tt := by
    obtain ⟨j, rfl⟩ : ∃ j, y = j + 1 := ⟨y - 1, by omega⟩
    rfl
  unfold mm_okY at hy
  generalize hq : mm_yq.getD y (0, 0, 0, 0, 0, 0, 0, 0, 0) = q at hy hword ⊢
  obtain ⟨k, c1, c2, i1, i2, s1, s2, e1, e2⟩ := q
  dsimp only at hy hword ⊢
  simp only [Bool.and_eq_true] at hy
  obtain ⟨h1, h2, h3, h4, h5, h6, h7⟩ := hy
  have hw := mm_word_eq h1
  have hmem : mm_word y ∈ mm_W := by
    refine List.mem_filter.mpr ⟨?_, h2⟩
    obtain ⟨w, hw2⟩ := Option.isSome_iff_exists.mp h3
    rw [hw2] at hword
    rw [hword]
    exact mm_sub_in (List.mem_of_getElem? hw2)
  rw [hw] at hmem
  refine ⟨hmem, mm_has_of h4, of_decide_eq_true h5, h6, fun e => ?_, fun e => ?_, fun e => ?_⟩
  · subst e
    exact mm_has_of h7
  · subst e
    simp only [Bool.and_eq_true] at h7
    exact ⟨mm_has_of h7.1, mm_has_of h7.2⟩
  · subst e
    simp only [Bool.and_eq_true, decide_eq_true_eq] at h7
    exact ⟨mm_has_of h7.1, h7.2.1, h7.2.2⟩
theorem mm_lk_use {own : String} {i w a kind : Nat} (h : mm_lk_ok own i w a kind = true) : ∃ (k p1 p2 : Nat), (own, i, a, k, p1, p2) ∈ mm_ml ∧ k % 4 = kind := by
  unfold mm_lk_ok at h
  cases hr : mm_ml[w]? with
  | none => rw [hr] at h; cases h
  | some r =>
    rw [hr] at h
    obtain ⟨o, j, mid, k, p1, p2⟩ := r
    simp only [Bool.and_eq_true, decide_eq_true_eq, beq_iff_eq] at h
    obtain ⟨rfl, rfl, rfl, hk⟩ := h
    exact ⟨k, p1, p2, List.mem_of_getElem? hr, hk⟩
theorem mm_pr_use {own : String} {i w z kind : Nat} (hz : 0 < z) (h : mm_lk_ok own i w (1000 + z) kind = true) : Cond.methodLink own i (mm_prim z) ∈ mm_W := by
  obtain ⟨k, p1, p2, hm, -⟩ := mm_lk_use h
  have hf := List.all_eq_true.mp mm_okM_all _ hm
  unfold mm_okM at hf
  have hny : mm_ny = 310 := rfl
  simp only [Bool.or_eq_true, Bool.and_eq_true, decide_eq_true_eq, beq_iff_eq] at hf
  rcases hf with (hf | hf) | hf
  · omega
  · have := mm_has_of hf.2
    rwa [show 1000 + z - 1000 = z by omega] at this
  · omega
/-- a link to a method of ours: direct, or as a nest mate -/
theorem mm_ln_use {own : String} {i w a kind : Nat} (ha : 0 < a) (ha2 : a < 310) (h : mm_lk_ok own i w a kind = true) : (mm_yq.getD a (0, 0, 0, 0, 0, 0, 0, 0, 0)).1 = kind ∧ (Cond.methodLink own i (mm_y a) ∈ mm_W ∨ ∃ r, r ∈ mm_nests ∧ mm_nestw r = .methodLinkNest own i (mm_y a) "LateIndexes") := by
  obtain ⟨k, p1, p2, hm, hk⟩ := mm_lk_use h
  have hf := List.all_eq_true.mp mm_okM_all _ hm
  unfold mm_okM at hf
  simp only [Bool.or_eq_true, Bool.and_eq_true, decide_eq_true_eq, beq_iff_eq] at hf
  rcases hf with (hf | hf) | hf
  · omega
  · omega
  · refine ⟨by rw [hf.2.2.1]; exact hk, ?_⟩
    have h4 := hf.2.2.2
    by_cases hk4 : k < 4
    · rw [if_pos hk4] at h4
      exact Or.inl (mm_has_of h4)
    · exact Or.inr ⟨_, List.mem_filter.mpr ⟨hm, by simpa using hk4⟩, rfl⟩
section Inv
variable {p : Program} {l : Launch} {e : Env} {R : Room} {s : State} {m : MethodId} {args : Array Value} {below : List Frame} {meth : Method} {c : Code} {Q : State → Prop} {γ : mm_G} {y d n0 : Nat} {Mf : mm_M} {call : mm_K} {Rf : mm_P}
variable {pc len w a b z : Nat} {v : Int} {lv : mm_L} {st : List mm_V} {M : mm_M}
/-- behind a call -/
theorem mm_o_back {rest : List mm_V} {st0 : List Value} {v1 : Option mm_V} {M1 : mm_M} {H : Heap} {locs : List Loc} {cells slots : Nat} {ls : Array Slot} {aa : Array Value}
    (hrun : va_Run p l e R s m args below meth c H locs cells slots (M1.1 - M.1) (mm_ss M1.1 - mm_ss M.1) (F0 m pc ls st0) (rest.map (mm_ev γ)) (mm_Qc γ v1 M1 aa) (fun q => γ.1.size ≤ q)) (hM : M.1 ≤ M1.1)
    (hlo : ∀ q ∈ locs, γ.1.size ≤ q.base) (hce : cells + n0 = M.1) (hsl : slots + mm_ss n0 = mm_ss M.1) (hL : lv_has ls (mm_mx y) (mm_E1 γ lv)) (hlv : ∀ q ∈ lv, mm_okv M.1 q.2) (hst : mm_okl M.1 rest)
    (hX : mm_X p l e R s m args below meth c Q γ y n0 Mf (pc + 3, lv, v1.toList ++ rest, M1)) : W p l e R s m args below meth c H locs cells slots Q (F0 m pc ls st0) := by
  intro T hT X
  obtain ⟨vv, st₀, t, T', L, h0, X', hLf, e1, e2, ⟨hq1, hq2, hv1⟩, stp⟩ := hrun T hT X
  have hvv : vv = v1.map (mm_ev γ) := Outcome.returned.inj hq1
  subst hvv
  have hss := mm_ss_le hM
  have hW := hX.2 T'.heap (locs ++ L) (cells + (M1.1 - M.1)) (slots + (mm_ss M1.1 - mm_ss M.1)) ls (by rw [e1]; exact hq2) (fun q hq => by
    rcases List.mem_append.mp hq with h | h
    · exact hlo q h
    · exact hLf q h) (by show cells + (M1.1 - M.1) + n0 = M1.1; omega) (by show slots + (mm_ss M1.1 - mm_ss M.1) + mm_ss n0 = mm_ss M1.1; omega) hL (fun q hq => mm_okv_mono hM (hlv q hq)) (fun u hu => by
    rcases List.mem_append.mp hu with h | h
    · cases v1 with
      | none => cases h
      | some u1 =>
        have : u = u1 := List.mem_singleton.mp h
        subst this
        exact hv1 _ rfl
    · exact mm_okv_mono hM (hst u h))
  obtain ⟨t2, a1, b1⟩ := hW T' rfl X'
  refine ⟨t2, stp t2 ?_, b1⟩
  have es : (v1.toList ++ rest).map (mm_ev γ) = (v1.map (mm_ev γ)).toList ++ rest.map (mm_ev γ) := by cases v1 <;> simp
  rw [es] at a1
  exact a1
theorem mm_o_static {i : Nat} (C : mm_Ctx p R s m args meth c γ y d) (hmx : ∀ y, y < 310 → mm_mx y = mm_ml_ y ∧ mm_mx y ≤ 28) (hrc : Mf.1 ≤ n0 + R.cells) (hrs : mm_ss Mf.1 ≤ mm_ss n0 + R.slots) (hd : decode (mm_b y) pc = .ok (.invokestatic i, 3)) (hlk : mm_lk_ok (mm_y y).cls i w a 0 = true) (ha : 0 < a) (ha2 : a < 310) (hpar : mm_par a = some b) (hb : b ≤ st.length) (hws : mm_ws (st.drop b) ≤ 8)
    {v1 : Option mm_V} {M1 : mm_M} (hMt : mm_okl M.1 (st.take b).reverse → mm_Mt l γ d a (st.take b).reverse M v1 M1) (hX : mm_X p l e R s m args below meth c Q γ y n0 Mf (pc + 3, lv, v1.toList ++ st.drop b, M1)) (hle : M.1 ≤ M1.1) : mm_X p l e R s m args below meth c Q γ y n0 Mf (pc, lv, st, M) := by
  obtain ⟨hx, hbb, hml, hown, hts, hname, hKn, hfr, hlo47⟩ := id C
  obtain ⟨g1, g2, g3, g4, g5, -, -⟩ := mm_Y_use ha ha2
  obtain ⟨hkq, hlink⟩ := mm_ln_use ha ha2 hlk
  have hM1f : M1.1 ≤ Mf.1 := hX.1
  refine ⟨Nat.le_trans hle hM1f, fun H locs cells slots ls hR hlo hce hsl hL hlv hst => ?_⟩
  have hR : mm_Rel γ M H := hR
  have hce : cells + n0 = M.1 := hce
  have hsl : slots + mm_ss n0 = mm_ss M.1 := hsl
  have hst : mm_okl M.1 st := hst
  have hoka : mm_okl M.1 (st.take b).reverse := fun u hu => hst u (List.mem_of_mem_take (List.mem_reverse.mp hu))
  obtain ⟨hle2, hMet⟩ := hMt hoka
  have hs1 := mm_ss_le hM1f
  have hs2 := mm_ss_le hle
  have hstk : st.map (mm_ev γ) = (((st.take b).reverse).map (mm_ev γ)).reverse ++ (st.drop b).map (mm_ev γ) := by
    rw [← List.map_reverse, List.reverse_reverse, ← List.map_append, List.take_append_drop]
  have hlen : (((st.take b).reverse).map (mm_ev γ)).length = b := by simp [Nat.min_eq_left hb]
  have hroom : 2 * (F0 m pc ls (st.map (mm_ev γ))).monitorRoom + (((st.drop b).map (mm_ev γ)).map fun v => v.category).sum ≤ 8 := lv_room (by rw [mm_ws_sum]; exact hws)
  have hmxa := hmx a ha2
  have hPre : PreS s H (mm_Pc γ (st.take b).reverse M) (((st.take b).reverse).map (mm_ev γ)) := ⟨mm_blind γ _ _, fun U hU hW => ⟨rfl, by rw [hU]; exact hR, hKn.warm hW⟩⟩
  have hdn : (mm_y a).cls ≠ "java/lang/invoke/MethodHandle" ∧ (mm_y a).cls ≠ "java/lang/invoke/VarHandle" ∧ (parseMethodDescriptor (mm_y a).desc).map (fun d => d.parameters.length) = some b := ⟨g3.1, g3.2, hpar⟩
  refine mm_o_back (aa := ((((st.take b).reverse).map (mm_ev γ))).toArray) ?_ hle hlo hce hsl hL hlv (fun u hu => hst u (List.mem_of_mem_drop hu)) hX
  rcases hlink with hlink | ⟨r, hr, hrw⟩
  · exact va_runS ⟨hx, hbb, hml, hown, hts⟩ hMet (va_cwS b hts (mm_goodIn (fun w hw => by
      rcases List.mem_append.mp hw with h | h
      · simp only [List.mem_cons, List.not_mem_nil, or_false] at h
        rcases h with rfl | rfl | rfl
        · exact hlink
        · exact g5 hkq
        · exact g2
      · rcases List.mem_cons.mp h with rfl | h
        · exact g1
        · exact h)) rfl rfl rfl hdn ⟨hfr, by show 8 + (mm_ml_ a + 11) + 47 * d ≤ R.locals; omega⟩) hPre rfl hlen hL.1 hstk hroom hd ⟨by omega, by omega⟩
  · have hnw := hKn.2.2.2.1 r hr
    rw [hrw] at hnw
    exact va_runSN (host := "LateIndexes") ⟨hx, hbb, hml, hown, hts⟩ hMet ⟨va_cnB b hts (mm_goodIn (fun w hw => by
      rcases List.mem_cons.mp hw with rfl | h
      · exact g1
      · exact h)) rfl rfl rfl hnw (hts _ g2) hdn ⟨hfr, by show 8 + (mm_ml_ a + 11) + 47 * d ≤ R.locals; omega⟩, hts _ (g5 hkq), trivial⟩ hPre rfl hlen hL.1 hstk hroom hd ⟨by omega, by omega⟩
theorem mm_o_inst {i o : Nat} {r : List mm_V} (kind : Nat) (C : mm_Ctx p R s m args meth c γ y d) (hmx : ∀ y, y < 310 → mm_mx y = mm_ml_ y ∧ mm_mx y ≤ 28) (hrc : Mf.1 ≤ n0 + R.cells) (hrs : mm_ss Mf.1 ≤ mm_ss n0 + R.slots) (hd : decode (mm_b y) pc = .ok (if kind = 1 then .invokevirtual i else .invokespecial i, 3)) (hkind : kind = 1 ∨ kind = 2) (hlk : mm_lk_ok (mm_y y).cls i w a kind = true) (ha : 0 < a) (ha2 : a < 310) (hpar : mm_par a = some b) (hdrop : st.drop b = .inr (.inr o) :: r) (hws : mm_ws r ≤ 8) (ho : o ≠ 0)
    (hrecv : ∀ H : Heap, mm_Rel γ M H → mm_okv M.1 (.inr (.inr o)) → ∃ cellB : Cell, H[mm_ad γ o]? = some cellB ∧ cellB.vm.isStatics = false ∧ s.vm.findClass (mm_y a).cls = some cellB.cls)
    {v1 : Option mm_V} {M1 : mm_M} (hMt : mm_okl M.1 (.inr (.inr o) :: (st.take b).reverse) → mm_Mt l γ d a (.inr (.inr o) :: (st.take b).reverse) M v1 M1) (hX : mm_X p l e R s m args below meth c Q γ y n0 Mf (pc + 3, lv, v1.toList ++ r, M1)) (hle : M.1 ≤ M1.1) : mm_X p l e R s m args below meth c Q γ y n0 Mf (pc, lv, st, M) := by
  obtain ⟨hx, hbb, hml, hown, hts, hname, hKn, hfr, hlo47⟩ := id C
  obtain ⟨g1, g2, g3, g4, -, g5, g6⟩ := mm_Y_use ha ha2
  obtain ⟨hkq, hlink⟩ := mm_ln_use ha ha2 hlk
  have hM1f : M1.1 ≤ Mf.1 := hX.1
  refine ⟨Nat.le_trans hle hM1f, fun H locs cells slots ls hR hlo hce hsl hL hlv hst => ?_⟩
  have hR : mm_Rel γ M H := hR
  have hce : cells + n0 = M.1 := hce
  have hsl : slots + mm_ss n0 = mm_ss M.1 := hsl
  have hst : mm_okl M.1 st := hst
  have hsto : mm_okl M.1 (.inr (.inr o) :: r) := fun u hu => hst u (List.mem_of_mem_drop (hdrop ▸ hu))
  have hoka : mm_okl M.1 (.inr (.inr o) :: (st.take b).reverse) := mm_okl_c (mm_okl_h hsto) (fun u hu => hst u (List.mem_of_mem_take (List.mem_reverse.mp hu)))
  obtain ⟨hle2, hMet⟩ := hMt hoka
  have hs1 := mm_ss_le hM1f
  have hs2 := mm_ss_le hle
  have hb : b ≤ st.length := by
    have h1 := congrArg List.length hdrop
    simp only [List.length_drop, List.length_cons] at h1
    omega
  have hev : mm_ev γ (.inr (.inr o)) = .ref (mm_ad γ o) := mm_ref (by omega)
  have hstk : st.map (mm_ev γ) = (((st.take b).reverse).map (mm_ev γ)).reverse ++ .ref (mm_ad γ o) :: r.map (mm_ev γ) := by
    rw [← List.map_reverse, List.reverse_reverse, ← hev, ← List.map_cons, ← hdrop, ← List.map_append, List.take_append_drop]
  have hlen : (((st.take b).reverse).map (mm_ev γ)).length = b := by simp [Nat.min_eq_left hb]
  have hroom : 2 * (F0 m pc ls (st.map (mm_ev γ))).monitorRoom + ((r.map (mm_ev γ)).map fun v => v.category).sum ≤ 8 := lv_room (by rw [mm_ws_sum]; exact hws)
  have hmxa := hmx a ha2
  have hPc : ∀ U : State, U.heap = H → s.WarmedH U.vm → mm_Pc γ (.inr (.inr o) :: (st.take b).reverse) M (Value.ref (mm_ad γ o) :: ((st.take b).reverse).map (mm_ev γ)).toArray U := fun U hU hW => ⟨by rw [← hev]; rfl, by rw [hU]; exact hR, hKn.warm hW⟩
  have hdn : (mm_y a).cls ≠ "java/lang/invoke/MethodHandle" ∧ (mm_y a).cls ≠ "java/lang/invoke/VarHandle" ∧ (parseMethodDescriptor (mm_y a).desc).map (fun d => d.parameters.length) = some b := ⟨g3.1, g3.2, hpar⟩
  have hgi : GoodIn mm_W (mm_cw a) := mm_goodIn (fun w hw => by
      rcases List.mem_cons.mp hw with rfl | h
      · exact g1
      · exact h)
  refine mm_o_back (aa := (Value.ref (mm_ad γ o) :: ((st.take b).reverse).map (mm_ev γ)).toArray) ?_ hle hlo hce hsl hL hlv (mm_okl_t hsto) hX
  rcases hkind with rfl | rfl
  · obtain ⟨k1, k2⟩ := g5 hkq
    have hPV : PreV s H (mm_y a).cls (mm_ad γ o) (mm_Pc γ (.inr (.inr o) :: (st.take b).reverse) M) (((st.take b).reverse).map (mm_ev γ)) := ⟨mm_blind γ _ _, hrecv H hR (mm_okl_h hsto), hPc⟩
    rcases hlink with hlink | ⟨r2, hr, hrw⟩
    · exact va_runV (C := (mm_y a).cls) ⟨hx, hbb, hml, hown, hts⟩ hMet (cwV b hts (mm_goodIn (fun w hw => by
        rcases List.mem_append.mp hw with h | h
        · simp only [List.mem_cons, List.not_mem_nil, or_false] at h
          rcases h with rfl | rfl | rfl | rfl
          · exact hlink
          · exact k1
          · exact k2
          · exact g2
        · rcases List.mem_cons.mp h with rfl | h
          · exact g1
          · exact h)) rfl rfl rfl ⟨rfl, hdn⟩ ⟨hfr, by show 8 + (mm_ml_ a + 11) + 47 * d ≤ R.locals; omega⟩) hPV rfl hlen hL.1 hstk hroom hd ⟨by omega, by omega⟩
    · have hnw := hKn.2.2.2.1 r2 hr
      rw [hrw] at hnw
      exact va_runVN (C := (mm_y a).cls) (host := "LateIndexes") ⟨hx, hbb, hml, hown, hts⟩ hMet ⟨va_cnB b hts hgi rfl rfl rfl hnw (hts _ g2) hdn ⟨hfr, by show 8 + (mm_ml_ a + 11) + 47 * d ≤ R.locals; omega⟩, hts _ k1, hts _ k2⟩ hPV rfl hlen hL.1 hstk hroom hd ⟨by omega, by omega⟩
  · obtain ⟨k1, k2, k3⟩ := g6 hkq
    have hPS : PreS s H (mm_Pc γ (.inr (.inr o) :: (st.take b).reverse) M) (.ref (mm_ad γ o) :: ((st.take b).reverse).map (mm_ev γ)) := ⟨mm_blind γ _ _, hPc⟩
    have hcw : mm_cw a = Cond.code (mm_y a) (mm_b a) (mm_ml_ a) none :: mm_W := by unfold mm_cw; rw [k3]
    rcases hlink with hlink | ⟨r2, hr, hrw⟩
    · exact va_runI ⟨hx, hbb, hml, hown, hts⟩ hMet (cwI b hts hgi hcw rfl rfl (hts _ g2) (hts _ hlink) (hts _ k1) k2 hdn ⟨hfr, by show 8 + (mm_ml_ a + 11) + 47 * d ≤ R.locals; omega⟩) hPS rfl hlen hL.1 hstk hroom hd ⟨by omega, by omega⟩
    · have hnw := hKn.2.2.2.1 r2 hr
      rw [hrw] at hnw
      exact va_runIN (host := "LateIndexes") ⟨hx, hbb, hml, hown, hts⟩ hMet ⟨va_cnB b hts hgi hcw rfl rfl hnw (hts _ g2) hdn ⟨hfr, by show 8 + (mm_ml_ a + 11) + 47 * d ≤ R.locals; omega⟩, k2, hts _ k1⟩ hPS rfl hlen hL.1 hstk hroom hd ⟨by omega, by omega⟩
end Inv
