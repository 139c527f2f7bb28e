/-! the law's walk, out of its meaning in the small machine -/
def mm_flat : List Jvm.Cond := flatC (Jvm.Cond.and given_1 narrow_1)
def mm_tm (i : Nat) : Term := .string "LateIndexes$Reader" ([105, 111, 113, 115, 116].getD i 0)
theorem mm_f1 : (List.range 5).all (fun i => decide (Jvm.Cond.exactly (mm_tm i) "java/lang/String" ∈ mm_flat) && (decide (Jvm.Cond.eq (.field (mm_tm i) "java/lang/String" "coder" "B") (.int 0) ∈ mm_flat) && (decide (Jvm.Cond.arrayOf (.field (mm_tm i) "java/lang/String" "value" "[B") .byte ∈ mm_flat) && decide (Jvm.Cond.eq (.length (.field (mm_tm i) "java/lang/String" "value" "[B")) (.int (Int32.ofNat (mm_slen.getD i 0))) ∈ mm_flat)))) = true := by decide +kernel
theorem mm_f2 : (List.range 5).all (fun i => (List.range (mm_slen.getD i 0)).all (fun j => decide (Jvm.Cond.eq (.elem (.field (mm_tm i) "java/lang/String" "value" "[B") (.int (Int32.ofNat j))) (.int ((mm_sbyt.getD i []).getD j 0)) ∈ mm_flat))) = true := by decide +kernel
theorem mm_f3 : (List.range 5).all (fun i => (List.range 5).all (fun j => i == j || (decide (Jvm.Cond.not (Jvm.Cond.eq (mm_tm i) (mm_tm j)) ∈ mm_flat) || decide (Jvm.Cond.not (Jvm.Cond.eq (mm_tm j) (mm_tm i)) ∈ mm_flat)))) = true := by decide +kernel
theorem mm_f4 : (decide (Jvm.Cond.eq (.static "java/lang/String" "COMPACT_STRINGS" "Z") (.int 1) ∈ mm_flat) && decide (Jvm.Cond.isRef (.static "jdk/internal/util/Preconditions" "SIOOBE_FORMATTER" "Ljava/util/function/BiFunction;") ∈ mm_flat)) = true := by decide +kernel
theorem mm_f5 : ([Jvm.Cond.laysStatic "java/lang/String" "COMPACT_STRINGS" "Z", Jvm.Cond.initialized "java/lang/String", Jvm.Cond.laysStatic "jdk/internal/util/Preconditions" "SIOOBE_FORMATTER" "Ljava/util/function/BiFunction;", Jvm.Cond.initialized "jdk/internal/util/Preconditions"] ++ ([3, 5, 9, 12].map (fun c => Jvm.Cond.arrayOver (.object (mm_cn c))) ++ mm_sl.map (fun r => Jvm.Cond.stringRef r.1 r.2.1 r.2.2))).all (fun w => decide (w ∈ tables_1)) = true := by decide +kernel
def mm_m0 (L : Nat) (xs : Nat → Int32) : mm_M := (0, fun o j => if o = 5001 then (if j = 0 then (L : Int) else 0) else if o = 5000 then (xs j).toInt else 0)
theorem mm_ss_max : mm_ss mm_max ≤ 7302250 := by decide +kernel
set_option maxHeartbeats 4000000 in
theorem mm_whole {p : Program} {e : Env} {s : State} {m : MethodId} {below : List Frame} {meth : Method} {c : Code} (l : Launch) {b L : Nat} {xs : Nat → Int32} (hL : L ≤ 3072) (C0 : lw_At p s m meth c b L xs)
    (hchk : ∀ y, y < 310 → (mm_code y).all (mm_chk y) = true) (hmx : ∀ y, y < 310 → mm_mx y = mm_ml_ y ∧ mm_mx y ≤ 28)
    (hstr : ∀ (γ : mm_G) (d a : Nat) (as : List mm_V) (M : mm_M) (v : Option mm_V) (M1 : mm_M), 5 ≤ d → 308 ≤ a → a < 310 → mm_okl M.1 as → mm_str a as M (fun x y => x = v ∧ y = M1) → mm_Mt l γ (d + 1) a as M v M1)
    (hgo : mm_Go (mm_run 13) (mm_code 0) (fun v M => v = some (.inl 1) ∧ M.1 ≤ mm_max) (0, [(0, .inr (.inr 5000))], [], mm_m0 L xs)) :
    W p l e room_1 s m #[Value.ref b] below meth c s.heap [] 0 0 (lw_Z below #[Value.ref b] s) (entryFrame m ([Value.ref b] : List Value).toArray 4) := by
  obtain ⟨hx, hb, hr, hml, hown, hts, hX0, hbl, hlocks, hgv⟩ := id C0
  have hs : ∀ w ∈ mm_flat, w.before #[Value.ref b] s = true := flat_of_before _ hgv
  have htW : ∀ w ∈ mm_W, w.before #[Value.ref b] s = true := fun w hw => hts w (List.mem_filter.mp hw).1
  have ht1 : ∀ w ∈ tables_1, w.before #[Value.ref b] s = true := fun w hw => hts w (List.mem_append_right _ hw)
  have hf5 := List.all_eq_true.mp mm_f5
  have h5 : ∀ w, w ∈ ([Jvm.Cond.laysStatic "java/lang/String" "COMPACT_STRINGS" "Z", Jvm.Cond.initialized "java/lang/String", Jvm.Cond.laysStatic "jdk/internal/util/Preconditions" "SIOOBE_FORMATTER" "Ljava/util/function/BiFunction;", Jvm.Cond.initialized "jdk/internal/util/Preconditions"] ++ ([3, 5, 9, 12].map (fun c => Jvm.Cond.arrayOver (.object (mm_cn c))) ++ mm_sl.map (fun r => Jvm.Cond.stringRef r.1 r.2.1 r.2.2))) → w.before #[Value.ref b] s = true := fun w hw => ht1 w (of_decide_eq_true (hf5 w hw))
  -- the classes
  have hcls : ∀ k : Nat, ∃ q : ClassId × (Nat → Nat), 0 < k → k < 14 → u_Kn s (mm_cn k) (mm_F k) (mm_N k) q.1 q.2 := by
    intro k
    by_cases h : 0 < k ∧ k < 14
    · obtain ⟨cC, iS, hK⟩ := u_known (C := mm_cn k) (T := mm_F k) (N := mm_N k) (n := mm_N k) htW (mm_ws_in h.1 h.2) (htW _ (mm_C_use h.1 h.2).1)
      exact ⟨(cC, iS), fun _ _ => hK⟩
    · exact ⟨(0, fun _ => 0), fun h1 h2 => absurd ⟨h1, h2⟩ h⟩
  obtain ⟨dK, hdK⟩ := Classical.axiomOfChoice hcls
  -- the arrays' classes
  have harr : ∀ k : Nat, ∃ cA : ClassId, k ∈ [20, 21, 22, 33, 35, 39, 42] → ArrOfT s cA (mm_tyA k) ∧ va_RA s cA (mm_tyA k) := by
    intro k
    have prim : ∀ ty : FieldType, Jvm.Cond.arrayClass ty ∈ mm_W → ∃ cA kA comp, s.vm.findClass ("[" ++ ty.toString) = some cA ∧ s.vm.classes[cA]? = some kA ∧ kA.kind = .array comp ty := fun ty hw => Cond.arrayClass_spec (htW _ hw)
    have refs : ∀ k2 : Nat, k2 ∈ [3, 5, 9, 12] → ∃ cA, ArrOfT s cA (.object (mm_cn k2)) ∧ va_RA s cA (.object (mm_cn k2)) := by
      intro k2 hk2
      obtain ⟨comp, cA, kA, h1, h2, h3, h4, h6⟩ := Cond.arrayOver_spec (h5 _ (List.mem_append_right _ (List.mem_append_left _ (List.mem_map.mpr ⟨k2, hk2, rfl⟩))))
      exact ⟨cA, fun n z => ⟨fun k h => (by cases h), kA, h3, comp, h4⟩, kA, comp, h3, h4, h1, h6⟩
    by_cases hk : k ∈ [20, 21, 22, 33, 35, 39, 42]
    · simp only [List.mem_cons, List.not_mem_nil, or_false] at hk
      rcases hk with rfl | rfl | rfl | rfl | rfl | rfl | rfl
      · obtain ⟨cA, kA, comp, h1, h2, h3⟩ := prim .int (mm_A_use (k := 0) (by decide))
        exact ⟨cA, fun _ => ⟨fun n z => ⟨fun k h => (by cases h), kA, h2, comp, h3⟩, h1⟩⟩
      · obtain ⟨cA, kA, comp, h1, h2, h3⟩ := prim .long (mm_A_use (k := 1) (by decide))
        exact ⟨cA, fun _ => ⟨fun n z => ⟨fun k h => (by cases h), kA, h2, comp, h3⟩, h1⟩⟩
      · obtain ⟨cA, kA, comp, h1, h2, h3⟩ := prim .boolean (mm_A_use (k := 2) (by decide))
        exact ⟨cA, fun _ => ⟨fun n z => ⟨fun k h => (by cases h), kA, h2, comp, h3⟩, h1⟩⟩
      · obtain ⟨cA, h1⟩ := refs 3 (by decide)
        exact ⟨cA, fun _ => h1⟩
      · obtain ⟨cA, h1⟩ := refs 5 (by decide)
        exact ⟨cA, fun _ => h1⟩
      · obtain ⟨cA, h1⟩ := refs 9 (by decide)
        exact ⟨cA, fun _ => h1⟩
      · obtain ⟨cA, h1⟩ := refs 12 (by decide)
        exact ⟨cA, fun _ => h1⟩
    · exact ⟨0, fun h => absurd h hk⟩
  obtain ⟨aC, haC⟩ := Classical.axiomOfChoice harr
  -- the texts
  have f1 := fun i (hi : i < 5) => List.all_eq_true.mp mm_f1 i (List.mem_range.mpr hi)
  simp only [Bool.and_eq_true, decide_eq_true_eq] at f1
  obtain ⟨adK, adV, hS, hev⟩ := vk_Sof (N := 5) (tm := mm_tm) (len := mm_slen) (byt := mm_sbyt) (A := fun q => s.heap.size ≤ q) (args := #[Value.ref b]) (s := s) (fun i hi => by
      have : (List.range 5).all (fun i => decide (mm_slen.getD i 0 < 2 ^ 31)) = true := by decide
      exact of_decide_eq_true (List.all_eq_true.mp this i (List.mem_range.mpr hi)))
    (fun i hi => hs _ (f1 i hi).1) (fun i hi => hs _ (f1 i hi).2.1) (fun i hi => hs _ (f1 i hi).2.2.1) (fun i hi => hs _ (f1 i hi).2.2.2)
    (fun i hi j hj => hs _ (of_decide_eq_true (List.all_eq_true.mp (List.all_eq_true.mp mm_f2 i (List.mem_range.mpr hi)) j (List.mem_range.mpr hj))))
    (fun i j hi hj hij => by
      have := List.all_eq_true.mp (List.all_eq_true.mp mm_f3 i (List.mem_range.mpr hi)) j (List.mem_range.mpr hj)
      simp only [Bool.or_eq_true, beq_iff_eq, decide_eq_true_eq] at this
      rcases this with h | h | h
      · exact absurd h hij
      · exact Or.inl (hs _ h)
      · exact Or.inr (hs _ h))
    (fun a ha h => by omega)
  have f4 := mm_f4
  simp only [Bool.and_eq_true, decide_eq_true_eq] at f4
  let γ : mm_G := (s.heap, ((fun k => (dK k).1, fun k => (dK k).2), aC, fun k => if k = 5000 then b else if k < 7000 then adK (k - 6000) else adV (k - 7000)))
  have hKn : mm_Kn γ s := by
    refine ⟨hdK, haC, fun k hk => va_AO.of (h5 _ (List.mem_append_right _ (List.mem_append_left _ (List.mem_map.mpr ⟨k, hk, rfl⟩)))), fun r hr => ?_, fun j r hr => ?_, ?_, ?_, ?_⟩
    · obtain ⟨hr1, hr2⟩ := List.mem_filter.mp hr
      have hf := List.all_eq_true.mp mm_okM_all _ hr1
      unfold mm_okM at hf
      have hr4 : ¬ r.2.2.2.1 < 4 := by
        have := of_decide_eq_true hr2
        omega
      rw [if_neg hr4] at hf
      simp only [Bool.or_eq_true, Bool.and_eq_true, decide_eq_true_eq, beq_iff_eq] at hf
      have hk : (mm_ml.all (fun r => r.2.2.2.1 < 4 || r.2.2.1 < 1000)) = true := by decide +kernel
      have hk2 := List.all_eq_true.mp hk _ hr1
      simp only [Bool.or_eq_true, decide_eq_true_eq] at hk2
      rcases hf with (hf | hf) | hf
      · omega
      · omega
      · exact va_Nw.of rfl (hts _ (mm_sub_in (List.mem_of_getElem? hf.2.2.2)))
    · have hj : j < 5 := (List.getElem?_eq_some_iff.mp hr).1
      have h1 : (Jvm.Cond.stringRef r.1 r.2.1 r.2.2).before #[Value.ref b] s = true := h5 _ (List.mem_append_right _ (List.mem_append_right _ (List.mem_map.mpr ⟨r, List.mem_of_getElem? hr, rfl⟩)))
      have e1 : γ.2.2.2 (6000 + j) = adK j := by
        show (if 6000 + j = 5000 then b else if 6000 + j < 7000 then adK (6000 + j - 6000) else adV (6000 + j - 7000)) = adK j
        rw [if_neg (by omega), if_pos (by omega), show 6000 + j - 6000 = j by omega]
      rw [e1]
      refine vk_R.of h1 ?_
      have e2 : Term.string r.1 r.2.1 = mm_tm j := by
        match j, hj, hr with
        | 0, _, hr => cases hr; rfl
        | 1, _, hr => cases hr; rfl
        | 2, _, hr => cases hr; rfl
        | 3, _, hr => cases hr; rfl
        | 4, _, hr => cases hr; rfl
      rw [e2]
      exact hev j hj
    · have e1 : (fun j => γ.2.2.2 (6000 + j)) = fun j => if j < 1000 then adK j else adV (j - 1000) := funext fun j => by
        show (if 6000 + j = 5000 then b else if 6000 + j < 7000 then adK (6000 + j - 6000) else adV (6000 + j - 7000)) = _
        rw [if_neg (by omega)]
        by_cases hj : j < 1000
        · rw [if_pos (by omega), if_pos hj, show 6000 + j - 6000 = j by omega]
        · rw [if_neg (by omega), if_neg hj, show 6000 + j - 7000 = j - 1000 by omega]
      have e2 : (fun j => γ.2.2.2 (7000 + j)) = adV := funext fun j => by
        show (if 7000 + j = 5000 then b else if 7000 + j < 7000 then adK (7000 + j - 6000) else adV (7000 + j - 7000)) = _
        rw [if_neg (by omega), if_neg (by omega), show 7000 + j - 7000 = j by omega]
      rw [e1, e2]
      refine ⟨fun i hi => ?_, fun i j hi hj hij => ?_⟩
      · have := hS.1 i hi
        dsimp only
        rw [if_pos (by omega)]
        exact this
      · dsimp only at hij
        rw [if_pos (by omega), if_pos (by omega)] at hij
        exact hS.2 i j hi hj hij
    · exact va_Zof (h5 _ (List.mem_append_left _ (by decide))) (h5 _ (List.mem_append_left _ (by decide))) (va_eqt (hs _ f4.1)) (fun a ha h => by
        have : s.heap.size ≤ a := h
        omega)
    · exact va_Zqof (h5 _ (List.mem_append_left _ (by decide))) (h5 _ (List.mem_append_left _ (by decide))) (hs _ f4.2) (fun a ha h => by
        have : s.heap.size ≤ a := h
        omega)
  obtain ⟨v1, Mf, ⟨hv1, hMf⟩, hgo1⟩ := mm_Go_one (mm_run_mono 13) (mm_run_one 13) hgo
  subst hv1
  obtain ⟨scr, x1, x2, x3, x4, x5⟩ := hX0
  have hγb : γ.2.2.2 5000 = b := rfl
  have C : mm_Ctx p room_1 s m #[Value.ref b] meth c γ 0 13 := ⟨hx, hb, hml, hown, htW, fun h => absurd rfl h, hKn, by decide, by decide⟩
  have hscr : mm_Scr s γ 0 := fun _ => ⟨scr, x1, x2, x3, by omega⟩
  have hRel : mm_Rel γ (mm_m0 L xs) s.heap := by
    refine ⟨rfl, Nat.zero_le _, ⟨fun _ _ => rfl, fun cell hc => ?_⟩, fun k h1 h2 => ?_⟩
    · have hc : s.heap[b]? = some cell := hc
      rw [x1] at hc
      cases hc
      refine ⟨?_, fun j hj => ?_⟩
      · show (L : Int) = _
        rw [x4]
      · refine ⟨mm_tI _, ?_⟩
        show scr.slots[j]? = some (Value.int (Int32.ofInt (xs j).toInt))
        rw [Int32.ofInt_toInt]
        exact x5 j (by omega)
    · have : k ≤ 0 := h2
      omega
  have hM : mm_max = 887 := rfl
  have hroom : room_1.cells = 600000 ∧ room_1.slots = 7302250 := ⟨rfl, rfl⟩
  have hss := Nat.le_trans (mm_ss_le hMf) mm_ss_max
  have hX := mm_Go_X (p := p) (l := l) (e := e) (R := room_1) (below := below) (n0 := 0) (Mf := Mf) (Q := lw_Z below #[Value.ref b] s) (hchk 0 (by decide)) C hmx (by omega) (by rw [hroom.2]; exact Nat.le_trans hss (Nat.le_add_left _ _)) hscr (fun a2 as2 M2 v2 M3 q1 q2 q3 q4 => mm_met hchk hmx (hstr γ) 13 a2 as2 M2 v2 M3 q1 q2 q3 q4)
    (fun pc ins len w a b2 z v lv st M q1 q2 q3 => by
      obtain ⟨hd, hl, hch⟩ := mm_chk_d q2
      have hrt : mm_rt 0 = some .boolean := rfl
      cases ins <;> first
        | (cases q1; done)
        | skip
      · have h2 : (match mm_rt 0 with
          | some (.object _) => true
          | _ => false) = true := hch
        rw [hrt] at h2
        cases h2
      · have hlen : len = 1 := by simpa [mm_ln] using hl
        subst hlen
        rcases st with _ | ⟨x1 | x1 | x1, _ | ⟨o1, r⟩⟩
        all_goals first
          | exact False.elim q3
          | skip
        rcases z with _ | z
        · have : mm_rt 0 = some .int := of_decide_eq_true hch
          rw [hrt] at this
          cases this
        · obtain ⟨h01, e1, e2⟩ := (q3 : (x1 = 0 ∨ x1 = 1) ∧ (some (Sum.inl x1) : Option mm_V) = some (Sum.inl 1) ∧ M = Mf)
          cases e1
          subst e2
          refine ⟨Nat.le_refl _, fun H locs cells slots ls hR hlo hce hsl hL hlv hst => ?_⟩
          have hce : cells + 0 = M.1 := hce
          have hsl : slots + mm_ss 0 = mm_ss M.1 := hsl
          have hz0 : mm_ss 0 = 0 := rfl
          refine va_forget hlo (W.widen (k := 600000) (n := 7302250) (by omega) (by omega) ?_)
          exact lw_ret hx hb hr hlocks hd
      · have : mm_rt 0 = some .long := of_decide_eq_true hch
        rw [hrt] at this
        cases this
      · have : mm_rt 0 = none := of_decide_eq_true hch
        rw [hrt] at this
        cases this) hgo1
  rw [lg_entry_eq]
  have hl := lv_entry ([Value.ref b]) (n := 4) (Nat.le_of_ble_eq_true rfl)
  have hev0 : mm_ev γ (.inr (.inr 5000)) = .ref b := rfl
  exact hX.2 s.heap [] 0 0 _ hRel (fun q hq => by cases hq) rfl rfl hl (fun q hq => by
    rw [List.mem_singleton.mp hq]
    exact Or.inr (Nat.le_refl _)) (fun u hu => by cases hu)
