/-! the Model: a merge of an index' runs: the runs that were taken in go, the new one is laid; nothing left: it goes too -/
def mxf_ (b x : Int) (o c : Nat) : Prop := o = 408 ∧ ((c : Int) = b + 8 ∨ (c : Int) = x + 5 ∨ (x + 143 ≤ (c : Int) ∧ (c : Int) < x + 855))
def gsM_ (f d y : Int) : Int := if f + 1 < y / 4503599627370496 then y - d * 4503599627370496 else y
theorem ct_0 {p : Int → Bool} {s : Int} : ∀ {m : Nat}, (∀ i, s ≤ i → i < s + m → p i = false) → ct_ p s m = 0
  | 0, _ => rfl
  | m + 1, h => by
    have i1 := ct_0 (p := p) (s := s) (m := m) (fun i i0 i1 => h i i0 (by omega))
    have i2 := h (s + m) (by omega) (by omega)
    unfold ct_
    rw [i1, i2]
    decide
theorem cuP_cu (f d : Int) (g : Int → ab_P) (hd : 0 ≤ d) : cuP_ f 1 (cuP_ (f + 1) d g) = cuP_ f (d + 1) g := by
  funext i
  unfold cuP_
  by_cases z : i < f
  · rw [if_pos z, if_pos (by omega), if_pos z]
  · rw [if_neg z, if_neg (by omega), if_neg z, show i + 1 + d = i + (d + 1) by omega]
theorem cuP_st (f m : Int) (z : ab_P) (g : Int → ab_P) (hm : 1 ≤ m) : cuP_ f 1 (stP_ f z (cuP_ (f + 1) (m - 1) g)) = cuP_ f m g := by
  funext i
  unfold cuP_ stP_
  by_cases w : i < f
  · rw [if_pos w, if_neg (by omega), if_pos w]
    exact if_pos (by omega)
  · rw [if_neg w, if_neg (by omega), if_neg w]
    show (if i + 1 < f + 1 then g (i + 1) else g (i + 1 + (m - 1))) = g (i + m)
    rw [if_neg (by omega), show i + 1 + (m - 1) = i + m by omega]
theorem cuP_00 (f : Int) (g : Int → ab_P) : cuP_ f 0 g = g := by
  funext i
  unfold cuP_
  by_cases w : i < f
  · rw [if_pos w]
  · rw [if_neg w, Int.add_zero]
theorem gsM_go {f d r y : Int} (hd : 0 ≤ d) (hr : r = f ∨ f < r) (h : y / 4503599627370496 ≤ f + 1 ∨ r + 1 + d < y / 4503599627370496) (hz : r = f → y / 4503599627370496 ≠ f + 1) : go_ r (gsM_ f d y) = gsM_ f (d + 1) y := by
  unfold go_ gsM_
  by_cases z : f + 1 < y / 4503599627370496
  · rw [if_pos z, if_pos (by omega), if_pos z]
    omega
  · rw [if_neg z, if_neg (by omega), if_neg z]
theorem ct_M_mixEnd {b x f m level rep mends n k : Int} (cid : Int) (S : Int → Prop) {M : mm_M} {R : mm_M → Prop} {g : Int → ab_P} {E : Int → Int} (hb : bk_ b) (hx : b + 1784 ≤ x ∧ x + 855 ≤ 32844) (kh : hM_ M x n g) (ke : eM_ M x k E) (hf : 0 ≤ f) (hm : 1 ≤ m) (hn : f + m ≤ n) (hE : ∀ i, 0 ≤ i → i < k → E i / 4503599627370496 ≤ n ∧ (E i / 4503599627370496 ≤ f + 1 ∨ f + m < E i / 4503599627370496)) (hS : (∃ e, 0 ≤ e ∧ e < k ∧ E e / 4503599627370496 = f + 1) ↔ ∃ y, S y) (hid : -2147483648 ≤ nn_ri M 408 (b + 8) + 1 ∧ nn_ri M 408 (b + 8) + 1 < 2147483648)
    (h : ∀ M', fr_ (mxf_ b x) M M' → nn_ri M' 408 (b + 8) = nn_ri M 408 (b + 8) + 1 → hM_ M' x (n - (m - pk_ S)) (if pk_ S = 1 then stP_ f (cid, nn_ri M 408 (b + 8) + 1, level, (if mends = 0 then rep else nn_ri M 408 b), S) (cuP_ (f + 1) (m - 1) g) else cuP_ f m g) → eM_ M' x k (fun i => gsM_ f (m - pk_ S) (E i)) → R M') : nk_M_mergesIndex_372 b f level x rep mends (f + m - 1) M R := by
  have hb' := hb
  unfold bk_ at hb'
  have n23 := kh.2.2.1
  have k160 := ke.2.2.1
  have k0 := ke.2.1
  -- the end: the new run laid
  have fin : ∀ M1 rep1, fr_ (mxf_ b x) M M1 → nn_ri M1 408 (b + 8) = nn_ri M 408 (b + 8) → hM_ M1 x (n - (m - 1)) (cuP_ (f + 1) (m - 1) g) → eM_ M1 x k (fun i => gsM_ f (m - 1) (E i)) → rep1 = (if mends = 0 then rep else nn_ri M 408 b) →
      nr_M_lays b x f level rep1 M1 (fun M417 => nr_M_entriesOf x (f + 1) M417 (fun r426 M426 => ((r426 ≠ 0 → R M426) ∧ (r426 = 0 → nr_M_runGoes x f M426 (fun M436 => R M436))))) := by
    intro M1 rep1 f1 e8 h1 q1 er
    refine ct_M_lays cid S hb ⟨by omega, hx.2⟩ h1 ⟨hf, by omega⟩ (by rw [e8]; exact hid) (fun M2 f2 g8 h2 => ?_)
    have f12 : fr_ (mxf_ b x) M M2 := fr_trans f1 (fr_mono f2 (fun o c z => by unfold mxf_; exact ⟨z.1, by omega⟩))
    have q2 : eM_ M2 x k (fun i => gsM_ f (m - 1) (E i)) := by
      have rd : ∀ c : Int, 0 ≤ c → (c = x + 6 ∨ x + 215 ≤ c) → nn_ri M2 408 c = nn_ri M1 408 c := fun c c0 hc => fr_ri f2 (fun z => by have := z.2; omega)
      obtain ⟨a1, a2, a3, a4⟩ := q1
      exact ⟨(rd _ (by omega) (by omega)).trans a1, a2, a3, fun e e0 e1 => e4_cg (a4 e e0 e1) (rd _ (by omega) (by omega)) (rd _ (by omega) (by omega)) (rd _ (by omega) (by omega)) (rd _ (by omega) (by omega))⟩
    rw [e8, er] at h2
    rw [e8] at g8
    have run1 : ∀ e, 0 ≤ e → e < k → (gsM_ f (m - 1) (E e) / 4503599627370496 = f + 1 ↔ E e / 4503599627370496 = f + 1) := by
      intro e e0 e1
      have he := hE e e0 e1
      unfold gsM_
      by_cases z : f + 1 < E e / 4503599627370496
      · rw [if_pos z]; omega
      · rw [if_neg z]
    refine ct_M_entriesOf ⟨by omega, hx.2⟩ q2 ?_
    by_cases hs : ∃ y, S y
    · have p1 := pk_1 hs
      rw [p1, if_pos rfl] at h
      obtain ⟨e, e0, e1, e2⟩ := hS.mpr hs
      have hpos : 0 < ct_ (fun e => (fun i => gsM_ f (m - 1) (E i)) e / 4503599627370496 == f + 1) 0 k.toNat := by
        refine ct_pos (i := e) e0 (by omega) ?_
        show (gsM_ f (m - 1) (E e) / 4503599627370496 == f + 1) = true
        rw [(run1 e e0 e1).mpr e2]
        simp
      have hne : ct_ (fun e => (fun i => gsM_ f (m - 1) (E i)) e / 4503599627370496 == f + 1) 0 k.toNat ≠ 0 := by omega
      exact ⟨fun _ => h M2 f12 g8 h2 q2, fun z => absurd z hne⟩
    · have p0 := pk_0 hs
      rw [p0, if_neg (by decide)] at h
      have none : ∀ e, 0 ≤ e → e < k → E e / 4503599627370496 ≠ f + 1 := fun e e0 e1 z => hs (hS.mp ⟨e, e0, e1, z⟩)
      have hz : ct_ (fun e => (fun i => gsM_ f (m - 1) (E i)) e / 4503599627370496 == f + 1) 0 k.toNat = 0 := by
        refine ct_0 (fun e e0 e1 => ?_)
        show (gsM_ f (m - 1) (E e) / 4503599627370496 == f + 1) = false
        have := none e e0 (by omega)
        have r1 := run1 e e0 (by omega)
        exact beq_eq_false_iff_ne.mpr (fun w => this (r1.mp w))
      refine ⟨fun z => absurd hz z, fun _ => ?_⟩
      have hlow : ∀ i, 0 ≤ i → i < k → gsM_ f (m - 1) (E i) / 4503599627370496 < 1000 := by
        intro i i0 i1
        have := hE i i0 i1
        unfold gsM_
        by_cases z : f + 1 < E i / 4503599627370496
        · rw [if_pos z]; omega
        · rw [if_neg z]; omega
      refine ct_M_runGoes ⟨by omega, hx.2⟩ h2 q2 ⟨hf, by omega⟩ hlow (fun M3 f3 h3 q3 => ?_)
      have f13 : fr_ (mxf_ b x) M M3 := fr_trans f12 (fr_mono f3 (fun o c z => by unfold mxf_; exact ⟨z.1, by omega⟩))
      rw [cuP_st f m _ g hm, show n - (m - 1) - 1 = n - (m - 0) by omega] at h3
      refine h M3 f13 ((fr_ri f3 (fun z => by have := z.2; omega)).trans g8) h3 ?_
      obtain ⟨a1, a2, a3, a4⟩ := q3
      refine ⟨a1, a2, a3, fun e e0 e1 => ?_⟩
      have w := a4 e e0 e1
      have w2 : e4_ M3 (x + 215 + 4 * e) (go_ f (gsM_ f (m - 1) (E e))) := w
      rw [gsM_go (by omega) (Or.inl rfl) (by have := hE e e0 e1; omega) (fun _ => none e e0 e1), show m - 1 + 1 = m - 0 by omega] at w2
      exact w2
  have L : ∀ a : Int, f ≤ a → a ≤ f + m - 1 → ∀ M1, fr_ (mxf_ b x) M M1 → nn_ri M1 408 (b + 8) = nn_ri M 408 (b + 8) → nn_ri M1 408 b = nn_ri M 408 b → hM_ M1 x (n - (f + m - 1 - a)) (cuP_ (a + 1) (f + m - 1 - a) g) → eM_ M1 x k (fun i => gsM_ f (f + m - 1 - a) (E i)) → nk_M_mergesIndex_372 b f level x rep mends a M1 R := by
    refine lp_dn (fun a ha ih am M1 f1 e8 eb h1 q1 => ?_)
    refine ng_M_mergesIndex_372 _ _ _ _ _ _ _ _ _ ?_
    rw [mm_w_id (x := f + 1) (by omega), mm_w_id (x := b + 0) (by omega), mm_w_id (x := a + -1) (by omega), show b + 0 = b by omega, eb, show a + -1 = a - 1 by omega]
    refine ⟨fun c => ?_, fun c => ?_⟩
    · have : a = f := by omega
      subst this
      rw [show a + m - 1 - a = m - 1 by omega] at h1 q1
      refine ⟨fun z => fin M1 _ f1 e8 h1 q1 (by rw [if_pos z]), fun z => ⟨by omega, fin M1 _ f1 e8 h1 q1 (by rw [if_neg z])⟩⟩
    · have hlow : ∀ i, 0 ≤ i → i < k → gsM_ f (f + m - 1 - a) (E i) / 4503599627370496 < 1000 := by
        intro i i0 i1
        have := hE i i0 i1
        unfold gsM_
        by_cases z : f + 1 < E i / 4503599627370496
        · rw [if_pos z]; omega
        · rw [if_neg z]; omega
      refine ct_M_runGoes ⟨by omega, hx.2⟩ h1 q1 ⟨by omega, by omega⟩ hlow (fun M3 f3 h3 q3 => ?_)
      have rd : ∀ c : Int, 0 ≤ c → c < x → nn_ri M3 408 c = nn_ri M1 408 c := fun c c0 hc => fr_ri f3 (fun z => by have := z.2; omega)
      have ee : f + m - 1 - a + 1 = f + m - 1 - (a - 1) := by omega
      refine ih c (by omega) M3 (fr_trans f1 (fr_mono f3 (fun o c z => by unfold mxf_; exact ⟨z.1, by omega⟩))) ((rd _ (by omega) (by omega)).trans e8) ((rd _ (by omega) (by omega)).trans eb) ?_ ?_
      · rw [cuP_cu a _ g (by omega), ee, show n - (f + m - 1 - a) - 1 = n - (f + m - 1 - (a - 1)) by omega] at h3
        rw [show a - 1 + 1 = a by omega]
        exact h3
      · obtain ⟨a1, a2, a3, a4⟩ := q3
        refine ⟨a1, a2, a3, fun e e0 e1 => ?_⟩
        have w2 : e4_ M3 (x + 215 + 4 * e) (go_ a (gsM_ f (f + m - 1 - a) (E e))) := a4 e e0 e1
        rw [gsM_go (by omega) (Or.inr c) (by have := hE e e0 e1; omega) (fun z => by omega), ee] at w2
        exact w2
  refine L (f + m - 1) (by omega) (Int.le_refl _) M (fr_refl M) rfl rfl ?_ ?_
  · rw [show f + m - 1 - (f + m - 1) = 0 by omega, show n - 0 = n by omega, cuP_00]
    exact kh
  · obtain ⟨a1, a2, a3, a4⟩ := ke
    refine ⟨a1, a2, a3, fun e e0 e1 => ?_⟩
    show e4_ M (x + 215 + 4 * e) (gsM_ f (f + m - 1 - (f + m - 1)) (E e))
    have : gsM_ f (f + m - 1 - (f + m - 1)) (E e) = E e := by
      unfold gsM_
      by_cases z : f + 1 < E e / 4503599627370496
      · rw [if_pos z]; omega
      · rw [if_neg z]
    rw [this]
    exact a4 e e0 e1
