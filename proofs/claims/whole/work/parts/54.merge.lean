/-! the class's Table: runs are merged -/
def fg_ (sure : Int) (x : Option (Int × Int)) : Option (Int × Int) := match x with
  | some p => if p.2 = -1 ∧ (sure = -1 ∨ p.1 ≤ sure) then none else some p
  | none => none
def lg_ (sure : Int) (x l : Option (Int × Int)) : Option (Int × Int) := match x, l with
  | some p, some r => if (p.2 = -1 ∧ (sure = -1 ∨ p.1 ≤ sure)) ∧ r.1 = p.1 then none else some r
  | _, l => l
def st_ (f : Int) (x : ab_R) (q : Int → ab_R) : Int → ab_R := fun i => if i = f then x else q i
def mgv_ (q : Int → ab_R) (f : Int) : Nat → ab_V
  | 0 => (q f).2.2.2.2.2
  | m + 1 => fun k => or_ (mgv_ q f m k) ((q (f + m + 1)).2.2.2.2.2 k)
def mgf_ (q : Int → ab_R) (f : Int) : Nat → Int
  | 0 => (q f).2.2.2.1
  | m + 1 => min (mgf_ q f m) ((q (f + m + 1)).2.2.2.1)
def mgt_ (q : Int → ab_R) (f : Int) : Nat → Int
  | 0 => (q f).2.2.2.2.1
  | m + 1 => max (mgt_ q f m) ((q (f + m + 1)).2.2.2.2.1)
def em_ (V : ab_V) : Bool := (List.range 32).all (fun k => (V k).isNone)
theorem em_iff (V : ab_V) : em_ V = true ↔ ∀ k, k < 32 → V k = none := by
  unfold em_
  rw [List.all_eq_true]
  constructor
  · intro h k hk
    exact Option.isNone_iff_eq_none.mp (h k (List.mem_range.mpr hk))
  · intro h k hk
    rw [h k (List.mem_range.mp hk)]
    rfl
theorem ct_T_forgetGone {t w : Nat} {sure : Int} {M : mm_M} {R : mm_M → Prop} (hw : w + 3 ≤ t + 4 ∨ t + 7 ≤ w)  (hkr : kr_ M w) (hkl : kr_ M (t + 4))
    (h : ∀ M', fr_ (fun o b => (o = w ∧ b = 2) ∨ (o = t + 4 ∧ b = 2)) M M' → (∀ j, j < 32 → cv_ M' w j = fg_ sure (cv_ M w j)) → (∀ j, j < 32 → cv_ M' (t + 4) j = lg_ sure (cv_ M w j) (cv_ M (t + 4) j)) → kr_ M' w → kr_ M' (t + 4) → R M') : nr_Table_forgetGone t w sure M R := by
  refine ng_Table_forgetGone _ _ _ _ _ ?_
  have L : ∀ i : Int, i ≤ 32 → 0 ≤ i → ∀ M1, fr_ (fun o b => (o = w ∧ b = 2) ∨ (o = t + 4 ∧ b = 2)) M M1 → (∀ j, j < 32 → cv_ M1 w j = if (j : Int) < i then fg_ sure (cv_ M w j) else cv_ M w j) → (∀ j, j < 32 → cv_ M1 (t + 4) j = if (j : Int) < i then lg_ sure (cv_ M w j) (cv_ M (t + 4) j) else cv_ M (t + 4) j) → kr_ M1 w → kr_ M1 (t + 4) → nk_Table_forgetGone_2 t w sure i M1 R := by
    refine lp_up (fun i hi ih h0 M1 f1 c1 d1 k1 k2 => ?_)
    refine ng_Table_forgetGone_2 _ _ _ _ _ _ ⟨fun c => ?_, fun c => ?_⟩
    · refine h M1 f1 (fun j hj => ?_) (fun j hj => ?_) k1 k2
      · rw [c1 j hj, if_pos (by omega)]
      · rw [d1 j hj, if_pos (by omega)]
    have hb : 0 ≤ i ∧ i < 32 := ⟨h0, c⟩
    have nx := ih c (by omega)
    have wi : mm_w (i + 1) = i + 1 := mm_w_id (by omega)
    have ti : ((i.toNat : Nat) : Int) = i := by omega
    have c1i := c1 i.toNat (by omega)
    have d1i := d1 i.toNat (by omega)
    rw [if_neg (by omega)] at c1i d1i
    rw [wi]
    refine ⟨hb, fun _ => hb, fun p => ?_, fun p => ?_⟩
    · have hx : fg_ sure (cv_ M w i.toNat) = cv_ M w i.toNat ∧ lg_ sure (cv_ M w i.toNat) (cv_ M (t + 4) i.toNat) = cv_ M (t + 4) i.toNat := by
        by_cases p0 : nf_Versions_has w i M1 = 0
        · rw [← c1i, (hs0 hb).mp p0]
          exact ⟨rfl, rfl⟩
        · have e := cv_rd hb p0
          rw [c1i] at e
          have p1 := p.resolve_left p0
          rw [e]
          unfold fg_ lg_
          have hn : ¬ (nn_ri M1 (w + 1) i = -1 ∧ (sure = -1 ∨ nn_ri M1 (w + 2) i ≤ sure)) := by omega
          refine ⟨if_neg hn, ?_⟩
          cases cv_ M (t + 4) i.toNat with
          | none => rfl
          | some r => exact if_neg (fun z => hn z.1)
      refine nx M1 f1 (fun j hj => ?_) (fun j hj => ?_) k1 k2
      · rw [c1 j hj]
        by_cases z : j = i.toNat
        · rw [if_neg (by omega), if_pos (by omega), z, hx.1]
        · by_cases y : (j : Int) < i
          · rw [if_pos y, if_pos (by omega)]
          · rw [if_neg y, if_neg (by omega)]
      · rw [d1 j hj]
        by_cases z : j = i.toNat
        · rw [if_neg (by omega), if_pos (by omega), z, hx.2]
        · by_cases y : (j : Int) < i
          · rw [if_pos y, if_pos (by omega)]
          · rw [if_neg y, if_neg (by omega)]
    · have e := cv_rd hb p.1
      rw [c1i] at e
      have hy : nn_ri M1 (w + 1) i = -1 ∧ (sure = -1 ∨ nn_ri M1 (w + 2) i ≤ sure) := p.2
      refine ct_V_forget hb (fun M2 f2 c2 k3 => ?_)
      have cw : ∀ j, j < 32 → cv_ M2 w j = if (j : Int) < i + 1 then fg_ sure (cv_ M w j) else cv_ M w j := by
        intro j hj
        rw [c2 j hj]
        by_cases z : j = i.toNat
        · rw [if_pos z, if_pos (by omega), z, e]
          unfold fg_
          exact (if_pos hy).symm
        · rw [if_neg z, c1 j hj]
          by_cases y : (j : Int) < i
          · rw [if_pos y, if_pos (by omega)]
          · rw [if_neg y, if_neg (by omega)]
      have g2 : cv_ M2 (t + 4) = cv_ M1 (t + 4) := cv_fr f2 (fun o b z z2 => by have := z.1; have := z.2; omega)
      have k4 : kr_ M2 (t + 4) := kr_fr f2 (fun o b z z2 => by have := z.1; have := z.2; omega) k2
      have e2 : nn_ri M2 (t + 6) i = nn_ri M1 (t + 6) i := fr_ri f2 (fun z => by omega)
      have f12 : fr_ (fun o b => (o = w ∧ b = 2) ∨ (o = t + 4 ∧ b = 2)) M M2 := fr_trans f1 (fr_mono f2 (fun o b z => Or.inl z))
      rw [e2]
      refine ⟨hb, fun r => ?_, fun r => ?_⟩
      · refine nx M2 f12 cw (fun j hj => ?_) k3 k4
        rw [g2, d1 j hj]
        by_cases z : j = i.toNat
        · rw [if_neg (by omega), if_pos (by omega), z, e]
          cases hl : cv_ M (t + 4) i.toNat with
          | none => rfl
          | some s =>
            unfold lg_
            have hs := cv_rd (M := M1) (v := t + 4) hb ((hs1 hb).mpr (by rw [d1i, hl]; exact Option.some_ne_none s))
            rw [d1i, hl] at hs
            have hs2 : s = (nn_ri M1 (t + 4 + 2) i, nn_ri M1 (t + 4 + 1) i) := Option.some.inj hs
            rw [hs2]
            exact (if_neg (fun z => r z.2)).symm
        · by_cases y : (j : Int) < i
          · rw [if_pos y, if_pos (by omega)]
          · rw [if_neg y, if_neg (by omega)]
      · refine ct_V_forget hb (fun M3 f3 c3 k5 => ?_)
        have k6 : kr_ M3 w := kr_fr f3 (fun o b z z2 => by have := z.1; have := z.2; omega) k3
        have g3 : cv_ M3 w = cv_ M2 w := cv_fr f3 (fun o b z z2 => by have := z.1; have := z.2; omega)
        refine nx M3 (fr_trans f12 (fr_mono f3 (fun o b z => Or.inr z))) (fun j hj => ?_) (fun j hj => ?_) k6 k5
        · rw [g3]; exact cw j hj
        · rw [c3 j hj]
          by_cases z : j = i.toNat
          · rw [if_pos z, if_pos (by omega), z, e]
            cases hl : cv_ M (t + 4) i.toNat with
            | none => rfl
            | some s =>
              unfold lg_
              have hs := cv_rd (M := M1) (v := t + 4) hb ((hs1 hb).mpr (by rw [d1i, hl]; exact Option.some_ne_none s))
              rw [d1i, hl] at hs
              have hs2 : s = (nn_ri M1 (t + 4 + 2) i, nn_ri M1 (t + 4 + 1) i) := Option.some.inj hs
              rw [hs2]
              exact (if_pos ⟨hy, r⟩).symm
          · rw [if_neg z, g2, d1 j hj]
            by_cases y : (j : Int) < i
            · rw [if_pos y, if_pos (by omega)]
            · rw [if_neg y, if_neg (by omega)]
  exact L 0 (by omega) (by omega) M (fr_refl M) (fun j _ => by rw [if_neg (by omega)]) (fun j _ => by rw [if_neg (by omega)]) hkr hkl
/-- one run's object is written -/
theorem tb_slot {M M' : mm_M} {t : Nat} {mem lat : ab_V} {n f : Int} {q : Int → ab_R} {x : ab_R} (k : tb_ M t mem lat n q) (hf : 0 ≤ f ∧ f < n) (h : fr_ (vr_ (nn_rr M (t + 7) f)) M M') (h1 : x.1 = (q f).1) (h2 : x.2.2.1 = (q f).2.2.1) (h3 : nn_rf M' (nn_rr M (t + 7) f) 3 = x.2.2.2.1) (h4 : nn_rf M' (nn_rr M (t + 7) f) 4 = x.2.2.2.2.1) (h5 : cv_ M' (nn_rr M (t + 7) f) = x.2.2.2.2.2) (h6 : kr_ M' (nn_rr M (t + 7) f)) : tb_ M' t mem lat n (st_ f x q) := by
  obtain ⟨⟨a1, a2⟩, ⟨b1, b2⟩, ⟨c1, c2, c3⟩, s, r⟩ := k
  have hs := sl_in s hf.1 (by omega)
  have far : ∀ v, (v + 3 ≤ nn_rr M (t + 7) f ∨ nn_rr M (t + 7) f + 3 ≤ v) → ∀ o b, vr_ v o b → ¬ vr_ (nn_rr M (t + 7) f) o b := fun v hv o b z z2 => by
    have := z.1; have := z.2; have := z2.1; have := z2.2; omega
  have cell : ∀ o b, o < t + 10 → ¬ vr_ (nn_rr M (t + 7) f) o b := fun o b ho z => by have := z.1; omega
  refine ⟨⟨(cv_fr h (far _ (by omega))).trans a1, kr_fr h (far _ (by omega)) a2⟩, ⟨(cv_fr h (far _ (by omega))).trans b1, kr_fr h (far _ (by omega)) b2⟩, ⟨(fr_rf h (cell _ _ (by omega))).trans c1, c2, c3⟩, sl_fr h (fun b => cell _ _ (by omega)) s, fun i i0 i1 => ?_⟩
  by_cases z : i = f
  · subst z
    have e : nn_rr M' (t + 7) i = nn_rr M (t + 7) i := fr_rr h (cell _ _ (by omega))
    have ri := r i i0 i1
    refine ⟨?_, ?_, ?_, ?_, ?_, ?_⟩
    · rw [fr_ri h (cell _ _ (by omega)), ri.1]; unfold st_; rw [if_pos rfl, h1]
    · rw [fr_ri h (cell _ _ (by omega)), ri.2.1]; unfold st_; rw [if_pos rfl, h2]
    · rw [e, h3]; unfold st_; rw [if_pos rfl]
    · rw [e, h4]; unfold st_; rw [if_pos rfl]
    · rw [e, h5]; unfold st_; rw [if_pos rfl]
    · rw [e]; exact h6
  · have : st_ f x q i = q i := if_neg z
    rw [this]
    exact ru_fr h (cell _ _ (by omega)) (cell _ _ (by omega)) (cell _ _ (by omega)) (far _ (sl_ne s i0 (by omega) hf.1 (by omega) z)) (r i i0 i1)
def mgo_ (q : Int → ab_R) (f : Int) (m : Nat) : ab_R := ((q f).1, (q f).2.1, (q f).2.2.1, mgf_ q f m, mgt_ q f m, mgv_ q f m)
/-- the older ones are taken in, one after another -/
theorem ct_T_takes {t : Nat} {f many level sure n : Int} {M : mm_M} {R : mm_M → Prop} {mem lat : ab_V} {q : Int → ab_R} (hf : 0 ≤ f) (hm : 1 ≤ many) (hn : f + many ≤ n) (k : tb_ M t mem lat n q)
    (h : ∀ M', fr_ (vr_ (nn_rr M (t + 7) f)) M M' → tb_ M' t mem lat n (st_ f (mgo_ q f (many - 1).toNat) q) → nk_Table_mergeRuns_13 t f many level sure (nn_rr M (t + 7) f) (f + many) M' R) : nr_Table_mergeRuns t f many level sure M R := by
  have n24 : n ≤ 24 := k.2.2.1.2.2
  refine ng_Table_mergeRuns _ _ _ _ _ _ _ ⟨by omega, ?_⟩
  rw [mm_w_id (by omega)]
  have L : ∀ i : Int, i ≤ f + many → f + 1 ≤ i → ∀ M1, fr_ (vr_ (nn_rr M (t + 7) f)) M M1 → tb_ M1 t mem lat n (st_ f (mgo_ q f (i - f - 1).toNat) q) → nk_Table_mergeRuns_13 t f many level sure (nn_rr M (t + 7) f) i M1 R := by
    refine lp_up (fun i hi ih h0 M1 f1 k1 => ?_)
    by_cases c : i < f + many
    · refine ng_Table_mergeRuns_13 _ _ _ _ _ _ _ _ _ ?_
      rw [mm_w_id (x := f + many) (by omega), mm_w_id (x := i + 1) (by omega)]
      refine ⟨fun c2 => by omega, fun _ => ⟨by omega, ?_⟩⟩
      have s := k.2.2.2.1
      have s1 := k1.2.2.2.1
      have hs := sl_in s hf (by omega)
      have e1 : ∀ j, nn_rr M1 (t + 7) j = nn_rr M (t + 7) j := fun j => fr_rr f1 (fun z => by have := z.1; omega)
      have hne := sl_ne s (i := f) (j := i) hf (by omega) (by omega) (by omega) (by omega)
      have ro := k1.2.2.2.2 f hf (by omega)
      have ri := k1.2.2.2.2 i (by omega) (by omega)
      have eo : st_ f (mgo_ q f (i - f - 1).toNat) q f = mgo_ q f (i - f - 1).toNat := if_pos rfl
      have ei : st_ f (mgo_ q f (i - f - 1).toNat) q i = q i := if_neg (by omega)
      rw [eo] at ro
      rw [ei] at ri
      obtain ⟨_, _, o3, o4, o5, o6⟩ := ro
      obtain ⟨_, _, i3, i4, i5, _⟩ := ri
      rw [e1] at o3 o4 o5 o6 i3 i4 i5 ⊢
      refine ct_V_takeOlder hne o6 (fun M2 f2 c2 k2 a2 b2 => ?_)
      refine ih c (by omega) M2 (fr_trans f1 f2) ?_
      have ej : (i + 1 - f - 1).toNat = (i - f - 1).toNat + 1 := by omega
      have eq : f + ((i - f - 1).toNat : Int) + 1 = i := by omega
      have f2' : fr_ (vr_ (nn_rr M1 (t + 7) f)) M1 M2 := by rw [e1]; exact f2
      have := tb_slot (x := mgo_ q f (i + 1 - f - 1).toNat) k1 ⟨hf, by omega⟩ f2' (by rw [eo]; rfl) (by rw [eo]; rfl) ?_ ?_ ?_ ?_
      · have e3 : st_ f (mgo_ q f (i + 1 - f - 1).toNat) (st_ f (mgo_ q f (i - f - 1).toNat) q) = st_ f (mgo_ q f (i + 1 - f - 1).toNat) q := by
          funext j
          unfold st_
          by_cases z : j = f
          · rw [if_pos z, if_pos z]
          · rw [if_neg z, if_neg z, if_neg z]
        rw [e3] at this
        exact this
      · rw [e1, a2, o3, i3, ej]
        show min (mgf_ q f _) _ = mgf_ q f (_ + 1)
        unfold mgf_
        rw [eq]
        cases (i - f - 1).toNat <;> rfl
      · rw [e1, b2, o4, i4, ej]
        show max (mgt_ q f _) _ = mgt_ q f (_ + 1)
        unfold mgt_
        rw [eq]
        cases (i - f - 1).toNat <;> rfl
      · rw [e1, ej]
        funext j
        show cv_ M2 _ j = or_ (mgv_ q f (i - f - 1).toNat j) ((q (f + ((i - f - 1).toNat : Int) + 1)).2.2.2.2.2 j)
        rw [eq]
        by_cases z : j < 32
        · rw [c2 j z, o5, i5]
          rfl
        · rw [cv_out (by omega), ← i5, cv_out (by omega)]
          have : mgv_ q f (i - f - 1).toNat j = none := by
            have := congrFun o5 j
            rw [cv_out (by omega)] at this
            exact this.symm
          rw [this]
          rfl
      · rw [e1]; exact k2
    · have : i = f + many := by omega
      subst this
      refine h M1 f1 ?_
      rw [show (many - 1).toNat = (f + many - f - 1).toNat by omega]
      exact k1
  refine L (f + 1) (by omega) (Int.le_refl _) M (fr_refl M) ?_
  have e : st_ f (mgo_ q f (f + 1 - f - 1).toNat) q = q := by
    funext j
    unfold st_
    by_cases z : j = f
    · rw [if_pos z, z, show (f + 1 - f - 1).toNat = 0 by omega]
      rfl
    · rw [if_neg z]
  rw [e]
  exact k
