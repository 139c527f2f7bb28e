/-! the class's Table: a merge whole; a flush's laying down; a write -/
def mg1_ (q : Int → ab_R) (f many n sure : Int) : ab_V := if f + many = n then fun k => fg_ sure (mgv_ q f (many - 1).toNat k) else mgv_ q f (many - 1).toNat
def mgl_ (q : Int → ab_R) (f many n sure : Int) (lat : ab_V) : ab_V := if f + many = n then fun k => lg_ sure (mgv_ q f (many - 1).toNat k) (lat k) else lat
def mgk_ (q : Int → ab_R) (f many n sure : Int) : Int := if em_ (mg1_ q f many n sure) = true then 0 else 1
def mgr_ (q : Int → ab_R) (f many n sure level cid mid : Int) : ab_R := (cid, mid, level, mgf_ q f (many - 1).toNat, mgt_ q f (many - 1).toNat, mg1_ q f many n sure)
def mgq_ (q : Int → ab_R) (f many n sure level cid mid : Int) : Int → ab_R := cu_ (f + mgk_ q f many n sure) (many - mgk_ q f many n sure) (st_ f (mgr_ q f many n sure level cid mid) q)
def mgn_ (q : Int → ab_R) (f many n sure : Int) : Int := n - (many - mgk_ q f many n sure)
theorem kr_none {M : mm_M} {v : Nat} (k : kr_ M v) : nn_rf M v 2 = 0 ↔ em_ (cv_ M v) = true := by
  rw [em_iff]
  constructor
  · intro h j hj
    unfold cv_
    rw [h, bt_zero]
    rfl
  · intro h
    refine bt_ext0 _ k (fun j hj => ?_)
    have := h j hj
    unfold cv_ at this
    cases hb : bt_ (nn_rf M v 2) j with
    | false => rfl
    | true => rw [hb] at this; cases this
def tw_ (t o b : Nat) : Prop := tr_ t o b ∧ (o = t → b = 5 ∨ b = 8)
/-- level and id of a run are written -/
theorem tb_lab {M : mm_M} {t : Nat} {mem lat : ab_V} {n f : Int} {q : Int → ab_R} {x : ab_R} {lv id : Int} (k : tb_ M t mem lat n q) (hf : 0 ≤ f ∧ f < n) (h1 : x.1 = id) (h2 : x.2.2.1 = lv) (h3 : x.2.2.2 = (q f).2.2.2) : tb_ (nn_ui (nn_uf (nn_ui M (t + 8) f lv) t 8 (nn_rf M t 8 + 1)) (t + 9) f id) t mem lat n (st_ f x q) := by
  obtain ⟨⟨a1, a2⟩, ⟨b1, b2⟩, ⟨c1, c2, c3⟩, s, r⟩ := k
  have u : fr_ (fun o b => (o = t ∧ b = 8) ∨ (o = t + 8 ∧ b = f.toNat) ∨ (o = t + 9 ∧ b = f.toNat)) M (nn_ui (nn_uf (nn_ui M (t + 8) f lv) t 8 (nn_rf M t 8 + 1)) (t + 9) f id) := fr_ui (fr_uf (fr_ui (fr_refl M) (Or.inr (Or.inl ⟨rfl, rfl⟩))) (Or.inl ⟨rfl, rfl⟩)) (Or.inr (Or.inr ⟨rfl, rfl⟩))
  have far : ∀ v, t < v → (v + 3 ≤ t + 8 ∨ t + 10 ≤ v) → ∀ o b, vr_ v o b → ¬ ((o = t ∧ b = 8) ∨ (o = t + 8 ∧ b = f.toNat) ∨ (o = t + 9 ∧ b = f.toNat)) := fun v h1 h2 o b z z2 => by
    have := z.1; have := z.2; omega
  refine ⟨⟨(cv_fr u (far _ (by omega) (by omega))).trans a1, kr_fr u (far _ (by omega) (by omega)) a2⟩, ⟨(cv_fr u (far _ (by omega) (by omega))).trans b1, kr_fr u (far _ (by omega) (by omega)) b2⟩, ⟨(fr_rf u (by omega)).trans c1, c2, c3⟩, sl_fr u (fun b z => by omega) s, fun i i0 i1 => ?_⟩
  have hs := sl_in s i0 (by omega)
  by_cases z : i = f
  · subst z
    have e : nn_rr (nn_ui (nn_uf (nn_ui M (t + 8) i lv) t 8 (nn_rf M t 8 + 1)) (t + 9) i id) (t + 7) i = nn_rr M (t + 7) i := fr_rr u (by omega)
    obtain ⟨r1, r2, r3, r4, r5, r6⟩ := r i i0 i1
    have es : st_ i x q i = x := if_pos rfl
    have hf2 := far (nn_rr M (t + 7) i) (by omega) (by omega)
    rw [es]
    refine ⟨?_, ?_, ?_, ?_, ?_, ?_⟩
    · rw [rd_ii, if_pos ⟨rfl, rfl⟩, h1]
    · rw [rd_ii, if_neg (by omega), rd_if, if_neg (by omega), rd_ii, if_pos ⟨rfl, rfl⟩, h2]
    · rw [e, fr_rf u (hf2 _ 3 ⟨Nat.le_refl _, by omega⟩), r3, h3]
    · rw [e, fr_rf u (hf2 _ 4 ⟨Nat.le_refl _, by omega⟩), r4, h3]
    · rw [e, cv_fr u hf2, r5, h3]
    · rw [e]; exact kr_fr u hf2 r6
  · have : st_ f x q i = q i := if_neg z
    rw [this]
    exact ru_fr u (by omega) (by omega) (by omega) (far _ (by omega) (by omega)) (r i i0 i1)
theorem st_st (f : Int) (x y : ab_R) (q : Int → ab_R) : st_ f x (st_ f y q) = st_ f x q := by
  funext j
  unfold st_
  by_cases z : j = f
  · rw [if_pos z, if_pos z]
  · rw [if_neg z, if_neg z, if_neg z]
theorem ct_T_mergeRuns {t : Nat} {f many level sure n : Int} (mid : Int) {M : mm_M} {R : mm_M → Prop} {mem lat : ab_V} {q : Int → ab_R} (hf : 0 ≤ f) (hm : 1 ≤ many) (hn : f + many ≤ n) (k : tb_ M t mem lat n q) (hid : -2147483648 ≤ nn_rf M t 8 + 1 ∧ nn_rf M t 8 + 1 < 2147483648)
    (h : ∀ M', fr_ (tw_ t) M M' → nn_rf M' t 8 = nn_rf M t 8 + 1 → tb_ M' t mem (mgl_ q f many n sure lat) (mgn_ q f many n sure) (mgq_ q f many n sure level (nn_rf M t 8 + 1) mid) → R M') : nr_Table_mergeRuns t f many level sure M R := by
  have n24 : n ≤ 24 := k.2.2.1.2.2
  refine ct_T_takes hf hm hn k (fun M1 f1 k1 => ?_)
  have s := k.2.2.2.1
  have hs := sl_in s hf (by omega)
  have e1 : ∀ j, nn_rr M1 (t + 7) j = nn_rr M (t + 7) j := fun j => fr_rr f1 (fun z => by have := z.1; omega)
  have f1w : fr_ (tw_ t) M M1 := fr_mono f1 (fun o b z => ⟨⟨by have := z.1; omega, by have := z.2; omega⟩, fun e => by have := z.1; omega⟩)
  have g8 : nn_rf M1 t 8 = nn_rf M t 8 := fr_rf f1 (fun z => by have := z.1; omega)
  have g5 : nn_rf M1 t 5 = n := k1.2.2.1.1
  -- what follows once the object is as it shall be
  have key : ∀ M2, fr_ (tw_ t) M M2 → nn_rf M2 t 8 = nn_rf M t 8 → (∀ j, nn_rr M2 (t + 7) j = nn_rr M (t + 7) j) → tb_ M2 t mem (mgl_ q f many n sure lat) n (st_ f ((q f).1, (q f).2.1, (q f).2.2.1, mgf_ q f (many - 1).toNat, mgt_ q f (many - 1).toNat, mg1_ q f many n sure) q) →
      (0 ≤ f ∧ f < 24) ∧ ∀ M63, M63 = nn_ui M2 (t + 8) f level → nr_Table_newId t M63 (fun r70 M70 => (0 ≤ f ∧ f < 24) ∧ ∀ M73, M73 = nn_ui M70 (t + 9) f r70 → (nn_rf M73 (nn_rr M (t + 7) f) 2 ≠ 0 → nr_Table_takeOut t (mm_w (f + 1)) (mm_w (many - 1)) M73 (fun M98 => R M98)) ∧ (nn_rf M73 (nn_rr M (t + 7) f) 2 = 0 → nr_Table_takeOut t (mm_w (f + 0)) (mm_w (many - 0)) M73 (fun M98 => R M98))) := by
    intro M2 f2 h8 e2 k2
    refine ⟨by omega, ?_⟩
    rintro _ rfl
    have h8' : nn_rf (nn_ui M2 (t + 8) f level) t 8 = nn_rf M2 t 8 := by rw [rd_fi, if_neg (by omega)]
    refine ct_T_newId (by rw [h8', h8]; exact hid) ⟨by omega, ?_⟩
    rw [h8']
    rintro _ rfl
    have k3 := tb_lab (x := mgr_ q f many n sure level (nn_rf M t 8 + 1) mid) (lv := level) (id := nn_rf M2 t 8 + 1) k2 ⟨hf, by omega⟩ (by rw [h8]; rfl) rfl (by unfold st_; rw [if_pos rfl]; rfl)
    rw [st_st] at k3
    have f3 : fr_ (tw_ t) M (nn_ui (nn_uf (nn_ui M2 (t + 8) f level) t 8 (nn_rf M2 t 8 + 1)) (t + 9) f (nn_rf M2 t 8 + 1)) := fr_ui (fr_uf (fr_ui f2 ⟨⟨by omega, by omega⟩, fun e => by omega⟩) ⟨⟨by omega, by omega⟩, fun _ => Or.inr rfl⟩) ⟨⟨by omega, by omega⟩, fun e => by omega⟩
    have e3 : nn_rr (nn_ui (nn_uf (nn_ui M2 (t + 8) f level) t 8 (nn_rf M2 t 8 + 1)) (t + 9) f (nn_rf M2 t 8 + 1)) (t + 7) f = nn_rr M (t + 7) f := by
      rw [rr_ii0 (by omega), rr_uf0 (by omega), rr_ii0 (by omega), e2]
    have h83 : nn_rf (nn_ui (nn_uf (nn_ui M2 (t + 8) f level) t 8 (nn_rf M2 t 8 + 1)) (t + 9) f (nn_rf M2 t 8 + 1)) t 8 = nn_rf M t 8 + 1 := by
      rw [rd_fi, if_neg (by omega), rd_ff, if_pos ⟨rfl, rfl⟩, h8]
    generalize (nn_ui (nn_uf (nn_ui M2 (t + 8) f level) t 8 (nn_rf M2 t 8 + 1)) (t + 9) f (nn_rf M2 t 8 + 1)) = M4 at k3 f3 e3 h83 ⊢
    have ro := k3.2.2.2.2 f hf (by omega)
    have eo : st_ f (mgr_ q f many n sure level (nn_rf M t 8 + 1) mid) q f = mgr_ q f many n sure level (nn_rf M t 8 + 1) mid := if_pos rfl
    rw [eo] at ro
    obtain ⟨_, _, _, _, o5, o6⟩ := ro
    rw [e3] at o5 o6
    have hz := kr_none o6
    rw [o5] at hz
    have fin : ∀ M5, fr_ (tk_ t) M4 M5 → fr_ (tw_ t) M M5 ∧ nn_rf M5 t 8 = nn_rf M t 8 + 1 := fun M5 f5 => ⟨fr_trans f3 (fr_mono f5 (fun o b z => by
      unfold tk_ at z; unfold tw_ tr_
      rcases z with z | z | z | z <;> omega)), (fr_rf f5 (fun z => by unfold tk_ at z; omega)).trans h83⟩
    refine ⟨fun c => ?_, fun c => ?_⟩
    · have hk : mgk_ q f many n sure = 1 := if_neg (fun z => c (hz.mpr z))
      rw [mm_w_id (x := f + 1) (by omega), mm_w_id (x := many - 1) (by omega)]
      refine ct_T_takeOut k3 (by omega) (by omega) (by omega) (fun M5 f5 k5 => ?_)
      obtain ⟨p1, p2⟩ := fin M5 f5
      refine h M5 p1 p2 ?_
      unfold mgn_ mgq_
      rw [hk]
      exact k5
    · have hk : mgk_ q f many n sure = 0 := if_pos (hz.mp c)
      rw [mm_w_id (x := f + 0) (by omega), mm_w_id (x := many - 0) (by omega)]
      refine ct_T_takeOut k3 (by omega) (by omega) (by omega) (fun M5 f5 k5 => ?_)
      obtain ⟨p1, p2⟩ := fin M5 f5
      refine h M5 p1 p2 ?_
      unfold mgn_ mgq_
      rw [hk]
      exact k5
  refine ng_Table_mergeRuns_13 _ _ _ _ _ _ _ _ _ ?_
  rw [mm_w_id (x := f + many) (by omega), g5]
  refine ⟨fun _ => ⟨fun c => ?_, fun c => ?_⟩, fun c => absurd c (by omega)⟩
  · refine key M1 f1w g8 e1 ?_
    unfold mgl_ mg1_
    rw [if_neg c, if_neg c]
    exact k1
  · have ro := k1.2.2.2.2 f hf (by omega)
    have eo : st_ f (mgo_ q f (many - 1).toNat) q f = mgo_ q f (many - 1).toNat := if_pos rfl
    rw [eo, ] at ro
    obtain ⟨_, _, o3, o4, o5, o6⟩ := ro
    rw [e1] at o3 o4 o5 o6
    refine ct_T_forgetGone (by omega) o6 k1.2.1.2 (fun M2 f2 c2 d2 k2 k3 => ?_)
    have e2 : ∀ j, nn_rr M2 (t + 7) j = nn_rr M (t + 7) j := fun j => (fr_rr f2 (by omega)).trans (e1 j)
    refine key M2 (fr_trans f1w (fr_mono f2 (fun o b z => ⟨⟨by omega, by omega⟩, fun e => by omega⟩))) ((fr_rf f2 (by omega)).trans g8) e2 ?_
    -- the table behind it
    have k1' := k1
    obtain ⟨⟨a1, a2⟩, ⟨b1, b2⟩, ⟨c1, c2', c3⟩, s1, r1⟩ := k1
    have far : ∀ v, (v + 3 ≤ nn_rr M (t + 7) f ∨ nn_rr M (t + 7) f + 3 ≤ v) → (v + 3 ≤ t + 4 ∨ t + 7 ≤ v) → ∀ o b, vr_ v o b → ¬ ((o = nn_rr M (t + 7) f ∧ b = 2) ∨ (o = t + 4 ∧ b = 2)) := fun v hv hv2 o b z z2 => by
      have := z.1; have := z.2; omega
    refine ⟨⟨(cv_fr f2 (far _ (by omega) (by omega))).trans a1, kr_fr f2 (far _ (by omega) (by omega)) a2⟩, ⟨?_, k3⟩, ⟨(fr_rf f2 (by omega)).trans c1, c2', c3⟩, sl_fr f2 (fun b z => by omega) s1, fun i i0 i1 => ?_⟩
    · unfold mgl_
      rw [if_pos c]
      funext j
      by_cases z : j < 32
      · rw [d2 j z, o5, b1]
        rfl
      · rw [cv_out (by omega), ← b1, cv_out (by omega)]
        unfold lg_
        split
        · rename_i h1 h2; cases h2
        · rfl
    · by_cases z : i = f
      · subst z
        have es : st_ i ((q i).1, (q i).2.1, (q i).2.2.1, mgf_ q i (many - 1).toNat, mgt_ q i (many - 1).toNat, mg1_ q i many n sure) q i = ((q i).1, (q i).2.1, (q i).2.2.1, mgf_ q i (many - 1).toNat, mgt_ q i (many - 1).toNat, mg1_ q i many n sure) := if_pos rfl
        rw [es]
        have ri := r1 i i0 i1
        rw [eo] at ri
        refine ⟨(fr_ri f2 (by omega)).trans ri.1, (fr_ri f2 (by omega)).trans ri.2.1, ?_, ?_, ?_, ?_⟩
        · rw [e2, fr_rf f2 (by omega)]; exact o3
        · rw [e2, fr_rf f2 (by omega)]; exact o4
        · rw [e2]
          unfold mg1_
          rw [if_pos c]
          funext j
          by_cases z : j < 32
          · rw [c2 j z, o5]
            rfl
          · show _ = fg_ sure (mgv_ q i (many - 1).toNat j)
            have : mgv_ q i (many - 1).toNat j = none := by
              have := congrFun o5 j
              rw [cv_out (by omega)] at this
              exact this.symm
            rw [cv_out (by omega), this]
            rfl
        · rw [e2]; exact k2
      · have e4 : ∀ y, st_ f y q i = q i := fun y => if_neg z
        rw [e4]
        have ri := r1 i i0 i1
        rw [e4] at ri
        have hne := sl_ne s i0 (by omega) hf (by omega) z
        have hin := sl_in s i0 (by omega)
        refine ru_fr f2 (by omega) (by omega) (by omega) ?_ ri
        rw [e1]
        exact far _ hne (by omega)
