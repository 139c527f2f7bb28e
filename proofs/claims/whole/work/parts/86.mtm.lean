/-! the Model: a merge of the table's runs whole -/
theorem cu_cu (f m : Int) (q : Int → ab_R) (hm : 0 ≤ m) : cu_ f 1 (cu_ (f + 1) m q) = cu_ f (m + 1) q := by
  funext i
  unfold cu_
  by_cases z : i < f
  · rw [if_pos z, if_pos (by omega), if_pos z]
  · rw [if_neg z, if_neg (by omega), if_neg z, show i + 1 + m = i + (m + 1) by omega]
theorem cu_0 (f : Int) (q : Int → ab_R) : cu_ f 0 q = q := by
  funext i
  unfold cu_
  by_cases z : i < f
  · rw [if_pos z]
  · rw [if_neg z, Int.add_zero]
def mt_ (b : Int) (o c : Nat) : Prop := o = 408 ∧ ((c : Int) = b + 5 ∨ (c : Int) = b + 8 ∨ (c : Int) = b + 23 ∨ (b + 288 ≤ (c : Int) ∧ (c : Int) < b + 1784))
theorem tM_fr {P : Nat → Nat → Prop} {M M' : mm_M} (h : fr_ P M M') {b n : Int} {mem : ab_V} {q : Int → ab_R} (hb : bk_ b) (hv : ∀ c : Nat, (b + 5 = (c : Int) ∨ (b + 24 ≤ (c : Int) ∧ (c : Int) < b + 88) ∨ (b + 288 ≤ (c : Int) ∧ (c : Int) < b + 288 + 68 * n)) → ¬ P 408 c) (t : tM_ M b mem n q) : tM_ M' b mem n q := by
  unfold bk_ at hb
  have rd : ∀ c : Int, 0 ≤ c → (b + 5 = c ∨ (b + 24 ≤ c ∧ c < b + 88) ∨ (b + 288 ≤ c ∧ c < b + 288 + 68 * n)) → nn_ri M' 408 c = nn_ri M 408 c := fun c c0 hc => fr_ri h (hv c.toNat (by omega))
  obtain ⟨t1, t2, ⟨t3, n0, n22⟩, t4⟩ := t
  refine ⟨?_, fun k k0 k1 => ?_, ⟨(rd _ (by omega) (by omega)).trans t3, n0, n22⟩, fun r r0 r1 => ?_⟩
  · rw [← t1]; exact mv_cg (fun j j0 j1 => rd _ (by omega) (by omega))
  · rw [rd _ (by omega) (by omega)]; exact t2 k k0 k1
  · exact rM_cg (fun j j0 j1 => rd _ (by omega) (by omega)) (t4 r r0 r1)
theorem ct_M_mergesTable {b f many level sure n : Int} (cid : Int) {M : mm_M} {R : mm_M → Prop} {mem : ab_V} {q : Int → ab_R} (hb : bk_ b) (hf : 0 ≤ f) (hm : 1 ≤ many) (hn : f + many ≤ n) (t : tM_ M b mem n q) (hid : -2147483648 ≤ nn_ri M 408 (b + 8) + 1 ∧ nn_ri M 408 (b + 8) + 1 < 2147483648) (hmg : -2147483648 ≤ nn_ri M 408 (b + 23) + 1 ∧ nn_ri M 408 (b + 23) + 1 < 2147483648) (hsure : ∀ R' : Int → mm_M → Prop, R' sure M → nr_M_sure b M R')
    (h : ∀ M', fr_ (mt_ b) M M' → nn_ri M' 408 (b + 8) = nn_ri M 408 (b + 8) + 1 → nn_ri M' 408 (b + 23) = nn_ri M 408 (b + 23) + 1 → tM_ M' b mem (mgn_ q f many n sure) (mgq_ q f many n sure level cid (nn_ri M 408 (b + 8) + 1)) → R M') : nr_M_mergesTable b f many level M R := by
  have n22 := t.2.2.1.2.2
  have n5 := t.2.2.1.1
  have hb' := hb
  unfold bk_ at hb'
  -- the end: runs that were taken in go, and the new one if it has nothing
  have fin : ∀ M3 c (x : ab_R), fr_ (mt_ b) M M3 → nn_ri M3 408 (b + 8) = nn_ri M 408 (b + 8) + 1 → nn_ri M3 408 (b + 23) = nn_ri M 408 (b + 23) → tM_ M3 b mem n (st_ f x q) → (c = 0 ↔ mgk_ q f many n sure = 0) → x = mgr_ q f many n sure level cid (nn_ri M 408 (b + 8) + 1) → nk_M_mergesTable_379 b f c (f + many - 1) M3 R := by
    intro M3 c x f3 e8 e23 t3 hc hx
    have last : ∀ M4 n' q', fr_ (mt_ b) M M4 → nn_ri M4 408 (b + 8) = nn_ri M 408 (b + 8) + 1 → nn_ri M4 408 (b + 23) = nn_ri M 408 (b + 23) → tM_ M4 b mem n' q' → n' = mgn_ q f many n sure → q' = mgq_ q f many n sure level cid (nn_ri M 408 (b + 8) + 1) → nk_M_mergesTable_409 b M4 R := by
      intro M4 n' q' f4 a8 a23 t4 hn' hq'
      refine ng_M_mergesTable_409 _ _ _ ?_
      rw [mm_w_id (x := b + 23) (by omega), a23, mm_w_id hmg]
      refine ⟨by omega, by omega, ?_⟩
      rintro _ rfl
      have n22' := t4.2.2.1
      refine h _ (fr_ui f4 ⟨rfl, by omega⟩) (by rw [rd_ii, if_neg (by omega), a8]) (by rw [rd_ii, if_pos ⟨rfl, rfl⟩]) ?_
      rw [← hn', ← hq']
      exact tM_fr (P := fun o c => o = 408 ∧ (c : Int) = b + 23) (fr_ui (fr_refl M4) ⟨rfl, by omega⟩) hb (fun c hc z => by have := z.2; omega) t4
    have L : ∀ i : Int, f ≤ i → i ≤ f + many - 1 → ∀ M4, fr_ (mt_ b) M M4 → nn_ri M4 408 (b + 8) = nn_ri M 408 (b + 8) + 1 → nn_ri M4 408 (b + 23) = nn_ri M 408 (b + 23) → tM_ M4 b mem (n - (f + many - 1 - i)) (cu_ (i + 1) (f + many - 1 - i) (st_ f x q)) → nk_M_mergesTable_379 b f c i M4 R := by
      refine lp_dn (fun i hi ih hi2 M4 f4 a8 a23 t4 => ?_)
      refine ng_M_mergesTable_379 _ _ _ _ _ _ ⟨fun z => ?_, fun z => ?_⟩
      · have hif : i = f := by omega
        subst hif
        refine ⟨fun y => ?_, fun y => ?_⟩
        · have hk : mgk_ q i many n sure = 1 := by
            have := mgk_in q i many n sure
            have : mgk_ q i many n sure ≠ 0 := fun w => y (hc.mpr w)
            omega
          refine last M4 _ _ f4 a8 a23 t4 ?_ ?_
          · unfold mgn_; rw [hk]; omega
          · unfold mgq_; rw [hk, ← hx, show i + many - 1 - i = many - 1 by omega]
        · have hk : mgk_ q i many n sure = 0 := hc.mp y
          refine ct_M_tableGoes hb t4 ⟨hf, by omega⟩ (fun M5 f5 t5 => ?_)
          refine last M5 _ _ (fr_trans f4 (fr_mono f5 (fun o c w => ⟨w.1, by have := w.2; omega⟩))) ?_ ?_ t5 ?_ ?_
          · rw [fr_ri f5 (fun w => by have := w.2; omega)]; exact a8
          · rw [fr_ri f5 (fun w => by have := w.2; omega)]; exact a23
          · unfold mgn_; rw [hk]; omega
          · rw [cu_cu _ _ _ (by omega)]
            unfold mgq_
            rw [hk, ← hx, show i + many - 1 - i + 1 = many - 0 by omega, Int.add_zero]
      · rw [mm_w_id (x := i + -1) (by omega), show i + -1 = i - 1 by omega]
        refine ct_M_tableGoes hb t4 ⟨by omega, by omega⟩ (fun M5 f5 t5 => ?_)
        refine ih z (by omega) M5 (fr_trans f4 (fr_mono f5 (fun o c w => ⟨w.1, by have := w.2; omega⟩))) ?_ ?_ ?_
        · rw [fr_ri f5 (fun w => by have := w.2; omega)]; exact a8
        · rw [fr_ri f5 (fun w => by have := w.2; omega)]; exact a23
        · rw [cu_cu _ _ _ (by omega)] at t5
          rw [show n - (f + many - 1 - (i - 1)) = n - (f + many - 1 - i) - 1 by omega, show i - 1 + 1 = i by omega, show f + many - 1 - (i - 1) = f + many - 1 - i + 1 by omega]
          exact t5
    refine L (f + many - 1) (by omega) (Int.le_refl _) M3 f3 e8 e23 ?_
    rw [show f + many - 1 - (f + many - 1) = 0 by omega, cu_0, Int.sub_zero]
    exact t3
  -- with or without the oldest
  have go : ∀ old : Int, (old = 0 ↔ f + many ≠ n) → nk_M_mergesTable_40 b f many level old sure (b + 288 + 68 * f) (f + 1) M R := by
    intro old hold
    refine ct_M_mrun hb hf hm hn t (fun M1 f1 t1 => ?_)
    have eo : st_ f (mgo_ q f (many - 1).toNat) q f = mgo_ q f (many - 1).toNat := if_pos rfl
    have ro := t1.2.2.2 f hf (by omega)
    rw [eo] at ro
    obtain ⟨o1, o2, o3, o4, o5, o6⟩ := ro
    refine ng_M_mergesTable_40 _ _ _ _ _ _ _ _ _ _ ?_
    rw [mm_w_id (x := f + many) (by omega), mm_w_id (x := b + 288 + 68 * f + 1) (by omega), mm_w_id (x := b + 288 + 68 * f + 4) (by omega)]
    refine ⟨fun _ => ?_, fun z => by omega⟩
    have g8 : nn_ri M1 408 (b + 8) = nn_ri M 408 (b + 8) := a8_ri f1 (by omega) (by omega)
    have g23 : nn_ri M1 408 (b + 23) = nn_ri M 408 (b + 23) := a8_ri f1 (by omega) (by omega)
    refine ct_M_number hb (by rw [g8]; exact hid) ?_
    rw [g8]
    refine ⟨by omega, ?_⟩
    rintro _ rfl
    refine ⟨by omega, ?_⟩
    rintro _ rfl
    have u2 : fr_ (fun o c => o = 408 ∧ ((c : Int) = b + 8 ∨ ((b + 288 + 68 * f) ≤ (c : Int) ∧ (c : Int) < b + 288 + 68 * f + 2))) M1 (nn_ui (nn_ui (nn_ui M1 408 (b + 8) (nn_ri M 408 (b + 8) + 1)) 408 (b + 288 + 68 * f) (nn_ri M 408 (b + 8) + 1)) 408 (b + 288 + 68 * f + 1) level) := fr_ui (fr_ui (fr_ui (fr_refl M1) ⟨rfl, by omega⟩) ⟨rfl, by omega⟩) ⟨rfl, by omega⟩
    have r0 : nn_ri (nn_ui (nn_ui (nn_ui M1 408 (b + 8) (nn_ri M 408 (b + 8) + 1)) 408 (b + 288 + 68 * f) (nn_ri M 408 (b + 8) + 1)) 408 (b + 288 + 68 * f + 1) level) 408 (b + 288 + 68 * f) = nn_ri M 408 (b + 8) + 1 := by rw [rd_ii, if_neg (by omega), rd_ii, if_pos ⟨rfl, rfl⟩]
    have r1 : nn_ri (nn_ui (nn_ui (nn_ui M1 408 (b + 8) (nn_ri M 408 (b + 8) + 1)) 408 (b + 288 + 68 * f) (nn_ri M 408 (b + 8) + 1)) 408 (b + 288 + 68 * f + 1) level) 408 (b + 288 + 68 * f + 1) = level := by rw [rd_ii, if_pos ⟨rfl, rfl⟩]
    have r8 : nn_ri (nn_ui (nn_ui (nn_ui M1 408 (b + 8) (nn_ri M 408 (b + 8) + 1)) 408 (b + 288 + 68 * f) (nn_ri M 408 (b + 8) + 1)) 408 (b + 288 + 68 * f + 1) level) 408 (b + 8) = nn_ri M 408 (b + 8) + 1 := by rw [rd_ii, if_neg (by omega), rd_ii, if_neg (by omega), rd_ii, if_pos ⟨rfl, rfl⟩]
    generalize nn_ui (nn_ui (nn_ui M1 408 (b + 8) (nn_ri M 408 (b + 8) + 1)) 408 (b + 288 + 68 * f) (nn_ri M 408 (b + 8) + 1)) 408 (b + 288 + 68 * f + 1) level = M2 at u2 r0 r1 r8 ⊢
    have rd : ∀ c, 0 ≤ c → c ≠ b + 8 → (c < b + 288 + 68 * f ∨ b + 288 + 68 * f + 2 ≤ c) → nn_ri M2 408 c = nn_ri M1 408 c := fun c c0 h1 h2 => fr_ri u2 (fun w => by have := w.2; omega)
    have eV : mv_ M2 (b + 288 + 68 * f + 4) = mgv_ q f (many - 1).toNat := by
      rw [mv_cg (fun j j0 j1 => rd _ (by omega) (by omega) (by omega))]
      exact o5
    refine ct_M_mgone (by omega) (by omega) (fun k k0 k1 => by rw [rd _ (by omega) (by omega) (by omega)]; exact o6 k k0 k1) (fun M3 c f3 c3 p3 hc => ?_)
    have eV3 : mv_ M3 (b + 288 + 68 * f + 4) = mg1_ q f many n sure := by
      funext k
      rw [c3 k, eV]
      unfold mg1_
      by_cases z : f + many = n
      · rw [if_pos z, if_neg (fun w => (hold.mp w) z)]
      · rw [if_neg z, if_pos (hold.mpr z)]
    have f13 : fr_ (fun o c => o = 408 ∧ ((c : Int) = b + 8 ∨ ((b + 288 + 68 * f) ≤ (c : Int) ∧ (c : Int) < b + 288 + 68 * f + 68))) M1 M3 := fr_trans (fr_mono u2 (fun o c w => ⟨w.1, by have := w.2; omega⟩)) (fr_mono f3 (fun o c w => ⟨w.1, by have := w.2; omega⟩))
    have rd3 : ∀ c, 0 ≤ c → c ≠ b + 8 → (c < b + 288 + 68 * f ∨ b + 288 + 68 * f + 68 ≤ c) → nn_ri M3 408 c = nn_ri M1 408 c := fun c c0 h1 h2 => fr_ri f13 (fun w => by have := w.2; omega)
    refine fin M3 c (mgr_ q f many n sure level cid (nn_ri M 408 (b + 8) + 1)) ?_ ?_ ?_ ?_ ?_ rfl
    · refine fr_trans (fr_mono f1 (fun o c w => ⟨w.1, by have := w.2; omega⟩)) (fr_mono f13 (fun o c w => ⟨w.1, by have := w.2; omega⟩))
    · rw [a8_ri f3 (by omega) (by omega)]; exact r8
    · rw [rd3 _ (by omega) (by omega) (by omega)]; exact g23
    · obtain ⟨s1, s2, s3, s4⟩ := t1
      refine ⟨?_, fun k k0 k1 => ?_, ⟨(rd3 _ (by omega) (by omega) (by omega)).trans s3.1, s3.2⟩, fun r r0' r1' => ?_⟩
      · rw [← s1]; exact mv_cg (fun j j0 j1 => rd3 _ (by omega) (by omega) (by omega))
      · rw [rd3 _ (by omega) (by omega) (by omega)]; exact s2 k k0 k1
      · by_cases z : r = f
        · have e : st_ f (mgr_ q f many n sure level cid (nn_ri M 408 (b + 8) + 1)) q r = mgr_ q f many n sure level cid (nn_ri M 408 (b + 8) + 1) := if_pos z
          rw [e, z]
          refine ⟨?_, ?_, ?_, ?_, eV3, p3⟩
          · rw [a8_ri f3 (by omega) (by omega)]; exact r0
          · rw [a8_ri f3 (by omega) (by omega)]; exact r1
          · rw [a8_ri f3 (by omega) (by omega), rd _ (by omega) (by omega) (by omega)]; exact o3
          · rw [a8_ri f3 (by omega) (by omega), rd _ (by omega) (by omega) (by omega)]; exact o4
        · have e : st_ f (mgr_ q f many n sure level cid (nn_ri M 408 (b + 8) + 1)) q r = st_ f (mgo_ q f (many - 1).toNat) q r := by
            unfold st_
            rw [if_neg z, if_neg z]
          rw [e]
          exact rM_cg (fun j j0 j1 => rd3 _ (by omega) (by omega) (by omega)) (s4 r r0' r1')
    · rw [hc, eV3, ← em_iff]
      unfold mgk_
      by_cases z : em_ (mg1_ q f many n sure) = true
      · rw [if_pos z]; exact ⟨fun _ => rfl, fun _ => z⟩
      · rw [if_neg z]; exact ⟨fun w => absurd w z, fun w => absurd w (by decide)⟩
  refine ng_M_mergesTable _ _ _ _ _ _ ?_
  rw [mm_w_id (x := b + 5) (by omega), mm_w_id (x := f + many) (by omega), n5, nf_runAt hb ⟨hf, by omega⟩, mm_w_id (x := f + 1) (by omega)]
  refine ⟨by omega, fun z => hsure _ (go 0 ⟨fun _ => z, fun _ => rfl⟩), fun z => hsure _ (go 1 ⟨fun w => absurd w (by decide), fun w => absurd z w⟩)⟩
