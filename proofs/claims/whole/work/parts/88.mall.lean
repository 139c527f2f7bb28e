/-! the Model: all merges of the table, by levels and by the cap -/
/-- a merge of runs makes them fewer -/
theorem mgn_lt {q : Int → ab_R} {f many n sure : Int} (hm : 2 ≤ many) : mgn_ q f many n sure ≤ n - 1 := by
  have := mgk_in q f many n sure
  unfold mgn_
  omega
/-- the state of the Model's table at block b; c0: how many merges there were before -/
def sM_ (M : mm_M) (b : Int) (mem : ab_V) (c0 : Int) (s : ab_S) : Prop := tM_ M b mem s.2.2.2.2.1 s.2.2.2.2.2 ∧ nn_ri M 408 (b + 8) = s.2.2.1 ∧ nn_ri M 408 (b + 23) = c0 + s.1
theorem sM_tm1 {b f many level sure c0 : Int} {M : mm_M} {R : mm_M → Prop} {mem : ab_V} {s : ab_S} (hb : bk_ b) (hf : 0 ≤ f) (hm : 1 ≤ many) (hn : f + many ≤ s.2.2.2.2.1) (k : sM_ M b mem c0 s) (hid : 0 ≤ s.2.2.1 ∧ s.2.2.1 < 2000000000) (hc : 0 ≤ c0 + s.1 ∧ c0 + s.1 < 2000000000) (hsure : ∀ R' : Int → mm_M → Prop, R' sure M → nr_M_sure b M R')
    (h : ∀ M', fr_ (mt_ b) M M' → sM_ M' b mem c0 (tm1_ f many level sure s) → R M') : nr_M_merges b (-1) f many level M R := by
  obtain ⟨k1, k2, k3⟩ := k
  refine ng_M_merges _ _ _ _ _ _ _ ⟨fun c => by omega, fun _ => ?_⟩
  refine ct_M_mergesTable (s.2.1 + 1) hb hf hm hn k1 (by rw [k2]; omega) (by rw [k3]; omega) hsure (fun M' f' e8 e23 t' => ?_)
  rw [k2] at e8 t'
  rw [k3] at e23
  exact h M' f' ⟨t', e8, by rw [e23]; show c0 + s.1 + 1 = c0 + (s.1 + 1); omega⟩
theorem ct_M_mergesAllT {b fan sure bd c0 : Int} {M : mm_M} {R : mm_M → Prop} {mem : ab_V} {s : ab_S} (hb : bk_ b) (hfan : 2 ≤ fan ∧ fan ≤ 4) (hf : nn_ri M 408 (b + 4) = fan) (k : sM_ M b mem c0 s) (hl : lb_ s bd ∧ 0 ≤ bd ∧ bd < 1000000000) (hid : 0 ≤ s.2.2.1 ∧ s.2.2.1 < 1000000000) (hc : 0 ≤ c0 + s.1 ∧ c0 + s.1 < 1000000000) (hsure : ∀ M1, fr_ (mt_ b) M M1 → ∀ R' : Int → mm_M → Prop, R' sure M1 → nr_M_sure b M1 R')
    (h : ∀ M', fr_ (mt_ b) M M' → sM_ M' b mem c0 (tmf_ fan sure s) → R M') : nr_M_mergesAll b (-1) M R := by
  have hb' := hb
  unfold bk_ at hb'
  have fan_fr : ∀ M1, fr_ (mt_ b) M M1 → nn_ri M1 408 (b + 4) = fan := by
    intro M1 f1
    rw [← hf]
    refine fr_ri f1 ?_
    unfold mt_
    omega
  have fin : ∀ M1 (s1 : ab_S) (b1 : Int), fr_ (mt_ b) M M1 → sM_ M1 b mem c0 s1 → lb_ s1 b1 → 0 ≤ b1 → b1 < 1000000100 → 0 ≤ s1.2.2.1 → s1.2.2.1 < 1000000100 → 0 ≤ c0 + s1.1 → c0 + s1.1 < 1000000100 → tmz_ sure s1 = tmf_ fan sure s →
      ((nn_ri M1 408 (b + 5) ≤ 20 → R M1) ∧ (20 < nn_ri M1 408 (b + 5) → nr_M_topLevel b (-1) 0 (nn_ri M1 408 (b + 5)) M1 (fun r108 M108 => nr_M_merges b (-1) 0 (nn_ri M1 408 (b + 5)) (mm_w (r108 + 1)) M108 (fun M113 => R M113)))) := by
    intro M1 s1 b1 f1 k1 l1 hb0 hb1 hd0 hd1 hc0 hc1 he
    obtain ⟨x0, x1, x2⟩ := k1.1.2.2.1
    rw [x0]
    refine ⟨fun c => ?_, fun c => ?_⟩
    · have e : tmz_ sure s1 = s1 := if_neg (by omega)
      rw [e] at he
      exact h M1 f1 (he ▸ k1)
    · refine ct_M_topLevel (lvM_t hb k1.1) (by omega) (by omega) (by omega) (by omega) ?_
      have hl := hi_le (lv := lvl_ s1.2.2.2.2.2) (f := 0) (b := b1) (by omega) (m := s1.2.2.2.2.1.toNat) (fun i i0 i1 => (l1 i i0 (by omega)).2)
      rw [mm_w_id (x := hi_ (lvl_ s1.2.2.2.2.2) 0 s1.2.2.2.2.1.toNat + 1) (by omega)]
      refine sM_tm1 hb (by omega) (by omega) (by omega) k1 (by omega) (by omega) (hsure M1 f1) (fun M2 f2 k2 => ?_)
      have e : tmz_ sure s1 = tm1_ 0 s1.2.2.2.2.1 (hi_ (lvl_ s1.2.2.2.2.2) 0 s1.2.2.2.2.1.toNat + 1) sure s1 := if_pos c
      rw [e] at he
      exact h M2 (fr_trans f1 f2) (he ▸ k2)
  have L : ∀ fuel : Nat, fuel ≤ 22 → ∀ M1 (s1 : ab_S) (b1 : Int), fr_ (mt_ b) M M1 → sM_ M1 b mem c0 s1 → lb_ s1 b1 → 0 ≤ b1 → b1 + fuel < 1000000030 → 0 ≤ s1.2.2.1 → s1.2.2.1 + fuel < 1000000030 → 0 ≤ c0 + s1.1 → c0 + s1.1 + fuel < 1000000030 → s1.2.2.2.2.1 ≤ fuel → tmz_ sure (tml_ fan sure fuel s1) = tmf_ fan sure s → ∀ a, ak_ (lvl_ s1.2.2.2.2.2) s1.2.2.2.2.1 fan a → nk_M_mergesAll_22 b (-1) (-1) a M1 R := by
    intro fuel
    induction fuel with
    | zero =>
      intro _ M1 s1 b1 f1 k1 l1 hb0 hb1 hd0 hd1 hc0 hc1 hn he a ha
      have ha2 : a = -1 := by
        rcases ha with ⟨z, _⟩ | ⟨z1, z2, _⟩
        · exact z
        · omega
      refine ng_M_mergesAll_22 _ _ _ _ _ _ ⟨fun _ => ⟨fun c => by omega, fun _ => ?_⟩, fun c => by omega⟩
      rw [mm_w_id (x := b + 5) (by omega)]
      exact ⟨by omega, fin M1 s1 b1 f1 k1 l1 hb0 (by omega) hd0 (by omega) hc0 (by omega) he⟩
    | succ fuel ih =>
      intro hfu M1 s1 b1 f1 k1 l1 hb0 hb1 hd0 hd1 hc0 hc1 hn he a ha
      have ha2 : a = akc_ (lvl_ s1.2.2.2.2.2) s1.2.2.2.2.1 fan := ak_one ha (akc_ak (by omega))
      refine ng_M_mergesAll_22 _ _ _ _ _ _ ⟨fun c => ⟨fun c2 => by omega, fun _ => ?_⟩, fun c => ?_⟩
      · have haz : a = -1 := by
          rcases ha with ⟨z, _⟩ | ⟨z1, z2, _⟩
          · exact z
          · omega
        have e : tml_ fan sure (fuel + 1) s1 = s1 := by
          unfold tml_
          exact if_pos (by rw [← ha2]; exact haz)
        rw [e] at he
        rw [mm_w_id (x := b + 5) (by omega)]
        exact ⟨by omega, fin M1 s1 b1 f1 k1 l1 hb0 (by omega) hd0 (by omega) hc0 (by omega) he⟩
      · have hr : 0 ≤ a ∧ a + fan ≤ s1.2.2.2.2.1 := by
          rcases ha with ⟨z, _⟩ | ⟨z1, z2, _⟩
          · omega
          · exact ⟨z1, z2⟩
        obtain ⟨n1, e1⟩ := lvM_t hb k1.1 a hr.1 (by omega)
        have hl1 := l1 a hr.1 (by omega)
        rw [mm_w_id (x := b + 4) (by omega), e1, fan_fr M1 f1, mm_w_id (x := lvl_ s1.2.2.2.2.2 a + 1) (by omega)]
        refine ⟨by omega, n1, ?_⟩
        refine sM_tm1 hb hr.1 (by omega) hr.2 k1 (by omega) (by omega) (hsure M1 f1) (fun M2 f2 k2 => ?_)
        have e : tml_ fan sure (fuel + 1) s1 = tml_ fan sure fuel (tm1_ a fan (lvl_ s1.2.2.2.2.2 a + 1) sure s1) := by
          show (if akc_ (lvl_ s1.2.2.2.2.2) s1.2.2.2.2.1 fan = -1 then s1 else tml_ fan sure fuel (tm1_ (akc_ (lvl_ s1.2.2.2.2.2) s1.2.2.2.2.1 fan) fan (lvl_ s1.2.2.2.2.2 (akc_ (lvl_ s1.2.2.2.2.2) s1.2.2.2.2.1 fan) + 1) sure s1)) = _
          rw [← ha2, if_neg (by omega)]
        rw [e] at he
        have hn2 : (tm1_ a fan (lvl_ s1.2.2.2.2.2 a + 1) sure s1).2.2.2.2.1 ≤ s1.2.2.2.2.1 - 1 := mgn_lt hfan.1
        obtain ⟨y0, y1, y2⟩ := k2.1.2.2.1
        refine ct_M_alike hb (Or.inl rfl) (by rw [if_neg (by omega)]; exact y0) ⟨y1, by omega⟩ (fan_fr M2 (fr_trans f1 f2)) hfan (lvM_t hb k2.1) (fun r hr2 => ?_)
        exact ih (by omega) M2 (tm1_ a fan (lvl_ s1.2.2.2.2.2 a + 1) sure s1) (b1 + 1) (fr_trans f1 f2) k2 (lb_tm1 hr.1 (by omega) hr.2 l1 (by omega)) (by omega) (by omega) (show 0 ≤ s1.2.2.1 + 1 by omega) (show s1.2.2.1 + 1 + (fuel : Int) < 1000000030 by omega) (show 0 ≤ c0 + (s1.1 + 1) by omega) (show c0 + (s1.1 + 1) + (fuel : Int) < 1000000030 by omega) (by omega) he r hr2
  refine ng_M_mergesAll _ _ _ _ ⟨fun c => by omega, fun _ => ?_⟩
  obtain ⟨x0, x1, x2⟩ := k.1.2.2.1
  refine ct_M_alike hb (Or.inl rfl) (by rw [if_neg (by omega)]; exact x0) ⟨x1, by omega⟩ hf hfan (lvM_t hb k.1) (fun r hr => ?_)
  exact L s.2.2.2.2.1.toNat (by omega) M s bd (fr_refl M) k hl.1 hl.2.1 (by omega) hid.1 (by omega) hc.1 (by omega) (by omega) rfl r hr
