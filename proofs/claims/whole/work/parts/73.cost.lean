/-! the class's Cost: what an asking costs -/
abbrev ab_K : Type := Int × Int × Int × Int × (Nat → Bool)
def jd_ (mem lat : ab_V) (n : Int) (q : Int → ab_R) (low high x rep : Int) (s : ab_K) : ab_K := if ev_ x < low ∨ high < ev_ x then s else if s.2.2.2.2 (ek_ x).toNat = true then (s.1 + 1, s.2.1, s.2.2.1 + 1, s.2.2.2.1, s.2.2.2.2) else (s.1 + 1, s.2.1 + (if fs_ lat x = true then 0 else 1), s.2.2.1, s.2.2.2.1 + (lo_ (mem (ek_ x).toNat).isSome q (ek_ x) rep n.toNat).1, if fs_ lat x = true then fun k => s.2.2.2.2 k || decide (k = (ek_ x).toNat) else s.2.2.2.2)
def jf_ (mem lat : ab_V) (n : Int) (q : Int → ab_R) (low high rep : Int) (E : Int → Int) (s0 : Int) : Nat → ab_K → ab_K
  | 0, s => s
  | m + 1, s => jd_ mem lat n q low high (E (s0 + m)) rep (jf_ mem lat n q low high rep E s0 m s)
/-- bounds of the numbers -/
def kb_ (s : ab_K) (b : Int) : Prop := (0 ≤ s.1 ∧ s.1 ≤ b) ∧ (0 ≤ s.2.1 ∧ s.2.1 ≤ b) ∧ (0 ≤ s.2.2.1 ∧ s.2.2.1 ≤ b) ∧ (0 ≤ s.2.2.2.1 ∧ s.2.2.2.1 ≤ 25 * b)
theorem kb_jd {mem lat : ab_V} {n : Int} {q : Int → ab_R} {low high x rep b : Int} {s : ab_K} (hn : 0 ≤ n ∧ n ≤ 24) (h : kb_ s b) : kb_ (jd_ mem lat n q low high x rep s) (b + 1) := by
  obtain ⟨a, c, d, e⟩ := h
  have hl := lo_in (mem (ek_ x).toNat).isSome q (ek_ x) rep n.toNat
  unfold jd_
  split
  · exact ⟨by omega, by omega, by omega, by omega⟩
  · split
    · exact ⟨by show 0 ≤ s.1 + 1 ∧ s.1 + 1 ≤ b + 1; omega, by show 0 ≤ s.2.1 ∧ s.2.1 ≤ b + 1; omega, by show 0 ≤ s.2.2.1 + 1 ∧ s.2.2.1 + 1 ≤ b + 1; omega, by show 0 ≤ s.2.2.2.1 ∧ s.2.2.2.1 ≤ 25 * (b + 1); omega⟩
    · refine ⟨by show 0 ≤ s.1 + 1 ∧ s.1 + 1 ≤ b + 1; omega, ?_, by show 0 ≤ s.2.2.1 ∧ s.2.2.1 ≤ b + 1; omega, by show 0 ≤ s.2.2.2.1 + _ ∧ s.2.2.2.1 + _ ≤ 25 * (b + 1); omega⟩
      show 0 ≤ s.2.1 + (if fs_ lat x = true then 0 else 1) ∧ s.2.1 + (if fs_ lat x = true then 0 else 1) ≤ b + 1
      split <;> omega
def ck_ (M : mm_M) (c : Nat) (s : ab_K) : Prop := nn_rf M c 0 = 1 ∧ nn_rf M c 1 = s.1 ∧ nn_rf M c 2 = s.2.1 ∧ nn_rf M c 3 = s.2.2.1 ∧ nn_rf M c 4 = s.2.2.2.1 ∧ ∀ k, k < 32 → bt_ (nn_rf M c 5) k = s.2.2.2.2 k
def cc_ (c o b : Nat) : Prop := o = c ∧ b < 6
theorem ct_C_judge {c t : Nat} {x low high rep n b : Int} {M : mm_M} {R : mm_M → Prop} {mem lat : ab_V} {q : Int → ab_R} {s : ab_K} (hct : c < t ∨ t + 82 ≤ c) (hv : ve_ x) (k : tb_ M t mem lat n q) (hs : ck_ M c s) (hb : kb_ s b ∧ 0 ≤ b ∧ b < 10000) (h : ∀ M', fr_ (cc_ c) M M' → ck_ M' c (jd_ mem lat n q low high x rep s) → R M') : nr_Cost_judge c x low high t rep M R := by
  obtain ⟨s0, s1, s2, s3, s4, s5⟩ := hs
  obtain ⟨⟨b1, b2, b3, b4⟩, hb0, hb1⟩ := hb
  have hkey := ek_in x
  have tf : ∀ {M1 : mm_M}, fr_ (cc_ c) M M1 → tb_ M1 t mem lat n q := fun f => tb_fr f (fun o b z _ z2 => by have := z.1; have := z.2; have := z2.1; omega) k
  refine ng_Cost_judge _ _ _ _ _ _ _ _ ?_
  rw [nf_valueOf hv, nf_keyOf hv]
  refine ⟨fun z => ?_, fun z => ?_⟩
  · refine h M (fr_refl M) ?_
    unfold jd_
    rw [if_pos z]
    exact ⟨s0, s1, s2, s3, s4, s5⟩
  have hz : ¬ (ev_ x < low ∨ high < ev_ x) := by omega
  rw [s1, mm_w_id (x := s.1 + 1) (by omega)]
  rintro _ rfl
  have e5 : nn_rf (nn_uf M c 1 (s.1 + 1)) c 5 = nn_rf M c 5 := by simp [rd_ff]
  have e4 : nn_rf (nn_uf M c 1 (s.1 + 1)) c 4 = s.2.2.2.1 := by rw [← s4]; simp [rd_ff]
  have e3 : nn_rf (nn_uf M c 1 (s.1 + 1)) c 3 = s.2.2.1 := by rw [← s3]; simp [rd_ff]
  have f1 : fr_ (cc_ c) M (nn_uf M c 1 (s.1 + 1)) := fr_uf (fr_refl M) ⟨rfl, by omega⟩
  rw [e5, e4, e3, bt_has _ _ hkey]
  have hfd : (bt_ (nn_rf M c 5) (ek_ x).toNat = true) ↔ s.2.2.2.2 (ek_ x).toNat = true := by rw [s5 _ (by omega)]
  refine ⟨fun w => ?_, fun w => ?_⟩
  · have wf : ¬ s.2.2.2.2 (ek_ x).toNat = true := fun y => by
      rw [if_pos (hfd.mpr y)] at w
      exact absurd w (by decide)
    refine ct_T_looks hkey (tf f1) ?_
    have hl := lo_in (mem (ek_ x).toNat).isSome q (ek_ x) rep n.toNat
    have hn := k.2.2.1
    rw [mm_w_id (x := s.2.2.2.1 + _) (by omega)]
    rintro _ rfl
    have f2 : fr_ (cc_ c) M (nn_uf (nn_uf M c 1 (s.1 + 1)) c 4 (s.2.2.2.1 + (lo_ (mem (ek_ x).toNat).isSome q (ek_ x) rep n.toNat).1)) := fr_uf f1 ⟨rfl, by omega⟩
    have el := (tf f2).2.1.1
    have ejd : jd_ mem lat n q low high x rep s = (s.1 + 1, s.2.1 + (if fs_ lat x = true then 0 else 1), s.2.2.1, s.2.2.2.1 + (lo_ (mem (ek_ x).toNat).isSome q (ek_ x) rep n.toNat).1, if fs_ lat x = true then fun k => s.2.2.2.2 k || decide (k = (ek_ x).toNat) else s.2.2.2.2) := by
      unfold jd_
      rw [if_neg hz, if_neg wf]
    have g5 : nn_rf (nn_uf (nn_uf M c 1 (s.1 + 1)) c 4 (s.2.2.2.1 + (lo_ (mem (ek_ x).toNat).isSome q (ek_ x) rep n.toNat).1)) c 5 = nn_rf M c 5 := by simp [rd_ff]
    have g2 : nn_rf (nn_uf (nn_uf M c 1 (s.1 + 1)) c 4 (s.2.2.2.1 + (lo_ (mem (ek_ x).toNat).isSome q (ek_ x) rep n.toNat).1)) c 2 = s.2.1 := by rw [← s2]; simp [rd_ff]
    rw [nf_stale hv, el, g5, g2, mm_w_id (x := s.2.1 + 1) (by omega)]
    refine ⟨nc_stale hv, fun y => ?_, fun y => ?_⟩
    · have yf : fs_ lat x = true := by
        by_cases a : fs_ lat x = true
        · exact a
        · rw [if_neg a] at y; exact absurd y (by decide)
      rintro _ rfl
      refine h _ (fr_uf f2 ⟨rfl, by omega⟩) ?_
      rw [ejd, if_pos yf, if_pos yf]
      refine ⟨by rw [← s0]; simp [rd_ff], by simp [rd_ff], by rw [← s2]; simp [rd_ff], by rw [← s3]; simp [rd_ff], by simp [rd_ff], fun kk hkk => ?_⟩
      rw [rd_ff, if_pos ⟨rfl, rfl⟩, bt_keep _ _ hkey kk hkk, s5 kk hkk]
    · have yf : ¬ fs_ lat x = true := fun a => by rw [if_pos a] at y; exact y rfl
      rintro _ rfl
      refine h _ (fr_uf f2 ⟨rfl, by omega⟩) ?_
      rw [ejd, if_neg yf, if_neg yf]
      refine ⟨by rw [← s0]; simp [rd_ff], by simp [rd_ff], by simp [rd_ff], by rw [← s3]; simp [rd_ff], by simp [rd_ff], fun kk hkk => ?_⟩
      rw [← s5 kk hkk]
      simp [rd_ff]
  · have wt : s.2.2.2.2 (ek_ x).toNat = true := by
      by_cases y : s.2.2.2.2 (ek_ x).toNat = true
      · exact y
      · rw [if_neg (fun a => y (hfd.mp a))] at w
        exact absurd rfl w
    rw [mm_w_id (x := s.2.2.1 + 1) (by omega)]
    rintro _ rfl
    refine h _ (fr_uf f1 ⟨rfl, by omega⟩) ?_
    unfold jd_
    rw [if_neg hz, if_pos wt]
    refine ⟨by rw [← s0]; simp [rd_ff], by simp [rd_ff], by rw [← s2]; simp [rd_ff], by simp [rd_ff], by rw [← s4]; simp [rd_ff], fun kk hkk => ?_⟩
    rw [← s5 kk hkk]
    simp [rd_ff]
theorem kb_jf {mem lat : ab_V} {n : Int} {q : Int → ab_R} {low high rep b : Int} {E : Int → Int} {s0 : Int} {s : ab_K} (hn : 0 ≤ n ∧ n ≤ 24) (h : kb_ s b) : ∀ m : Nat, kb_ (jf_ mem lat n q low high rep E s0 m s) (b + m)
  | 0 => by rw [show b + ((0 : Nat) : Int) = b by omega]; exact h
  | m + 1 => by
    rw [show b + ((m + 1 : Nat) : Int) = b + m + 1 by omega]
    exact kb_jd hn (kb_jf hn h m)
/-- all runs, from the first on -/
def jr_ (mem lat : ab_V) (n : Int) (q : Int → ab_R) (low high : Int) (E T rep : Int → Int) : Nat → ab_K → ab_K
  | 0, s => s
  | r + 1, s => jf_ mem lat n q low high (rep r) E (T r) (T ((r : Int) + 1) - T r).toNat (jr_ mem lat n q low high E T rep r s)
theorem ct_C_goAlong {c x t : Nat} {low high n nr : Int} {M : mm_M} {R : mm_M → Prop} {mem lat : ab_V} {q : Int → ab_R} {S : Int → Prop} {g : Int → ab_P} (hx : xk_ x) (hct : t + 82 ≤ c) (hcx : c < x) (k : tb_ M t mem lat n q) (hs : es_ M (x + 4) S) (hve : ∀ y, S y → ve_ y) (kp : pl_ M (x + 8) nr g) (hv : vl_ nr g)
    (h : ∀ M', fr_ (cc_ c) M M' → ck_ M' c (jr_ mem lat n q low high (nn_ri M (x + 9)) (nn_ri M (x + 10)) (fun r => (g r).2.2.2.1) nr.toNat (jf_ mem lat n q low high (nn_rf M t 6) (nn_ri M (x + 5)) 0 (nn_rf M (x + 4) 1).toNat (0, 0, 0, 0, fun _ => false))) → R M') : nr_Cost_goAlong c x low high t M R := by
  obtain ⟨z0, z1, z2⟩ := id hs
  rw [show x + 4 + 1 = x + 5 by omega] at z1 z2
  rw [kd12 hx] at z1
  obtain ⟨p0, p24⟩ := kp.1.2
  obtain ⟨n0, n24⟩ := k.2.2.1.2
  have tf : ∀ {M1 : mm_M}, fr_ (cc_ c) M M1 → tb_ M1 t mem lat n q ∧ pl_ M1 (x + 8) nr g ∧ nn_rf M1 (x + 4) 1 = nn_rf M (x + 4) 1 ∧ nn_rf M1 t 6 = nn_rf M t 6 ∧ (∀ i, nn_ri M1 (x + 5) i = nn_ri M (x + 5) i) ∧ (∀ i, nn_ri M1 (x + 9) i = nn_ri M (x + 9) i) ∧ (∀ i, nn_ri M1 (x + 10) i = nn_ri M (x + 10) i) := fun f => ⟨tb_fr f (fun o b z _ z2 => by have := z.1; have := z.2; have := z2.1; omega) k, pl_fr f (fun o b h1 h2 z2 => by have := z2.1; omega) kp, fr_rf f (fun z2 => by have := z2.1; omega), fr_rf f (fun z2 => by have := z2.1; omega), fun i => fr_ri f (fun z2 => by have := z2.1; omega), fun i => fr_ri f (fun z2 => by have := z2.1; omega), fun i => fr_ri f (fun z2 => by have := z2.1; omega)⟩
  have kb0 : kb_ (0, 0, 0, 0, fun _ => false) 0 := ⟨⟨Int.le_refl _, Int.le_refl _⟩, ⟨Int.le_refl _, Int.le_refl _⟩, ⟨Int.le_refl _, Int.le_refl _⟩, ⟨Int.le_refl _, by decide⟩⟩
  -- the runs
  have L3 : ∀ r : Int, 0 ≤ r → r < nr → ∀ (s : ab_K) (b : Int), kb_ s b → 0 ≤ b → b + nn_ri M (x + 10) (r + 1) - nn_ri M (x + 10) r < 10000 → ∀ cont : (∀ M1, fr_ (cc_ c) M M1 → ck_ M1 c (jf_ mem lat n q low high (g r).2.2.2.1 (nn_ri M (x + 9)) (nn_ri M (x + 10) r) (nn_ri M (x + 10) (r + 1) - nn_ri M (x + 10) r).toNat s) → nk_Cost_goAlong_83 c low high t (x + 8) (r + 1) M1 R), ∀ i : Int, i ≤ nn_ri M (x + 10) (r + 1) → nn_ri M (x + 10) r ≤ i → ∀ M1, fr_ (cc_ c) M M1 → ck_ M1 c (jf_ mem lat n q low high (g r).2.2.2.1 (nn_ri M (x + 9)) (nn_ri M (x + 10) r) (i - nn_ri M (x + 10) r).toNat s) → nk_Cost_goAlong_103 c low high t (x + 8) r i M1 R := by
    intro r r0 r1 s b hb hb0 hb1 cont
    have qr := pm_le kp r0 (show r ≤ r + 1 by omega) (by omega)
    have qn := pm_le kp (show 0 ≤ r + 1 by omega) (show r + 1 ≤ nr by omega) (Int.le_refl nr)
    rw [show x + 8 + 2 = x + 10 by omega] at qr qn
    refine lp_up (fun i hi ih i0 M1 f1 c1 => ?_)
    obtain ⟨t1, k1, _, _, _, t5, t6⟩ := tf f1
    refine ng_Cost_goAlong_103 _ _ _ _ _ _ _ _ _ ?_
    rw [mm_w_id (x := r + 1) (by omega), show x + 8 + 2 = x + 10 by omega, show x + 8 + 1 = x + 9 by omega, show x + 8 + 4 = x + 12 by omega, t6, t5, mm_w_id (x := i + 1) (by omega)]
    refine ⟨by omega, fun z => ?_, fun z => ⟨by omega, by omega, ?_⟩⟩
    · have : i = nn_ri M (x + 10) (r + 1) := by omega
      subst this
      exact cont M1 f1 c1
    have vi : ve_ (nn_ri M (x + 9) i) := pl_ve kp hv (by omega) (show i < nn_ri M (x + 8 + 2) nr by rw [show x + 8 + 2 = x + 10 by omega]; omega)
    have er : nn_ri M1 (x + 12) r = (g r).2.2.2.1 := (k1.2.2.1 r r0 r1).2.2.1
    rw [er]
    refine ct_C_judge (b := b + ((i - nn_ri M (x + 10) r).toNat : Int)) (Or.inr hct) vi t1 c1 ⟨kb_jf ⟨n0, n24⟩ hb _, by omega, by omega⟩ (fun M2 f2 c2 => ?_)
    refine ih z (by omega) M2 (fr_trans f1 f2) ?_
    rw [show (i + 1 - nn_ri M (x + 10) r).toNat = (i - nn_ri M (x + 10) r).toNat + 1 by omega]
    show ck_ M2 c (jd_ mem lat n q low high (nn_ri M (x + 9) (nn_ri M (x + 10) r + ((i - nn_ri M (x + 10) r).toNat : Int))) (g r).2.2.2.1 _)
    rw [show nn_ri M (x + 10) r + ((i - nn_ri M (x + 10) r).toNat : Int) = i by omega]
    exact c2
  have kbr : ∀ r : Nat, (r : Int) ≤ nr → ∀ s b, kb_ s b → kb_ (jr_ mem lat n q low high (nn_ri M (x + 9)) (nn_ri M (x + 10)) (fun r => (g r).2.2.2.1) r s) (b + nn_ri M (x + 10) r) := by
    intro r
    induction r with
    | zero =>
      intro _ s b hb
      have := kp.2.1.1
      rw [show x + 8 + 2 = x + 10 by omega] at this
      rw [show ((0 : Nat) : Int) = 0 from rfl, this, show b + 0 = b by omega]
      exact hb
    | succ r ih =>
      intro hr s b hb
      have q1 := pm_le kp (show 0 ≤ (r : Int) by omega) (show (r : Int) ≤ r + 1 by omega) (by omega)
      rw [show x + 8 + 2 = x + 10 by omega] at q1
      have := kb_jf (mem := mem) (lat := lat) (q := q) (low := low) (high := high) (rep := (g r).2.2.2.1) (E := nn_ri M (x + 9)) (s0 := nn_ri M (x + 10) r) ⟨n0, n24⟩ (ih (by omega) s b hb) (nn_ri M (x + 10) ((r : Int) + 1) - nn_ri M (x + 10) r).toNat
      rw [show b + nn_ri M (x + 10) r + ((nn_ri M (x + 10) ((r : Int) + 1) - nn_ri M (x + 10) r).toNat : Int) = b + nn_ri M (x + 10) ((r + 1 : Nat) : Int) by rw [show ((r + 1 : Nat) : Int) = (r : Int) + 1 by omega]; omega] at this
      exact this
  have L2 : ∀ s b, kb_ s b → 0 ≤ b → b ≤ 12 → (∀ M1, fr_ (cc_ c) M M1 → ck_ M1 c (jr_ mem lat n q low high (nn_ri M (x + 9)) (nn_ri M (x + 10)) (fun r => (g r).2.2.2.1) nr.toNat s) → R M1) → ∀ r : Int, r ≤ nr → 0 ≤ r → ∀ M1, fr_ (cc_ c) M M1 → ck_ M1 c (jr_ mem lat n q low high (nn_ri M (x + 9)) (nn_ri M (x + 10)) (fun r => (g r).2.2.2.1) r.toNat s) → nk_Cost_goAlong_83 c low high t (x + 8) r M1 R := by
    intro s b hb hb0 hb1 fin
    refine lp_up (fun r hr ih r0 M1 f1 c1 => ?_)
    obtain ⟨t1, k1, _, _, _, t5, t6⟩ := tf f1
    refine ng_Cost_goAlong_83 _ _ _ _ _ _ _ _ ?_
    rw [k1.1.1, show x + 8 + 2 = x + 10 by omega, t6]
    refine ⟨fun z => ?_, fun z => ⟨by omega, ?_⟩⟩
    · have : r = nr := by omega
      subst this
      exact fin M1 f1 c1
    have qr := pm_le kp r0 (show r ≤ r + 1 by omega) (by omega)
    have qn := pm_le kp (show 0 ≤ r + 1 by omega) (show r + 1 ≤ nr by omega) (Int.le_refl nr)
    rw [show x + 8 + 2 = x + 10 by omega] at qr qn
    have kb1 := kbr r.toNat (by omega) s b hb
    rw [show ((r.toNat : Nat) : Int) = r by omega] at kb1
    refine L3 r r0 z _ (b + nn_ri M (x + 10) r) kb1 (by omega) (by omega) (fun M2 f2 c2 => ?_) _ qr.2.1 (Int.le_refl _) M1 f1 ?_
    · refine ih z (by omega) M2 f2 ?_
      rw [show (r + 1).toNat = r.toNat + 1 by omega]
      show ck_ M2 c (jf_ mem lat n q low high (g (r.toNat : Int)).2.2.2.1 (nn_ri M (x + 9)) (nn_ri M (x + 10) (r.toNat : Int)) (nn_ri M (x + 10) ((r.toNat : Int) + 1) - nn_ri M (x + 10) (r.toNat : Int)).toNat _)
      rw [show ((r.toNat : Nat) : Int) = r by omega]
      exact c2
    · rw [show (nn_ri M (x + 10) r - nn_ri M (x + 10) r).toNat = 0 by omega]
      exact c1
  have L1 : ∀ i : Int, i ≤ nn_rf M (x + 4) 1 → 0 ≤ i → ∀ M1, fr_ (cc_ c) M M1 → ck_ M1 c (jf_ mem lat n q low high (nn_rf M t 6) (nn_ri M (x + 5)) 0 i.toNat (0, 0, 0, 0, fun _ => false)) → nk_Cost_goAlong_33 c x low high t i M1 R := by
    refine lp_up (fun i hi ih i0 M1 f1 c1 => ?_)
    obtain ⟨t1, k1, t2, t3, t4, _, _⟩ := tf f1
    refine ng_Cost_goAlong_33 _ _ _ _ _ _ _ _ ?_
    rw [t2, t3, t4, show (mm_kd (x + 5)).2 = 12 from by rw [hx.1], mm_w_id (x := i + 1) (by omega)]
    have kbi := kb_jf (mem := mem) (lat := lat) (q := q) (low := low) (high := high) (rep := nn_rf M t 6) (E := nn_ri M (x + 5)) (s0 := 0) ⟨n0, n24⟩ kb0 i.toNat
    refine ⟨fun z => ?_, fun z => ⟨by omega, ?_⟩⟩
    · have : i = nn_rf M (x + 4) 1 := by omega
      subst this
      exact L2 _ _ kbi (by omega) (by omega) h 0 p0 (Int.le_refl _) M1 f1 c1
    refine ct_C_judge (b := 0 + (i.toNat : Int)) (Or.inr hct) (hve _ (z2.1 i i0 z)) t1 c1 ⟨kbi, by omega, by omega⟩ (fun M2 f2 c2 => ?_)
    refine ih z (by omega) M2 (fr_trans f1 f2) ?_
    rw [show (i + 1).toNat = i.toNat + 1 by omega]
    show ck_ M2 c (jd_ mem lat n q low high (nn_ri M (x + 5) (0 + (i.toNat : Int))) (nn_rf M t 6) _)
    rw [show (0 : Int) + (i.toNat : Int) = i by omega]
    exact c2
  refine ng_Cost_goAlong _ _ _ _ _ _ _ ?_
  rintro _ rfl _ rfl _ rfl _ rfl _ rfl _ rfl
  refine L1 0 z0 (Int.le_refl _) _ (fr_uf (fr_uf (fr_uf (fr_uf (fr_uf (fr_uf (fr_refl M) ⟨rfl, by omega⟩) ⟨rfl, by omega⟩) ⟨rfl, by omega⟩) ⟨rfl, by omega⟩) ⟨rfl, by omega⟩) ⟨rfl, by omega⟩) ?_
  refine ⟨by simp [rd_ff], by simp [rd_ff, jf_], by simp [rd_ff, jf_], by simp [rd_ff, jf_], by simp [rd_ff, jf_], fun kk hkk => ?_⟩
  rw [rd_ff, if_pos ⟨rfl, rfl⟩, bt_zero]
  rfl
