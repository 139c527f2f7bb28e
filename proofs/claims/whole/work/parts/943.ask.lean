/-! ask and what it costs, both sides -/
def bl_ (x : Int) (k : Nat) : Bool := (BitVec.ofInt 64 x).getLsbD k
theorem bb_sh6 : ∀ k : Nat, k < 32 → (((BitVec.ofInt 32 (k : Int)).signExtend 64 &&& 63#64).smod 64#64).toNat = k := by decide
theorem b64_shlk (x : Int) (k : Nat) (hk : k < 32) : mm_lshl x (k : Int) = (BitVec.ofInt 64 x <<< k).toInt := by
  have e : mm_lshl x (k : Int) = (BitVec.ofInt 64 x <<< (((BitVec.ofInt 32 (k : Int)).signExtend 64 &&& 63#64).smod 64#64)).toInt := rfl
  rw [e, BitVec.shiftLeft_eq', bb_sh6 k hk]
theorem b64_shrk (x : Int) (k : Nat) (hk : k < 32) : mm_lshr x (k : Int) = ((BitVec.ofInt 64 x).sshiftRight k).toInt := by
  have e : mm_lshr x (k : Int) = ((BitVec.ofInt 64 x).sshiftRight' (((BitVec.ofInt 32 (k : Int)).signExtend 64 &&& 63#64).smod 64#64)).toInt := rfl
  rw [e, BitVec.sshiftRight', bb_sh6 k hk]
theorem bl_has (x : Int) (k : Int) (h : 0 ≤ k ∧ k < 32) : mm_land (mm_lshr x k) 1 = if bl_ x k.toNat = true then 1 else 0 := by
  obtain ⟨n, rfl⟩ := Int.eq_ofNat_of_zero_le h.1
  have hn : n < 32 := by omega
  show mm_land (mm_lshr x (n : Int)) 1 = if bl_ x n = true then 1 else 0
  have e0 : mm_land (mm_lshr x (n : Int)) 1 = (BitVec.ofInt 64 (mm_lshr x (n : Int)) &&& BitVec.ofInt 64 1).toInt := rfl
  rw [e0, b64_shrk x n hn, BitVec.ofInt_toInt]
  have e1 : (BitVec.ofInt 64 1) = 1#64 := rfl
  rw [e1, BitVec.and_one_eq_setWidth_ofBool_getLsbD, BitVec.getLsbD_sshiftRight]
  unfold bl_
  rw [if_pos (by omega), Nat.add_zero, decide_eq_false (by omega)]
  cases (BitVec.ofInt 64 x).getLsbD n <;> rfl
theorem bl_set (x : Int) (n k : Nat) (hn : n < 32) (hk : k < 32) : bl_ (mm_lor x (mm_lshl 1 (n : Int))) k = (bl_ x k || decide (k = n)) := by
  unfold bl_
  rw [b64_or, BitVec.ofInt_toInt, BitVec.getLsbD_or, b64_shlk 1 n hn, BitVec.ofInt_toInt]
  have : ∀ n : Nat, n < 32 → ∀ k : Nat, k < 32 → ((BitVec.ofInt 64 1) <<< n).getLsbD k = decide (k = n) := by decide +kernel
  rw [this n hn k hk]
theorem bl_zero (k : Nat) : bl_ 0 k = false := by
  unfold bl_
  have e1 : (BitVec.ofInt 64 0) = 0#64 := rfl
  rw [e1, BitVec.getLsbD_zero]
/-- the costs, along the row -/
def rpE_ (T : ab_T) (X : ab_X) (y : Int) : Int := if y / 4503599627370496 = 0 then aTs_ T else (xg_ X (y / 4503599627370496 - 1)).2.2.2.1
noncomputable def jx_ (T : ab_T) (X : ab_X) (low high : Int) : Nat → ab_K
  | 0 => (0, 0, 0, 0, fun _ => false)
  | k + 1 => jd_ (aTm_ T) (aTl_ T) (aTn_ T) (aTq_ T) low high (eX_ X k % 4503599627370496) (rpE_ T X (eX_ X k)) (jx_ T X low high k)
theorem jx_s (T : ab_T) (X : ab_X) (low high : Int) (k : Nat) : jx_ T X low high (k + 1) = jd_ (aTm_ T) (aTl_ T) (aTn_ T) (aTq_ T) low high (eX_ X k % 4503599627370496) (rpE_ T X (eX_ X k)) (jx_ T X low high k) := rfl
theorem kb_jx {T : ab_T} {X : ab_X} {low high : Int} (hn : 0 ≤ aTn_ T ∧ aTn_ T ≤ 24) : ∀ k : Nat, kb_ (jx_ T X low high k) k
  | 0 => ⟨⟨Int.le_refl _, Int.le_refl _⟩, ⟨Int.le_refl _, Int.le_refl _⟩, ⟨Int.le_refl _, Int.le_refl _⟩, Int.le_refl _, Int.le_refl _⟩
  | k + 1 => by
    have := kb_jd (mem := aTm_ T) (lat := aTl_ T) (q := aTq_ T) (low := low) (high := high) (x := eX_ X k % 4503599627370496) (rep := rpE_ T X (eX_ X k)) hn (kb_jx (X := X) (low := low) (high := high) hn k)
    rw [show ((k + 1 : Nat) : Int) = (k : Int) + 1 by omega]
    exact this
theorem jf_s (mem lat : ab_V) (n : Int) (q : Int → ab_R) (low high rep : Int) (E : Int → Int) (s0 : Int) (m : Nat) (s : ab_K) : jf_ mem lat n q low high rep E s0 (m + 1) s = jd_ mem lat n q low high (E (s0 + m)) rep (jf_ mem lat n q low high rep E s0 m s) := rfl
theorem jf_jx {T : ab_T} {X : ab_X} {low high rep s0 : Int} {E : Int → Int} {a : Nat} : ∀ m : Nat, (∀ i : Int, 0 ≤ i → i < m → eX_ X ((a : Int) + i) % 4503599627370496 = E (s0 + i) ∧ rpE_ T X (eX_ X ((a : Int) + i)) = rep) → jf_ (aTm_ T) (aTl_ T) (aTn_ T) (aTq_ T) low high rep E s0 m (jx_ T X low high a) = jx_ T X low high (a + m)
  | 0, _ => rfl
  | m + 1, h => by
    obtain ⟨h1, h2⟩ := h m (by omega) (by omega)
    rw [jf_s, jf_jx m (fun i i0 i1 => h i i0 (by omega)), show a + (m + 1) = a + m + 1 by omega, jx_s, show ((a + m : Nat) : Int) = (a : Int) + (m : Int) by omega, h1, h2]
theorem c_cost {M : mm_M} {x : Nat} {lat : ab_V} {T : ab_T} {X : ab_X} {low high : Int} (k : cX_ M x lat X) (h0 : xh_ X ≠ 0) (vA : ∀ y, xA_ X y → ve_ y) (vP : vl_ (xn_ X) (xg_ X)) : jr_ (aTm_ T) (aTl_ T) (aTn_ T) (aTq_ T) low high (nn_ri M (x + 9)) (nn_ri M (x + 10)) (fun r => (xg_ X r).2.2.2.1) (xn_ X).toNat (jf_ (aTm_ T) (aTl_ T) (aTn_ T) (aTq_ T) low high (aTs_ T) (nn_ri M (x + 5)) 0 (nn_rf M (x + 4) 1).toNat (0, 0, 0, 0, fun _ => false)) = jx_ T X low high (sz_ X).toNat := by
  obtain ⟨⟨c1, c2⟩, ⟨c3, c4⟩, c5, c6⟩ := cX_row k h0 vA vP
  obtain ⟨_, _, es, _, p, _⟩ := k.2.2 h0
  have cn := cz_nn (xA_ X)
  have e0 : jf_ (aTm_ T) (aTl_ T) (aTn_ T) (aTq_ T) low high (aTs_ T) (nn_ri M (x + 5)) 0 (nn_rf M (x + 4) 1).toNat (0, 0, 0, 0, fun _ => false) = jx_ T X low high (cz_ (xA_ X)).toNat := by
    rw [c1]
    have := jf_jx (T := T) (X := X) (low := low) (high := high) (rep := aTs_ T) (s0 := 0) (E := nn_ri M (x + 5)) (a := 0) (cz_ (xA_ X)).toNat (fun i i0 i1 => by
      have hve := vA _ (es.2.2.1 i i0 (by rw [c1]; omega))
      unfold ve_ at hve
      have h5 := c5 i i0 (by omega)
      have h2 : 0 ≤ nn_ri M (x + 5) i ∧ nn_ri M (x + 5) i < 4503599627370496 := ⟨hve.1, hve.2.1⟩
      rw [show ((0 : Nat) : Int) + i = i by omega, show (0 : Int) + i = i by omega, ← h5]
      unfold rpE_
      rw [if_pos (by omega)]
      exact ⟨by omega, rfl⟩)
    rw [Nat.zero_add] at this
    exact this
  rw [e0]
  have L : ∀ r : Nat, (r : Int) ≤ xn_ X → jr_ (aTm_ T) (aTl_ T) (aTn_ T) (aTq_ T) low high (nn_ri M (x + 9)) (nn_ri M (x + 10)) (fun r => (xg_ X r).2.2.2.1) r (jx_ T X low high (cz_ (xA_ X)).toNat) = jx_ T X low high (cz_ (xA_ X) + pz_ (xg_ X) r).toNat := by
    intro r
    induction r with
    | zero =>
      intro _
      show jx_ T X low high (cz_ (xA_ X)).toNat = _
      rw [show pz_ (xg_ X) ((0 : Nat) : Int) = 0 from rfl, show cz_ (xA_ X) + 0 = cz_ (xA_ X) by omega]
    | succ r ih =>
      intro hr
      have ih := ih (by omega)
      show jf_ (aTm_ T) (aTl_ T) (aTn_ T) (aTq_ T) low high (xg_ X r).2.2.2.1 (nn_ri M (x + 9)) (nn_ri M (x + 10) r) (nn_ri M (x + 10) ((r : Int) + 1) - nn_ri M (x + 10) r).toNat (jr_ (aTm_ T) (aTl_ T) (aTn_ T) (aTq_ T) low high (nn_ri M (x + 9)) (nn_ri M (x + 10)) (fun r => (xg_ X r).2.2.2.1) r (jx_ T X low high (cz_ (xA_ X)).toNat)) = _
      rw [ih, c2 r (by omega) (by omega), c2 ((r : Int) + 1) (by omega) (by omega)]
      have pn := pz_nn (xg_ X) r
      have pm := pz_mono (g := xg_ X) (a := r) (b := (r : Int) + 1) (by omega) (by omega)
      rw [jf_jx _ (fun i i0 i1 => ?_)]
      · rw [show (cz_ (xA_ X) + pz_ (xg_ X) r).toNat + (pz_ (xg_ X) ((r : Int) + 1) - pz_ (xg_ X) r).toNat = (cz_ (xA_ X) + pz_ (xg_ X) ((r + 1 : Nat) : Int)).toNat by rw [show ((r + 1 : Nat) : Int) = (r : Int) + 1 by omega]; omega]
      · have h6 := c6 r (by omega) (by omega) (pz_ (xg_ X) r + i) (by omega) (by omega)
        rw [show (((cz_ (xA_ X) + pz_ (xg_ X) r).toNat : Nat) : Int) + i = cz_ (xA_ X) + (pz_ (xg_ X) r + i) by omega, h6]
        have rs := p.2.2.2 (r : Int) (by omega) (by omega) (by omega)
        have e10 : x + 8 + 2 = x + 10 := by omega
        have e9 : x + 8 + 1 = x + 9 := by omega
        rw [e9, e10, c2 r (by omega) (by omega), c2 ((r : Int) + 1) (by omega) (by omega)] at rs
        have hve := vP r (by omega) (by omega) _ ((rs.2 _).mp ⟨pz_ (xg_ X) r + i, by omega, by omega, rfl⟩)
        unfold ve_ at hve
        unfold rpE_
        have d1 : (((r : Int) + 1) * 4503599627370496 + nn_ri M (x + 9) (pz_ (xg_ X) r + i)) / 4503599627370496 = (r : Int) + 1 := by omega
        rw [d1, if_neg (by omega), show (r : Int) + 1 - 1 = (r : Int) by omega]
        exact ⟨by omega, rfl⟩
  have := L (xn_ X).toNat (by have := p.1.2.1; omega)
  rw [show (((xn_ X).toNat : Nat) : Int) = xn_ X by have := p.1.2.1; omega] at this
  exact this
/-- what is told of the cost -/
def cst_ (K : ab_K) (sc : Int → Int) : Int → Int := fun k => if k = 15 then 1 else if k = 16 then K.1 else if k = 17 then K.2.1 else if k = 18 then K.2.2.1 else if k = 19 then K.2.2.2.1 else sc k
theorem cst_o {K : ab_K} {sc : Int → Int} {k : Int} (h : k < 15 ∨ 19 < k) : cst_ K sc k = sc k := by
  unfold cst_
  rw [if_neg (by omega), if_neg (by omega), if_neg (by omega), if_neg (by omega), if_neg (by omega)]
theorem cR_cost {M M' : mm_M} {s : Nat} {sc : Int → Int} {C : Int → ab_D} {f : Int → Int} {K : ab_K} (h : fr_ (cc_ (s + 87)) M M') (hc : ck_ M' (s + 87) K) (k : cR_ M s sc C f) : cR_ M' s (cst_ K sc) C f := by
  obtain ⟨⟨x1, x2, x3, x4, x5, x6⟩, b, _, d, e⟩ := k
  obtain ⟨c0, c1, c2, c3, c4, _⟩ := hc
  have rf : ∀ o b, o ≠ s + 87 → nn_rf M' o b = nn_rf M o b := fun o b z => fr_rf h (fun y => z y.1)
  refine ⟨?_, fun i i0 i1 => ?_, ⟨c0, c1, c2, c3, c4⟩, ?_, fun i i0 i1 => cu2_fr h (fun o b z z2 z3 => by have := z3.1; omega) (e i i0 i1)⟩
  · rw [cst_o (k := 3) (by omega), cst_o (k := 4) (by omega), cst_o (k := 6) (by omega), cst_o (k := 7) (by omega), cst_o (k := 21) (by omega), cst_o (k := 22) (by omega)]
    exact ⟨(rf _ _ (by omega)).trans x1, (rf _ _ (by omega)).trans x2, (rf _ _ (by omega)).trans x3, (rf _ _ (by omega)).trans x4, (rf _ _ (by omega)).trans x5, (rf _ _ (by omega)).trans x6⟩
  · rw [wy_cg (cst_o (k := 9) (by omega)) (cst_o (k := 9 + i) (by omega)), fr_ri h (fun y => by have := y.1; omega)]; exact b i i0 i1
  · rw [cst_o (k := 20) (by omega)]
    exact tp_fr h (fun o b z z2 z3 => by have := z3.1; omega) d
noncomputable def ask_ (i low high : Int) (Z : ab_Z) : ab_Z := (cst_ (jx_ (zT_ Z) (aTX_ (zT_ Z) i) low high (sz_ (aTX_ (zT_ Z) i)).toNat) (zs_ Z), zT_ Z, zC_ Z, zf_ Z)
def aska_ (i low high k : Int) (Z : ab_Z) : Int := an2_ k (ga_ (xv_ (aTl_ (zT_ Z)) (aTX_ (zT_ Z) i)) low high 32)
theorem jZ_ask {bd i low high : Int} {Z : ab_Z} (j : jZ_ bd Z) : jZ_ bd (ask_ i low high Z) := by
  obtain ⟨a, ⟨b1, b2, b3, b4, b5, b6⟩, c⟩ := j
  unfold ask_
  generalize jx_ (zT_ Z) (aTX_ (zT_ Z) i) low high (sz_ (aTX_ (zT_ Z) i)).toNat = K
  refine ⟨a, ?_, c⟩
  show (2 ≤ cst_ K (zs_ Z) 3 ∧ cst_ K (zs_ Z) 3 ≤ 12) ∧ (2 ≤ cst_ K (zs_ Z) 4 ∧ cst_ K (zs_ Z) 4 ≤ 4) ∧ (0 ≤ cst_ K (zs_ Z) 6 ∧ cst_ K (zs_ Z) 6 ≤ bd) ∧ (0 ≤ cst_ K (zs_ Z) 7 ∧ cst_ K (zs_ Z) 7 ≤ bd) ∧ (0 ≤ cst_ K (zs_ Z) 20 ∧ cst_ K (zs_ Z) 20 ≤ 200) ∧ (cst_ K (zs_ Z) 15 = 0 ∨ cst_ K (zs_ Z) 15 = 1)
  rw [cst_o (k := 3) (by omega), cst_o (k := 4) (by omega), cst_o (k := 6) (by omega), cst_o (k := 7) (by omega), cst_o (k := 20) (by omega)]
  exact ⟨b1, b2, b3, b4, b5, Or.inr rfl⟩
theorem ct_LI_ask {bd i low high k : Int} {Z : ab_Z} {M : mm_M} {R : Int → mm_M → Prop} (kz : cZ_ M 2 Z) (j : jZ_ bd Z) (h1 : ib2_ i Z → ∀ M', fr_ now_ M M' → cZ_ M' 2 (ask_ i low high Z) → R (aska_ i low high k Z) M') (h0 : ¬ ib2_ i Z → R (-2) M) : nr_LI_ask i low high k M R := by
  refine ng_LI_ask _ _ _ _ _ _ ?_
  refine ct_S_findBuilt kz (fun z => ?_) (fun z => ?_)
  · exact ⟨fun w => absurd rfl w, fun _ => h0 z⟩
  refine ⟨fun _ => ?_, fun w => by omega⟩
  have h1 := h1 z
  have hi := z.1
  have hz := ib_ix z
  have kx := kz.1.2.2 i hi.1 hi.2
  obtain ⟨vA, vK, vP⟩ := jX_vl (j.1.2.2.2.2 i hi.1 hi.2) hz.2
  obtain ⟨_, _, es, _, p, _⟩ := kx.2.2 hz.2
  have kt : tb_ M 5 (aTm_ (zT_ Z)) (aTl_ (zT_ Z)) (aTn_ (zT_ Z)) (aTq_ (zT_ Z)) := kz.1.1
  have k6 : nn_rf M 5 6 = aTs_ (zT_ Z) := kz.1.2.1.1
  refine ct_C_goAlong (x := 2 + 90 + 15 * i.toNat) (sk_x (s := 2) (Or.inl rfl) hi.1 hi.2) (by omega) (by omega) kt es vA p vP (fun M1 f1 c1 => ?_)
  rw [k6, c_cost kx hz.2 vA vP] at c1
  have k1 : cZ_ M1 2 (ask_ i low high Z) := ⟨cT_fr f1 (fun o b y y2 => by have := y2.1; unfold sw_ at y; omega) kz.1, cR_cost (s := 2) f1 c1 kz.2⟩
  have vx := vv_at kz z
  refine ct_S_gather (s := 2) (vv := xv_ (aTl_ (zT_ Z)) (aTX_ (zT_ Z) i)) (by omega) (fun q q0 q1 => (fr_ri f1 (fun y => by have := y.1; omega)).trans (vx q q0 q1)) (fun M2 f2 g2 => ?_)
  have hb := (ga_spec (xv_ (aTl_ (zT_ Z)) (aTX_ (zT_ Z) i)) low high 32).1
  obtain ⟨a1, a2⟩ := answered (k := k) (M := M2) (by omega) g2
  refine ⟨a1, ?_⟩
  rw [a2]
  exact h1 M2 (fr_trans (fr_mono f1 (fun o b y => by have := y.1; unfold now_; omega)) (fr_mono f2 (fun o b y => by unfold now_; omega))) (cZ_91 f2 k1)
theorem ct_M_costs {bd i low high : Int} {Z : ab_Z} {M : mm_M} {R : mm_M → Prop} (k : mY_ bd M 0 Z) (j : jZ_ bd Z) (hi : ix_ i Z) (h : ∀ M', fr_ (mz_ 0) M M' → mY_ bd M' 0 (ask_ i low high Z) → R M') : nr_M_costs i low high M R := by
  have hx : 1784 ≤ xi_ 0 i ∧ xi_ 0 i + 855 ≤ 5204 := by have := hi.1; unfold xi_; omega
  have jx := j.1.2.2.2.2 i hi.1.1 hi.1.2
  obtain ⟨vA, vK, vP⟩ := jX_vl jx hi.2
  have kx := k.1.1.2.2 i hi.1.1 hi.1.2
  obtain ⟨e, I, hE⟩ := mX_row kx hi.2 vA vP
  obtain ⟨_, _, _, d, _⟩ := kx.2 hi.2
  have t : tM_ M 0 (aTm_ (zT_ Z)) (aTn_ (zT_ Z)) (aTq_ (zT_ Z)) := k.1.1.1
  have hn : 0 ≤ aTn_ (zT_ Z) ∧ aTn_ (zT_ Z) ≤ 24 := by have := j.1.2.1; omega
  have hsz := e.2.2.1
  refine ng_M_costs _ _ _ _ _ ?_
  rw [at0 hi.1]
  intro M0 e0
  -- the loop over entries
  have L : ∀ s : Int, s ≤ sz_ (aTX_ (zT_ Z) i) → 0 ≤ s → ∀ met M1, fr_ (a8_ 15 20) M M1 → nn_ri M1 408 15 = 1 → nn_ri M1 408 16 = (jx_ (zT_ Z) (aTX_ (zT_ Z) i) low high s.toNat).1 → nn_ri M1 408 17 = (jx_ (zT_ Z) (aTX_ (zT_ Z) i) low high s.toNat).2.1 → nn_ri M1 408 18 = (jx_ (zT_ Z) (aTX_ (zT_ Z) i) low high s.toNat).2.2.1 → nn_ri M1 408 19 = (jx_ (zT_ Z) (aTX_ (zT_ Z) i) low high s.toNat).2.2.2.1 → (∀ q, q < 32 → bl_ met q = (jx_ (zT_ Z) (aTX_ (zT_ Z) i) low high s.toNat).2.2.2.2 q) → nk_M_costs_47 low high (xi_ 0 i) met s M1 R := by
    refine lp_up (fun s hs ih s0 met M1 f1 r15 r16 r17 r18 r19 hm => ?_)
    have kb := kb_jx (T := zT_ Z) (X := aTX_ (zT_ Z) i) (low := low) (high := high) hn s.toNat
    have rd : ∀ c, 20 ≤ c → nn_ri M1 408 c = nn_ri M 408 c := fun c z => a8_ri f1 (by omega) (Or.inr z)
    have e1 : eM_ M1 (xi_ 0 i) (sz_ (aTX_ (zT_ Z) i)) (eX_ (aTX_ (zT_ Z) i)) := eM_cg (fun q z0 z1 => rd q (by omega)) (rd _ (by omega)) e
    refine ng_M_costs_47 _ _ _ _ _ _ _ ?_
    rw [mm_w_id (x := xi_ 0 i + 6) (by omega), e1.1, nf_entryAt ⟨by omega, by omega⟩ ⟨by omega, by omega⟩, mm_w_id (x := s + 1) (by omega), mm_w_id (x := xi_ 0 i + 215 + 4 * s + 1) (by omega), mm_w_id (x := xi_ 0 i + 215 + 4 * s + 2) (by omega)]
    refine ⟨by omega, fun c => ?_, fun c => ⟨by omega, ?_⟩⟩
    · rw [show s.toNat = (sz_ (aTX_ (zT_ Z) i)).toNat by omega] at r16 r17 r18 r19
      have hl := j.2.1.2.2.2.2.1.2
      have k' := k
      obtain ⟨⟨kt, ⟨g1, g2, g3⟩⟩, g4, g5⟩ := k'
      refine h M1 (fr_mono f1 (fun o q y => ⟨y.1, by have := y.2; omega⟩)) ⟨⟨mT_fr f1 bk_0 (fun q z0 y => by have := y.2; unfold mcore_ at z0; omega) kt, fun q hq => ?_, fun q q0 q1 => ?_, fun q q0 q1 => ?_⟩, by rw [rd _ (by omega)]; exact g4, by rw [rd _ (by omega)]; exact g5⟩
      · show nn_ri M1 408 (0 + q) = cst_ (jx_ (zT_ Z) (aTX_ (zT_ Z) i) low high (sz_ (aTX_ (zT_ Z) i)).toNat) (zs_ Z) q
        rw [show (0 : Int) + q = q by omega]
        by_cases y15 : q = 15
        · rw [y15, r15]; rfl
        by_cases y16 : q = 16
        · rw [y16, r16]; rfl
        by_cases y17 : q = 17
        · rw [y17, r17]; rfl
        by_cases y18 : q = 18
        · rw [y18, r18]; rfl
        by_cases y19 : q = 19
        · rw [y19, r19]; rfl
        unfold hd_ at hq
        rw [cst_o (by omega), a8_ri f1 (by omega) (by omega)]
        have := g1 q (by unfold hd_; omega)
        rw [show (0 : Int) + q = q by omega] at this
        exact this
      · have q1 : q < cst_ (jx_ (zT_ Z) (aTX_ (zT_ Z) i) low high (sz_ (aTX_ (zT_ Z) i)).toNat) (zs_ Z) 20 := q1
        rw [cst_o (by omega)] at q1
        rw [rd _ (by omega)]
        exact g2 q q0 q1
      · have := j.2.2 q q0 q1
        exact mC_cg (fun q' z0 z1 => rd q' (by omega)) this.2.1.2 this.2.2.2.2 (g3 q q0 q1)
    · have ih := ih c (by omega)
      rw [show (s + 1).toNat = s.toNat + 1 by omega, jx_s, show ((s.toNat : Nat) : Int) = s by omega] at ih
      have e4 := e1.2.2.2 s s0 c
      have hk := ek_in (eX_ (aTX_ (zT_ Z) i) s % 4503599627370496)
      have hE' := hE s s0 c
      have hI := I.2.1 s s0 c
      rw [e4.2.2.2.1, k_in, k_in0]
      generalize hK : jx_ (zT_ Z) (aTX_ (zT_ Z) i) low high s.toNat = K at *
      obtain ⟨kb1, kb2, kb3, kb4⟩ := kb
      refine ⟨fun w => ?_, fun w => ?_⟩
      · have nw : ¬ (ev_ (eX_ (aTX_ (zT_ Z) i) s % 4503599627370496) < low ∨ high < ev_ (eX_ (aTX_ (zT_ Z) i) s % 4503599627370496)) := by omega
        unfold jd_ at ih
        rw [if_neg nw] at ih
        rw [r16, mm_w_id (x := K.1 + 1) (by omega)]
        intro M2 e2
        have f2 : fr_ (a8_ 15 20) M M2 := by rw [e2]; exact fr_ui f1 ⟨rfl, by omega, by omega⟩
        have rk2 : nn_ri M2 408 (xi_ 0 i + 215 + 4 * s + 2) = ek_ (eX_ (aTX_ (zT_ Z) i) s % 4503599627370496) := by rw [e2, rd_ii, if_neg (by omega)]; exact e4.2.2.2.2.1
        have q16 : nn_ri M2 408 16 = K.1 + 1 := by rw [e2, rd_ii, if_pos ⟨rfl, rfl⟩]
        have q15 : nn_ri M2 408 15 = 1 := by rw [e2, rd_ii, if_neg (by omega)]; exact r15
        have q17 : nn_ri M2 408 17 = K.2.1 := by rw [e2, rd_ii, if_neg (by omega)]; exact r17
        have q18 : nn_ri M2 408 18 = K.2.2.1 := by rw [e2, rd_ii, if_neg (by omega)]; exact r18
        have q19 : nn_ri M2 408 19 = K.2.2.2.1 := by rw [e2, rd_ii, if_neg (by omega)]; exact r19
        rw [rk2, bl_has _ _ hk, hm _ (by omega)]
        refine ⟨by omega, fun z => ?_, fun z => ?_⟩
        · -- not met before
          have hf : ¬ K.2.2.2.2 (ek_ (eX_ (aTX_ (zT_ Z) i) s % 4503599627370496)).toNat = true := by
            intro y
            rw [if_pos y] at z
            exact absurd z (by decide)
          rw [if_neg hf] at ih
          have t2 : tM_ M2 0 (aTm_ (zT_ Z)) (aTn_ (zT_ Z)) (aTq_ (zT_ Z)) := tM_fr f2 bk_0 (fun q z y => by have := y.2; omega) t
          have e42 : e4_ M2 (xi_ 0 i + 215 + 4 * s) (eX_ (aTX_ (zT_ Z) i) s) := e4_cg (e.2.2.2 s s0 c) (a8_ri f2 (by omega) (by omega)) (a8_ri f2 (by omega) (by omega)) (a8_ri f2 (by omega) (by omega)) (a8_ri f2 (by omega) (by omega))
          refine ct_M_looks (T := zT_ Z) (X := aTX_ (zT_ Z) i) ⟨by omega, by omega⟩ ⟨by omega, by omega⟩ t2 j.1.1 e42 (hM_cg (fun q z0 z1 => a8_ri f2 (by omega) (by omega)) (a8_ri f2 (by omega) (by omega)) d) (by omega) ?_
          have hlk : lkE_ (zT_ Z) (aTX_ (zT_ Z) i) (eX_ (aTX_ (zT_ Z) i) s) = (lo_ (aTm_ (zT_ Z) (ek_ (eX_ (aTX_ (zT_ Z) i) s % 4503599627370496)).toNat).isSome (aTq_ (zT_ Z)) (ek_ (eX_ (aTX_ (zT_ Z) i) s % 4503599627370496)) (rpE_ (zT_ Z) (aTX_ (zT_ Z) i) (eX_ (aTX_ (zT_ Z) i) s)) (aTn_ (zT_ Z)).toNat).1 := rfl
          have hli := lo_in (aTm_ (zT_ Z) (ek_ (eX_ (aTX_ (zT_ Z) i) s % 4503599627370496)).toNat).isSome (aTq_ (zT_ Z)) (ek_ (eX_ (aTX_ (zT_ Z) i) s % 4503599627370496)) (rpE_ (zT_ Z) (aTX_ (zT_ Z) i) (eX_ (aTX_ (zT_ Z) i) s)) (aTn_ (zT_ Z)).toNat
          rw [← hlk] at ih hli
          rw [q19, mm_w_id (by omega)]
          intro M3 e3
          have f3 : fr_ (a8_ 15 20) M M3 := by rw [e3]; exact fr_ui f2 ⟨rfl, by omega, by omega⟩
          have e43 : e4_ M3 (xi_ 0 i + 215 + 4 * s) (eX_ (aTX_ (zT_ Z) i) s) := e4_cg (e.2.2.2 s s0 c) (a8_ri f3 (by omega) (by omega)) (a8_ri f3 (by omega) (by omega)) (a8_ri f3 (by omega) (by omega)) (a8_ri f3 (by omega) (by omega))
          have p15 : nn_ri M3 408 15 = 1 := by rw [e3, rd_ii, if_neg (by omega)]; exact q15
          have p16 : nn_ri M3 408 16 = K.1 + 1 := by rw [e3, rd_ii, if_neg (by omega)]; exact q16
          have p17 : nn_ri M3 408 17 = K.2.1 := by rw [e3, rd_ii, if_neg (by omega)]; exact q17
          have p18 : nn_ri M3 408 18 = K.2.2.1 := by rw [e3, rd_ii, if_neg (by omega)]; exact q18
          have p19 : nn_ri M3 408 19 = K.2.2.2.1 + lkE_ (zT_ Z) (aTX_ (zT_ Z) i) (eX_ (aTX_ (zT_ Z) i) s) := by rw [e3, rd_ii, if_pos ⟨rfl, rfl⟩]
          refine ct_M_isStale bk_0 ⟨by omega, by omega⟩ (tM_fr f3 bk_0 (fun q z y => by have := y.2; omega) t) e43 ?_
          have rk3 : nn_ri M3 408 (xi_ 0 i + 215 + 4 * s + 2) = ek_ (eX_ (aTX_ (zT_ Z) i) s % 4503599627370496) := e43.2.2.2.2.1
          show ((if fs_ (aTl_ (zT_ Z)) (eX_ (aTX_ (zT_ Z) i) s % 4503599627370496) = true then (0 : Int) else 1) = 0 → _) ∧ ((if fs_ (aTl_ (zT_ Z)) (eX_ (aTX_ (zT_ Z) i) s % 4503599627370496) = true then (0 : Int) else 1) ≠ 0 → _)
          by_cases f : fs_ (aTl_ (zT_ Z)) (eX_ (aTX_ (zT_ Z) i) s % 4503599627370496) = true
          · rw [if_pos f] at ih ⊢
            rw [if_pos f] at ih
            refine ⟨fun _ => ⟨by omega, ?_⟩, fun y => absurd rfl y⟩
            intro m2 em
            rw [rk3] at em
            refine ih m2 M3 f3 p15 p16 (by rw [p17]; show K.2.1 = K.2.1 + 0; omega) p18 p19 (fun q hq => ?_)
            rw [em]
            have eke : ek_ (eX_ (aTX_ (zT_ Z) i) s % 4503599627370496) = (((ek_ (eX_ (aTX_ (zT_ Z) i) s % 4503599627370496)).toNat : Nat) : Int) := by omega
            rw [eke, bl_set _ _ _ (by omega) hq, hm q hq, ← eke]
          · rw [if_neg f] at ih ⊢
            rw [if_neg f] at ih
            refine ⟨fun y => absurd y (by decide), fun _ => ?_⟩
            rw [p17, mm_w_id (x := K.2.1 + 1) (by omega)]
            intro M4 e5
            refine ih met M4 (by rw [e5]; exact fr_ui f3 ⟨rfl, by omega, by omega⟩) ?_ ?_ ?_ ?_ ?_ hm
            · rw [e5, rd_ii, if_neg (by omega)]; exact p15
            · rw [e5, rd_ii, if_neg (by omega)]; exact p16
            · rw [e5, rd_ii, if_pos ⟨rfl, rfl⟩]
            · rw [e5, rd_ii, if_neg (by omega)]; exact p18
            · rw [e5, rd_ii, if_neg (by omega)]; exact p19
        · have hf : K.2.2.2.2 (ek_ (eX_ (aTX_ (zT_ Z) i) s % 4503599627370496)).toNat = true := by
            by_cases y : K.2.2.2.2 (ek_ (eX_ (aTX_ (zT_ Z) i) s % 4503599627370496)).toNat = true
            · exact y
            · rw [if_neg y] at z
              exact absurd z (by decide)
          rw [if_pos hf] at ih
          rw [q18, mm_w_id (x := K.2.2.1 + 1) (by omega)]
          intro M3 e3
          refine ih met M3 (by rw [e3]; exact fr_ui f2 ⟨rfl, by omega, by omega⟩) ?_ ?_ ?_ ?_ ?_ hm
          · rw [e3, rd_ii, if_neg (by omega)]; exact q15
          · rw [e3, rd_ii, if_neg (by omega)]; exact q16
          · rw [e3, rd_ii, if_neg (by omega)]; exact q17
          · rw [e3, rd_ii, if_pos ⟨rfl, rfl⟩]
          · rw [e3, rd_ii, if_neg (by omega)]; exact q19
      · unfold jd_ at ih
        rw [if_pos (by omega)] at ih
        exact ih met M1 f1 r15 r16 r17 r18 r19 hm
  have L0 : ∀ q : Int, q ≤ 4 → 0 ≤ q → ∀ M1, fr_ (a8_ 15 20) M M1 → nn_ri M1 408 15 = 1 → (∀ c, 0 ≤ c → c < q → nn_ri M1 408 (16 + c) = 0) → nk_M_costs_21 low high (xi_ 0 i) 0 q M1 R := by
    refine lp_up (fun q hq ih q0 M1 f1 r15 g1 => ?_)
    refine ng_M_costs_21 _ _ _ _ _ _ _ ⟨fun c => ?_, fun c => ?_⟩
    · refine L 0 (sz_nn _) (Int.le_refl _) 0 M1 f1 r15 ?_ ?_ ?_ ?_ (fun q _ => bl_zero q)
      · exact g1 0 (by omega) (by omega)
      · exact g1 1 (by omega) (by omega)
      · exact g1 2 (by omega) (by omega)
      · exact g1 3 (by omega) (by omega)
    · rw [mm_w_id (x := 16 + q) (by omega), mm_w_id (x := q + 1) (by omega)]
      refine ⟨by omega, ?_⟩
      intro M2 e2
      refine ih c (by omega) M2 (by rw [e2]; exact fr_ui f1 ⟨rfl, by omega, by omega⟩) (by rw [e2, rd_ii, if_neg (by omega)]; exact r15) (fun c' z0 z1 => ?_)
      rw [e2, rd_ii]
      by_cases y : c' = q
      · rw [if_pos ⟨rfl, by rw [y]⟩]
      · rw [if_neg (by omega)]; exact g1 c' z0 (by omega)
  exact L0 0 (by omega) (Int.le_refl _) M0 (by rw [e0]; exact fr_ui (fr_refl M) ⟨rfl, by omega, by omega⟩) (by rw [e0, rd_ii, if_pos ⟨rfl, rfl⟩]) (fun c z0 z1 => by omega)
theorem ct_M_ask {bd i low high k : Int} {Z : ab_Z} {M : mm_M} {R : Int → mm_M → Prop} (kz : mY_ bd M 0 Z) (j : jZ_ bd Z) (h1 : ib2_ i Z → ∀ M', fr_ mod_ M M' → mY_ bd M' 0 (ask_ i low high Z) → R (aska_ i low high k Z) M') (h0 : ¬ ib2_ i Z → R (-2) M) : nr_M_ask i low high k M R := by
  obtain ⟨m1, m2⟩ := m_isBuilt (i := i) kz j
  refine ng_M_ask _ _ _ _ _ _ ⟨m1, fun z => ?_, fun z => h0 (fun w => absurd z (m2.mpr w))⟩
  have z1 := m2.mp z
  have h1 := h1 z1
  refine ct_M_costs kz j (ib_ix z1) (fun M1 f1 k1 => ?_)
  have j1 := jZ_ask (i := i) (low := low) (high := high) j
  obtain ⟨_, b1, _⟩ := (k1.1.1.2.2 i z1.1.1 z1.1.2).2 (ib_ix z1).2
  refine ct_M_asks (T := zT_ Z) (X := aTX_ (zT_ Z) i) z1.1 k1.1.1.1 j.1.1 b1 (fun M2 f2 g2 => ?_)
  have k2 := mY_410 f2 j1 k1
  have h1 := h1 M2 (fr_trans (fr_mono f1 (fun o c y => mod_mz y)) (fr_mono f2 (fun o c y => Or.inr (Or.inr y)))) k2
  have hb := (ga_spec (xv_ (aTl_ (zT_ Z)) (aTX_ (zT_ Z) i)) low high 32).1
  unfold aska_ at h1
  generalize ga_ (xv_ (aTl_ (zT_ Z)) (aTX_ (zT_ Z) i)) low high 32 = g at *
  unfold an2_ at h1
  refine ⟨fun w => ?_, fun w => ?_⟩
  · rw [if_neg w] at h1
    rw [k_in, k_in0, mm_w_id (x := g.1 - 1) (by omega)]
    refine ⟨fun y => ?_, fun y => ⟨by omega, ?_⟩⟩
    · rw [if_neg (by omega)] at h1; exact h1
    · rw [if_pos (by omega)] at h1
      rw [g2 k y.1 (by omega)]; exact h1
  · rw [if_pos w] at h1; exact h1
