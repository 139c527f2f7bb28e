/-! a build: the Model's end; the Model's build -/
theorem eM_ext {M : mm_M} {x m : Int} {E F : Int → Int} (h : ∀ e, 0 ≤ e → e < m → F e = E e) (k : eM_ M x m E) : eM_ M x m F := ⟨k.1, k.2.1, k.2.2.1, fun e e0 e1 => by rw [h e e0 e1]; exact k.2.2.2 e e0 e1⟩
/-- entries of one more run behind those that are -/
def F1_ (E ee : Int → Int) (kk n : Int) (i : Int) : Int := if i < kk then E i else (n + 1) * 4503599627370496 + ee (i - kk)
theorem uq_F1 {E ee : Int → Int} {kk n j : Int} {g : Int → ab_P} {A : Int → Prop} (I : iE_ kk E n g A) (hv : ∀ t, 0 ≤ t → t < j → ve_ (ee t)) (hk : ∀ t s, 0 ≤ t → t < s → s < j → ek_ (ee t) < ek_ (ee s)) : uq_ (F1_ E ee kk n) (kk + j) (fun _ => False) := by
  obtain ⟨I1, I2, _, _⟩ := I
  intro a c a0 a1 c0 c1 e
  refine Or.inl ?_
  unfold F1_ at e
  by_cases z1 : a < kk
  · by_cases z2 : c < kk
    · rw [if_pos z1, if_pos z2] at e
      by_cases y : a = c
      · exact y
      · by_cases w : a < c
        · have := I1 a c a0 w z2; omega
        · have := I1 c a c0 (by omega) z1; omega
    · rw [if_pos z1, if_neg z2] at e
      have h1 := I2 a a0 z1
      have h2 := hv (c - kk) (by omega) (by omega)
      unfold ve_ at h2
      omega
  · by_cases z2 : c < kk
    · rw [if_neg z1, if_pos z2] at e
      have h1 := I2 c c0 z2
      have h2 := hv (a - kk) (by omega) (by omega)
      unfold ve_ at h2
      omega
    · rw [if_neg z1, if_neg z2] at e
      have e : ee (a - kk) = ee (c - kk) := by omega
      by_cases y : a = c
      · exact y
      · by_cases w : a < c
        · have := hk (a - kk) (c - kk) (by omega) (by omega) (by omega); rw [e] at this; omega
        · have := hk (c - kk) (a - kk) (by omega) (by omega) (by omega); rw [e] at this; omega
theorem iE_F1 {E E2 ee : Int → Int} {kk n j : Int} {g : Int → ab_P} {A K : Int → Prop} {x : ab_P} (hn : 0 ≤ n) (hkk : 0 ≤ kk) (hj : 0 ≤ j) (I : iE_ kk E n g A) (hE : ∀ e, 0 ≤ e → e < kk → 0 ≤ E e) (hv : ∀ t, 0 ≤ t → t < j → ve_ (ee t)) (hK : ∀ y, K y ↔ ∃ i, 0 ≤ i ∧ i < j ∧ ee i = y) (hx : x.2.2.2.2 = K) (ss : ss_ E2 0 (kk + j)) (sg : ∀ y, sg_ E2 0 (kk + j) y ↔ sg_ (F1_ E ee kk n) 0 (kk + j) y) : iE_ (kk + j) E2 (n + 1) (inP_ n x g) A := by
  obtain ⟨I1, I2, I3, I4⟩ := I
  have sg2 : ∀ y, sg_ E2 0 (kk + j) y ↔ (sg_ E 0 kk y ∨ ∃ t, 0 ≤ t ∧ t < j ∧ (n + 1) * 4503599627370496 + ee t = y) := by
    intro y
    rw [sg]
    constructor
    · rintro ⟨a, a0, a1, a2⟩
      unfold F1_ at a2
      by_cases z : a < kk
      · rw [if_pos z] at a2; exact Or.inl ⟨a, a0, z, a2⟩
      · rw [if_neg z] at a2; exact Or.inr ⟨a - kk, by omega, by omega, a2⟩
    · rintro (⟨a, a0, a1, a2⟩ | ⟨t, t0, t1, t2⟩)
      · exact ⟨a, a0, by omega, by unfold F1_; rw [if_pos a1]; exact a2⟩
      · refine ⟨kk + t, by omega, by omega, ?_⟩
        unfold F1_
        rw [if_neg (by omega), show kk + t - kk = t by omega]
        exact t2
  refine ⟨ss, fun e e0 e1 => ?_, fun y hy => ?_, fun r r0 r1 y hy => ?_⟩
  · rcases (sg2 (E2 e)).mp ⟨e, e0, e1, rfl⟩ with ⟨a, a0, a1, a2⟩ | ⟨t, t0, t1, t2⟩
    · have := I2 a a0 a1
      rw [a2] at this; omega
    · have := hv t t0 t1
      unfold ve_ at this
      omega
  · rw [sg2, ← I3 y hy]
    constructor
    · rintro (z | ⟨t, t0, t1, t2⟩)
      · exact z
      · have := hv t t0 t1
        unfold ve_ at this hy
        omega
    · exact Or.inl
  · rw [sg2]
    by_cases z : r < n
    · rw [inP_lo z, ← I4 r r0 z y hy]
      constructor
      · rintro (w | ⟨t, t0, t1, t2⟩)
        · exact w
        · have := hv t t0 t1
          unfold ve_ at this hy
          omega
      · exact Or.inl
    · rw [show r = n by omega, inP_at, hx, hK]
      constructor
      · rintro (⟨a, a0, a1, a2⟩ | ⟨t, t0, t1, t2⟩)
        · have := I2 a a0 a1
          rw [a2] at this
          unfold ve_ at hy
          omega
        · exact ⟨t, t0, t1, by omega⟩
      · rintro ⟨t, t0, t1, t2⟩
        exact Or.inr ⟨t, t0, t1, by rw [t2]⟩
theorem setX_setC {i : Int} {X : ab_X} {r : (Int × Int) × ab_X} {T : ab_T} : setX_ i X (setC_ i r T) = setC_ i (r.1, X) T := by
  have e : (fun j => if j = i then X else aTX_ (setC_ i r T) j) = fun j => if j = i then X else aTX_ T j := by
    funext j
    by_cases z : j = i
    · rw [if_pos z, if_pos z]
    · rw [if_neg z, if_neg z]
      exact if_neg z
  show (T.1, T.2.1, T.2.2.1, T.2.2.2.1, r.1, _) = (T.1, T.2.1, T.2.2.1, T.2.2.2.1, r.1, _)
  rw [e]
theorem setC_setX {i : Int} {X : ab_X} {r : (Int × Int) × ab_X} {T : ab_T} : setC_ i r (setX_ i X T) = setC_ i r T := by
  have e : (fun j => if j = i then r.2 else aTX_ (setX_ i X T) j) = fun j => if j = i then r.2 else aTX_ T j := by
    funext j
    by_cases z : j = i
    · rw [if_pos z, if_pos z]
    · rw [if_neg z, if_neg z]
      exact if_neg z
  show (T.1, T.2.1, T.2.2.1, T.2.2.2.1, r.1, _) = (T.1, T.2.1, T.2.2.1, T.2.2.2.1, r.1, _)
  rw [e]
theorem ct_M_ends {bd i : Int} {Z : ab_Z} {Y : ab_X} {M : mm_M} {R : Int → mm_M → Prop} (hbd : 0 ≤ bd ∧ bd < 800000000) (hi : 0 ≤ i ∧ i < 4) (j : jZ_ bd Z) (hY : xh_ Y ≠ 0) (hsz : sz_ Y ≤ 96) (vA : ∀ y, xA_ Y y → ve_ y) (vP : vl_ (xn_ Y) (xg_ Y)) (hn : 0 ≤ xn_ Y ∧ xn_ Y ≤ 20) (hlv : ∀ r, 0 ≤ r → r < xn_ Y → -1 ≤ plv_ (xg_ Y) r ∧ plv_ (xg_ Y) r ≤ bd) (k : mY_ bd M 0 (zs_ Z, setX_ i Y (zT_ Z), zC_ Z, zf_ Z))
    (h : ∀ M', fr_ (mz_ 0) M M' → mY_ bd M' 0 (zs_ Z, setC_ i (fin_ (aTc_ (zT_ Z)) Y) (zT_ Z), zC_ Z, zf_ Z) → R 0 M') : nr_M_ends (xi_ 0 i) M R := by
  have hx : 1784 ≤ xi_ 0 i ∧ xi_ 0 i + 855 ≤ 5204 := by unfold xi_; omega
  have kx : mX_ M (xi_ 0 i) Y := by
    have := k.1.1.2.2 i hi.1 hi.2
    rw [setX_self] at this
    exact this
  have hl := j.2.1.2.2.2.2.1.2
  have hc := j.2.2
  have hc2 := j.1.2.2.1.2.2.2
  have kx' := kx
  obtain ⟨kx0, kx1⟩ := kx'
  obtain ⟨⟨a1, a2, a3, a4, a5, a6, a7⟩, b1, c1, d, kk, E, e, I⟩ := kx1 hY
  have hcnt := iE_cnt e I hn.1 vA vP
  unfold sz_ at hsz
  -- the last two writes
  have LAST : ∀ (r : (Int × Int) × ab_X) (M1 : mm_M), fr_ (mxi_ 0 (xi_ 0 i)) M M1 → mY_ bd M1 0 (zs_ Z, setC_ i r (zT_ Z), zC_ Z, zf_ Z) → xh_ r.2 ≠ 0 → ((r.1.1, r.1.2), ((2, r.2.1.2.1, r.2.1.2.2.1, r.2.1.2.2.2.1, r.2.1.2.2.2.2), r.2.2.1, r.2.2.2.1, (fun _ => False), 0, r.2.2.2.2.2.2)) = fin_ (aTc_ (zT_ Z)) Y → ∀ M2, M2 = nn_ui M1 408 (xi_ 0 i + 7) 0 → ∀ M3, M3 = nn_ui M2 408 (xi_ 0 i) 2 → R 0 M3 := by
    intro r M1 f1 k1 hr er M2 e2 M3 e3
    have f3 : fr_ (fun o c => o = 408 ∧ xi_ 0 i ≤ (c : Int) ∧ (c : Int) < xi_ 0 i + 855) M1 M3 := by
      rw [e3, e2]; exact fr_ui (fr_ui (fr_refl M1) ⟨rfl, by omega, by omega⟩) ⟨rfl, by omega, by omega⟩
    have kr : mX_ M1 (xi_ 0 i) r.2 := by
      have := k1.1.1.2.2 i hi.1 hi.2
      rw [show aTX_ (zT_ (zs_ Z, setC_ i r (zT_ Z), zC_ Z, zf_ Z)) i = r.2 from if_pos rfl] at this
      exact this
    obtain ⟨kr0, kr1⟩ := kr
    obtain ⟨⟨p1, p2, p3, p4, p5, p6, p7⟩, pb, pc, pd, pk, pE, pe, pI⟩ := kr1 hr
    have rd : ∀ c, 0 ≤ c → c ≠ xi_ 0 i → c ≠ xi_ 0 i + 7 → nn_ri M3 408 c = nn_ri M1 408 c := by
      intro c z0 z1 z2
      rw [e3, rd_ii, if_neg (by omega), e2, rd_ii, if_neg (by omega)]
    have kx3 : mX_ M3 (xi_ 0 i) ((2, r.2.1.2.1, r.2.1.2.2.1, r.2.1.2.2.2.1, r.2.1.2.2.2.2), r.2.2.1, r.2.2.2.1, (fun _ => False), 0, r.2.2.2.2.2.2) := by
      refine ⟨by rw [e3, rd_ii, if_pos ⟨rfl, rfl⟩], fun _ => ⟨⟨(rd _ (by omega) (by omega) (by omega)).trans p1, (rd _ (by omega) (by omega) (by omega)).trans p2, (rd _ (by omega) (by omega) (by omega)).trans p3, fun w => absurd w (by show ¬ (2 : Int) = 1; omega), ?_, Int.le_refl _, by show (0 : Int) ≤ 32; omega⟩, rlM_cg (fun q z0 z1 => rd q (by omega) (by omega) (by omega)) pb, ?_, hM_cg (fun q z0 z1 => rd q (by omega) (by omega) (by omega)) (rd _ (by omega) (by omega) (by omega)) pd, pk, pE, eM_cg (fun q z0 z1 => rd q (by omega) (by omega) (by omega)) (rd _ (by omega) (by omega) (by omega)) pe, pI⟩⟩
      · rw [e3, rd_ii, if_neg (by omega), e2, rd_ii, if_pos ⟨rfl, rfl⟩]
      · refine ⟨fun _ => 0, fun q q0 q1 => ?_, fun q q' q0 q1 q2 => ?_, fun y => ⟨fun w => w.elim, fun w => ?_⟩⟩
        · have q1 : q < 0 := q1
          omega
        · have q2 : q' < 0 := q2
          omega
        · obtain ⟨q, q0, q1, _⟩ := w
          have q1 : q < 0 := q1
          omega
    have k3 := mY_setX (Z := (zs_ Z, setC_ i r (zT_ Z), zC_ Z, zf_ Z)) bk_0 hi f3 hl hc k1 kx3
    have k3 : mY_ bd M3 0 (zs_ Z, setX_ i ((2, r.2.1.2.1, r.2.1.2.2.1, r.2.1.2.2.2.1, r.2.1.2.2.2.2), r.2.2.1, r.2.2.2.1, (fun _ => False), 0, r.2.2.2.2.2.2) (setC_ i r (zT_ Z)), zC_ Z, zf_ Z) := k3
    rw [setX_setC] at k3
    rw [← er] at h
    exact h M3 (fr_trans (fr_mono f1 (fun o c y => ⟨y.1, by have := y.2; omega⟩)) (fr_mono f3 (fun o c y => ⟨y.1, by have := y.2; omega⟩))) k3
  refine ng_M_ends _ _ _ ?_
  obtain ⟨d1, d2, d3, d4⟩ := d
  have L : ∀ r : Int, r ≤ xn_ Y → 0 ≤ r → nk_M_ends_4 (xi_ 0 i) (hi_ (plv_ (xg_ Y)) 0 r.toNat) r M R := by
    refine lp_up (fun r hr ih r0 => ?_)
    refine ng_M_ends_4 _ _ _ _ _ ?_
    rw [mm_w_id (x := xi_ 0 i + 5) (by omega), d1, nf_head ⟨by omega, by omega⟩ ⟨by omega, by omega⟩, mm_w_id (x := xi_ 0 i + 143 + 3 * r + 1) (by omega), mm_w_id (x := r + 1) (by omega), mm_w_id (x := xi_ 0 i + 7) (by omega), a5, mm_w_id (x := xi_ 0 i + 0) (by omega), show xi_ 0 i + 0 = xi_ 0 i by omega]
    refine ⟨by omega, fun c => ⟨by omega, fun z => ⟨by omega, ?_⟩, fun z => ⟨by omega, by omega, ?_⟩⟩, fun c => ?_⟩
    · -- nothing was kept
      have hK : ¬ ∃ y, xK_ Y y := by
        rintro ⟨y, hy⟩
        obtain ⟨ee, _, _, l3⟩ := c1
        obtain ⟨q, q0, q1, _⟩ := (l3 y).mp hy
        omega
      have kC : mY_ bd M 0 (zs_ Z, setC_ i (((aTc_ (zT_ Z)).1 + 1, (aTc_ (zT_ Z)).2), Y) (zT_ Z), zC_ Z, zf_ Z) := k
      have := LAST (((aTc_ (zT_ Z)).1 + 1, (aTc_ (zT_ Z)).2), Y) M (fr_refl M) kC hY (fin_0 hK).symm
      intro M2 e2
      refine ⟨by omega, ?_⟩
      exact this M2 e2
    · -- one more run
      obtain ⟨ee, l1, l2, l3⟩ := c1
      have hK : ∃ y, xK_ Y y := ⟨ee 0, (l3 _).mpr ⟨0, Int.le_refl _, z, rfl⟩⟩
      have er : r = xn_ Y := by omega
      rw [mm_w_id (x := xn_ Y + 1) (by omega)]
      intro M1 e1
      have hlev := hi_le (lv := plv_ (xg_ Y)) (f := 0) (b := bd) (by omega) (m := r.toNat) (fun q q0 q1 => (hlv q q0 (by omega)).2)
      have L2 : ∀ t : Int, t ≤ xj_ Y → 0 ≤ t → ∀ M2, fr_ (fun o c => o = 408 ∧ ((c : Int) = xi_ 0 i + 5 ∨ (c : Int) = xi_ 0 i + 6 ∨ (xi_ 0 i + 215 ≤ (c : Int) ∧ (c : Int) < xi_ 0 i + 855))) M M2 → nn_ri M2 408 (xi_ 0 i + 5) = xn_ Y + 1 → eM_ M2 (xi_ 0 i) (kk + t) (F1_ E ee kk (xn_ Y)) → nk_M_ends_81 (xi_ 0 i) (hi_ (plv_ (xg_ Y)) 0 r.toNat) t M2 R := by
        refine lp_up (fun t ht ih2 t0 M2 f2 g5 e2 => ?_)
        have rd2 : ∀ c, 0 ≤ c → c < xi_ 0 i + 215 → c ≠ xi_ 0 i + 5 → c ≠ xi_ 0 i + 6 → nn_ri M2 408 c = nn_ri M 408 c := fun c z0 z1 z2 z3 => fr_ri f2 (fun y => by have := y.2; omega)
        refine ng_M_ends_81 _ _ _ _ _ ?_
        rw [mm_w_id (x := xi_ 0 i + 7) (by omega), rd2 _ (by omega) (by omega) (by omega) (by omega), a5, mm_w_id (x := xi_ 0 i + 5) (by omega), mm_w_id (x := 3 * t) (by omega), mm_w_id (x := xi_ 0 i + 47) (by omega), mm_w_id (x := xi_ 0 i + 47 + 3 * t) (by omega), mm_w_id (x := xi_ 0 i + 47 + 3 * t + 1) (by omega), mm_w_id (x := xi_ 0 i + 47 + 3 * t + 2) (by omega), mm_w_id (x := t + 1) (by omega), mm_w_id (x := xi_ 0 i + 3) (by omega), mm_w_id (x := xi_ 0 i + 0) (by omega), show xi_ 0 i + 0 = xi_ 0 i by omega, mm_w_id (x := hi_ (plv_ (xg_ Y)) 0 r.toNat + 1) (by omega)]
        refine ⟨by omega, fun c => ?_, fun c => ⟨by omega, by omega, by omega, by omega, ?_⟩⟩
        · have et : t = xj_ Y := by omega
          rw [et] at e2
          refine ct_M_sorts ⟨by omega, by omega⟩ e2 (fun M3 E3 f3 e3 so sg uq => ?_)
          have u3 := uq _ (uq_F1 I (fun t t0 t1 => (l1 t t0 t1).1) l2)
          have ss3 : ss_ E3 0 (kk + xj_ Y) := by
            intro a c' a0 ac c1'
            have h1 := so a c' a0 ac c1'
            by_cases w : E3 a = E3 c'
            · rcases u3 a c' a0 (by omega) (by omega) c1' w with y | y
              · omega
              · exact y.elim
            · omega
          have hkk0 : 0 ≤ kk := e.2.1
          have hkk : kk ≤ 160 := e.2.2.1
          have f13 : fr_ (fun o c => o = 408 ∧ ((c : Int) = xi_ 0 i + 5 ∨ (c : Int) = xi_ 0 i + 6 ∨ (xi_ 0 i + 215 ≤ (c : Int) ∧ (c : Int) < xi_ 0 i + 855))) M M3 := fr_trans f2 (fr_mono f3 (fun o c y => ⟨y.1, by have := y.2; have := e2.2.2.1; omega⟩))
          have rd3 : ∀ c, 0 ≤ c → (c < xi_ 0 i + 215 ∨ xi_ 0 i + 855 ≤ c) → c ≠ xi_ 0 i + 5 → c ≠ xi_ 0 i + 6 → nn_ri M3 408 c = nn_ri M 408 c := fun c z0 z1 z2 z3 => fr_ri f13 (fun y => by have := y.2; omega)
          have g53 : nn_ri M3 408 (xi_ 0 i + 5) = xn_ Y + 1 := by rw [fr_ri f3 (fun y => by have := y.2; omega)]; exact g5
          rw [g53, mm_w_id (x := xn_ Y + 1 - 1) (by omega), show xn_ Y + 1 - 1 = xn_ Y by omega, rd3 (xi_ 0 i + 3) (by omega) (by omega) (by omega) (by omega), a3]
          refine ⟨by omega, by omega, ?_⟩
          have hM3 : hM_ M3 (xi_ 0 i) (xn_ Y + 1) (fun q => if q = xn_ Y then (0, nn_ri M3 408 (xi_ 0 i + 143 + 3 * xn_ Y), nn_ri M3 408 (xi_ 0 i + 143 + 3 * xn_ Y + 1), nn_ri M3 408 (xi_ 0 i + 143 + 3 * xn_ Y + 2), fun _ => False) else xg_ Y q) := by
            refine ⟨g53, by omega, by omega, fun q q0 q1 => ?_⟩
            by_cases w : q = xn_ Y
            · dsimp only; rw [if_pos w, w]; exact ⟨rfl, rfl, rfl⟩
            · dsimp only; rw [if_neg w, rd3 _ (by omega) (by omega) (by omega) (by omega), rd3 _ (by omega) (by omega) (by omega) (by omega), rd3 _ (by omega) (by omega) (by omega) (by omega)]
              exact d4 q q0 (by omega)
          have r8 : nn_ri M3 408 (0 + 8) = (aTc_ (zT_ Z)).2 := by
            rw [rd3 _ (by omega) (by omega) (by omega) (by omega)]
            exact k.1.1.2.1.2.2.2
          refine ct_M_lays (n := xn_ Y + 1) ((aTc_ (zT_ Z)).1 + 1) (xK_ Y) bk_0 ⟨by omega, by omega⟩ hM3 ⟨by omega, by omega⟩ (by rw [r8]; omega) (fun M4 f4 g8 hM4 => ?_)
          rw [r8] at g8 hM4
          have hM4' : hM_ M4 (xi_ 0 i) (xn_ Y + 1) (inP_ (xn_ Y) ((aTc_ (zT_ Z)).1 + 1, (aTc_ (zT_ Z)).2 + 1, hi_ (plv_ (xg_ Y)) 0 (xn_ Y).toNat + 1, xb_ Y, xK_ Y) (xg_ Y)) := by
            obtain ⟨y1, y2, y3, y4⟩ := hM4
            refine ⟨y1, y2, y3, fun q q0 q1 => ?_⟩
            have y4 := y4 q q0 q1
            unfold stP_ at y4
            by_cases w : q = xn_ Y
            · rw [if_pos w] at y4
              rw [w, inP_at]
              rw [w, er] at y4
              exact y4
            · simp only [if_neg w] at y4
              rw [inP_lo (by omega)]
              exact y4
          have f14 : fr_ (mxi_ 0 (xi_ 0 i)) M M4 := fr_trans (fr_mono f13 (fun o c y => ⟨y.1, by have := y.2; omega⟩)) (fr_mono f4 (fun o c y => ⟨y.1, by have := y.2; omega⟩))
          have rd4 : ∀ c, xi_ 0 i ≤ c → c < xi_ 0 i + 143 → c ≠ xi_ 0 i + 5 → c ≠ xi_ 0 i + 6 → nn_ri M4 408 c = nn_ri M 408 c := fun c z0 z1 z2 z3 => fr_ri f14 (fun y => by have := y.2; omega)
          have e4 : eM_ M4 (xi_ 0 i) (kk + xj_ Y) E3 := eM_cg (fun q z0 z1 => fr_ri f4 (fun y => by have := y.2; omega)) (fr_ri f4 (fun y => by have := y.2; omega)) e3
          have I4 : iE_ (kk + xj_ Y) E3 (xn_ Y + 1) (inP_ (xn_ Y) ((aTc_ (zT_ Z)).1 + 1, (aTc_ (zT_ Z)).2 + 1, hi_ (plv_ (xg_ Y)) 0 (xn_ Y).toNat + 1, xb_ Y, xK_ Y) (xg_ Y)) (xA_ Y) := iE_F1 hn.1 hkk0 a6 I (fun q q0 q1 => (e.2.2.2 q q0 q1).1) (fun t t0 t1 => (l1 t t0 t1).1) l3 rfl ss3 sg
          have kx4 := mX_part (A := xA_ Y) kx rd4 hM4' ⟨kk + xj_ Y, E3, e4, I4⟩
          have k4 := mY_setC (Z := (zs_ Z, setX_ i Y (zT_ Z), zC_ Z, zf_ Z)) (r := (((aTc_ (zT_ Z)).1 + 1, (aTc_ (zT_ Z)).2 + 1), (Y.1, Y.2.1, xA_ Y, Y.2.2.2.1, Y.2.2.2.2.1, xn_ Y + 1, inP_ (xn_ Y) ((aTc_ (zT_ Z)).1 + 1, (aTc_ (zT_ Z)).2 + 1, hi_ (plv_ (xg_ Y)) 0 (xn_ Y).toNat + 1, xb_ Y, xK_ Y) (xg_ Y)))) bk_0 hi f14 g8 hl hc k kx4
          have k4 : mY_ bd M4 0 (zs_ Z, setC_ i (((aTc_ (zT_ Z)).1 + 1, (aTc_ (zT_ Z)).2 + 1), (Y.1, Y.2.1, xA_ Y, Y.2.2.2.1, Y.2.2.2.2.1, xn_ Y + 1, inP_ (xn_ Y) ((aTc_ (zT_ Z)).1 + 1, (aTc_ (zT_ Z)).2 + 1, hi_ (plv_ (xg_ Y)) 0 (xn_ Y).toNat + 1, xb_ Y, xK_ Y) (xg_ Y))) (setX_ i Y (zT_ Z)), zC_ Z, zf_ Z) := k4
          rw [setC_setX] at k4
          have := LAST _ M4 f14 k4 hY (fin_1 hK).symm
          refine ⟨by omega, ?_⟩
          intro M5 e5
          refine ⟨by omega, ?_⟩
          exact this M5 e5
        · obtain ⟨y0, y1, y2, y3⟩ := l1 t t0 c
          rw [g5, rd2 _ (by omega) (by omega) (by omega) (by omega), rd2 _ (by omega) (by omega) (by omega) (by omega), rd2 _ (by omega) (by omega) (by omega) (by omega), y1, y2, y3]
          have hkk : kk ≤ 96 := by omega
          refine ct_M_adds2 ⟨by omega, by omega⟩ e2 (by omega) ⟨by omega, by omega⟩ y0 (fun M3 f3 e3 => ?_)
          refine ih2 c (by omega) M3 (fr_trans f2 (fr_mono f3 (fun o c y => ⟨y.1, by have := y.2; have := e.2.1; omega⟩))) (by rw [fr_ri f3 (fun y => by have := y.2; have := e.2.1; omega)]; exact g5) ?_
          rw [show kk + (t + 1) = kk + t + 1 by omega]
          refine eM_ext (fun q q0 q1 => ?_) e3
          by_cases w : q = kk + t
          · rw [if_pos w]
            unfold F1_
            rw [if_neg (by omega), w, show kk + t - kk = t by omega]
          · rw [if_neg w]
      have g1 : fr_ (fun o c => o = 408 ∧ ((c : Int) = xi_ 0 i + 5 ∨ (c : Int) = xi_ 0 i + 6 ∨ (xi_ 0 i + 215 ≤ (c : Int) ∧ (c : Int) < xi_ 0 i + 855))) M M1 := by
        rw [e1]; exact fr_ui (fr_refl M) ⟨rfl, by omega⟩
      refine L2 0 a6 (Int.le_refl _) M1 g1 (by rw [e1, rd_ii, if_pos ⟨rfl, rfl⟩]) ?_
      rw [show kk + 0 = kk by omega]
      refine eM_ext (fun q q0 q1 => ?_) (eM_cg (fun q z0 z1 => by rw [e1, rd_ii, if_neg (by omega)]) (by rw [e1, rd_ii, if_neg (by omega)]) e)
      unfold F1_
      rw [if_pos q1]
    · obtain ⟨y1, y2, y3⟩ := d4 r r0 c
      rw [y2]
      have ih := ih c (by omega)
      rw [show (r + 1).toNat = r.toNat + 1 by omega] at ih
      unfold hi_ at ih
      rw [show (0 : Int) + ((r.toNat : Nat) : Int) = r by omega] at ih
      have ep : plv_ (xg_ Y) r = (xg_ Y r).2.2.1 := rfl
      rw [ep] at ih
      refine ⟨by omega, fun z => ?_, fun z => ⟨by omega, ?_⟩⟩
      · rw [Int.max_eq_left z] at ih; exact ih
      · intro q eq
        rw [Int.max_eq_right (by omega)] at ih
        rw [eq]; exact ih
  exact L 0 hn.1 (Int.le_refl _)
