/-! the Model: a write that is not refused -/
theorem ct_M_takX {b i key row st1 since lvb sb nb : Int} {mem lat : ab_V} {c : Int × Int} {X : ab_X} {M : mm_M} {R : mm_M → Prop} (hb : bk_ b) (hi : 0 ≤ i ∧ i < 4) (h0 : xh_ X ≠ 0) (hk : 0 ≤ key ∧ key < 32) (hrow : 0 ≤ row ∧ row < 65536) (hst : 0 ≤ st1 ∧ st1 < 2147483648) (k : mX_ M (xi_ b i) X) (j : jX_ (st1 - 1) since lvb sb nb mem lat X) (hsb : sb ≤ 80)
    (h : ∀ M', fr_ (mxi_ b (xi_ b i)) M M' → nn_ri M' 408 (b + 8) = nn_ri M 408 (b + 8) → mX_ M' (xi_ b i) (tk2_ key row st1 c X).2 → R M') : nr_M_wants (xi_ b i) row M (fun r144 M144 => ((r144 ≠ 0 → (nr_M_valueOf (xi_ b i) row M144 (fun r161 M161 => (nr_M_adds (xi_ b i) 0 r161 key st1 M161 (fun M167 => (nr_M_sorts (xi_ b i) M167 (fun M173 => R M173))))))) ∧ (r144 = 0 → R M144))) := by
  have hb' := hb
  unfold bk_ at hb'
  have hx : b + 1784 ≤ xi_ b i ∧ xi_ b i + 855 ≤ 32844 := by unfold xi_; omega
  generalize xi_ b i = x at hx k h ⊢
  have vl := jX_vl j h0
  obtain ⟨q1, ⟨q2, _⟩, _, q4, _, _, _, _, q9⟩ := j h0
  obtain ⟨⟨a1, a2, a3, a4, a5, a6⟩, b1, c1, d, kk, E, e, I⟩ := k.2 h0
  have hcnt := iE_cnt e I d.2.1 vl.1 vl.2.2
  obtain ⟨I1, I2, I3, I4⟩ := I
  have hsz : kk ≤ 144 := by unfold sz_ at q9; omega
  have hsu := su_in q2 (f := 0) ⟨by omega, by have := q2.1.1; omega⟩ row
  refine ct_M_wants ⟨by omega, by omega⟩ b1 hrow ?_
  by_cases hw : wn_ (xu_ X) row (xu_ X).2.2.toNat = true
  · rw [if_pos hw]
    refine ⟨fun _ => ?_, fun z => absurd z (by decide)⟩
    have hva : va_ (xu_ X) row = su_ (xu_ X) 0 row := if_pos hw
    have hz2 : ¬ (xh_ X = 0 ∨ row = -1 ∨ va_ (xu_ X) row = -1) := by rw [hva]; omega
    rw [tk2_1 hz2, hva] at h
    have hv : 0 ≤ su_ (xu_ X) 0 row ∧ su_ (xu_ X) 0 row < 10000 := by omega
    obtain ⟨n1, n2, n3, n4⟩ := en_parts hv hk hst
    refine ct_M_valueOf ⟨by omega, by omega⟩ b1 hrow ?_
    refine ct_M_adds ⟨by omega, hx.2⟩ e (by omega) ⟨by omega, by omega⟩ hv hk hst (fun M1 f1 e1 => ?_)
    rw [show (0 : Int) * 4503599627370496 + en_ (su_ (xu_ X) 0 row) key st1 = en_ (su_ (xu_ X) 0 row) key st1 by omega] at e1
    have new : ∀ a, 0 ≤ a → a < kk → E a ≠ en_ (su_ (xu_ X) 0 row) key st1 := by
      intro a a0 a1 ea
      have hA : xA_ X (en_ (su_ (xu_ X) 0 row) key st1) := (I3 _ n1).mp ⟨a, a0, a1, ea⟩
      have := (q4 _ (Or.inl hA)).2.1.2
      rw [n4] at this
      omega
    refine ct_M_sorts ⟨by omega, hx.2⟩ e1 (fun M2 E2 f2 e2 so sg uq => ?_)
    have u0 : uq_ (fun i => if i = kk then en_ (su_ (xu_ X) 0 row) key st1 else E i) (kk + 1) (fun _ => False) := by
      intro a c' a0 a1 c0 c1' ee
      have ee : (if a = kk then en_ (su_ (xu_ X) 0 row) key st1 else E a) = if c' = kk then en_ (su_ (xu_ X) 0 row) key st1 else E c' := ee
      by_cases z1 : a = kk
      · by_cases z2 : c' = kk
        · exact Or.inl (by omega)
        · rw [if_pos z1, if_neg z2] at ee
          exact absurd ee.symm (new c' c0 (by omega))
      · by_cases z2 : c' = kk
        · rw [if_neg z1, if_pos z2] at ee
          exact absurd ee (new a a0 (by omega))
        · rw [if_neg z1, if_neg z2] at ee
          by_cases z3 : a = c'
          · exact Or.inl z3
          · by_cases z4 : a < c'
            · have := I1 a c' a0 z4 (by omega); omega
            · have := I1 c' a c0 (by omega) (by omega); omega
    have uq2 := uq _ u0
    have ss : ss_ E2 0 (kk + 1) := by
      intro a c' a0 ac c1'
      have h1 := so a c' a0 ac c1'
      by_cases z : E2 a = E2 c'
      · rcases uq2 a c' a0 (by omega) (by omega) c1' z with y | y
        · omega
        · exact y.elim
      · omega
    have sg2 : ∀ y, sg_ E2 0 (kk + 1) y ↔ (y = en_ (su_ (xu_ X) 0 row) key st1 ∨ sg_ E 0 kk y) := by
      intro y
      rw [sg]
      constructor
      · rintro ⟨a, a0, a1, a2⟩
        have a2 : (if a = kk then en_ (su_ (xu_ X) 0 row) key st1 else E a) = y := a2
        by_cases z : a = kk
        · rw [if_pos z] at a2; exact Or.inl a2.symm
        · rw [if_neg z] at a2; exact Or.inr ⟨a, a0, by omega, a2⟩
      · rintro (z | ⟨a, a0, a1, a2⟩)
        · exact ⟨kk, e.2.1, by omega, by show (if kk = kk then en_ (su_ (xu_ X) 0 row) key st1 else E kk) = y; rw [if_pos rfl, z]⟩
        · exact ⟨a, a0, by omega, by show (if a = kk then en_ (su_ (xu_ X) 0 row) key st1 else E a) = y; rw [if_neg (by omega)]; exact a2⟩
    have hkk0 := e.2.1
    have f12 : fr_ (fun o c => o = 408 ∧ ((c : Int) = x + 6 ∨ (x + 215 ≤ (c : Int) ∧ (c : Int) < x + 855))) M M2 := fr_trans (fr_mono f1 (fun o c z => ⟨z.1, by have := z.2; omega⟩)) (fr_mono f2 (fun o c z => ⟨z.1, by have := z.2; omega⟩))
    have rd : ∀ c, 0 ≤ c → c < x + 215 → c ≠ x + 6 → nn_ri M2 408 c = nn_ri M 408 c := fun c z0 z1 z2 => fr_ri f12 (fun y => by have := y.2; omega)
    refine h M2 (fr_mono f12 (fun o c z => ⟨z.1, by have := z.2; omega⟩)) (rd _ (by omega) (by omega) (by omega)) (mX_part (A := fun y => y = en_ (su_ (xu_ X) 0 row) key st1 ∨ xA_ X y) k (fun c z0 z1 z2 z3 => rd c (by omega) (by omega) z3) (hM_cg (fun i i0 i1 => rd i (by omega) (by omega) (by omega)) (rd _ (by omega) (by omega) (by omega)) d) ⟨kk + 1, E2, e2, ss, fun a a0 a1 => ?_, fun y hy => ?_, fun r r0 r1 y hy => ?_⟩)
    · rcases (sg2 (E2 a)).mp ⟨a, a0, a1, rfl⟩ with z | ⟨u, u0, u1, u2⟩
      · rw [z]
        have w1 := n1.1
        have w2 := n1.2.1
        have w3 := d.2.1
        have hgoal : en_ (su_ (xu_ X) 0 row) key st1 / 4503599627370496 ≤ xn_ X := by omega
        exact hgoal
      · rw [← u2]; exact I2 u u0 u1
    · rw [sg2, I3 y hy]
    · rw [sg2, I4 r r0 r1 y hy]
      constructor
      · rintro (z | z)
        · have := n1.1
          have := n1.2.1
          have := (ve_V (r := r + 1) hy).1
          rw [z] at this
          omega
        · exact z
      · exact fun z => Or.inr z
  · rw [if_neg hw]
    refine ⟨fun z => absurd rfl z, fun _ => ?_⟩
    have hva : va_ (xu_ X) row = -1 := if_neg hw
    have hz2 : xh_ X = 0 ∨ row = -1 ∨ va_ (xu_ X) row = -1 := Or.inr (Or.inr hva)
    rw [tk2_0 hz2] at h
    exact h M (fr_refl M) rfl k
/-- behind a flush: repairs -/
theorem ct_M_reps {b bd sb si v : Int} {T : ab_T} {M0 M : mm_M} {R : Int → mm_M → Prop} (hb : bk_ b) (hbd : 0 ≤ bd ∧ bd < 900000000) (hsb : sb ≤ 80) (f : fr_ (mw_ b) M0 M) (k : mT_ M b T) (j : jT_ bd sb si T)
    (h : ∀ M', fr_ (mw_ b) M0 M' → nn_ri M' 408 (b + 23) = nn_ri M 408 (b + 23) → mT_ M' b (rp3_ T) → R v M') : nk_M_writes_210 b v 0 M R := by
  have hb' := hb
  unfold bk_ at hb'
  obtain ⟨kt, ⟨k0, k1, k2, k8⟩, kX⟩ := k
  obtain ⟨dd, bn, ⟨c1, c2, c3, c4⟩, d, e⟩ := j
  have mc := fd_c (F := rep2_ (aTs_ T) (aTl_ T)) (s := (aTc_ T, aTX_ T)) (a := 25) (P := wX_ 21 bd) (fun i i0 i1 => jX_w (e i i0 i1) hsb) (fun c X hX => rep2_c (fun z => ⟨(hX z).2.2.1.1, by have := (hX z).2.2.1.2; omega⟩))
  have L : ∀ i : Int, i ≤ 4 → 0 ≤ i → ∀ M1, fr_ (mw_ b) M0 M1 → (∀ c, b ≤ c → c < b + 24 → c ≠ b + 8 → nn_ri M1 408 c = nn_ri M 408 c) → tM_ M1 b (aTm_ T) (aTn_ T) (aTq_ T) → nn_ri M1 408 (b + 8) = (fd_ (rep2_ (aTs_ T) (aTl_ T)) (aTc_ T, aTX_ T) i.toNat).1.2 → mXs_ M1 b (fd_ (rep2_ (aTs_ T) (aTl_ T)) (aTc_ T, aTX_ T) i.toNat).2 → nk_M_writes_210 b v i M1 R := by
    refine lp_up (fun i hi ih i0 M1 f1 ro at' a8 aX => ?_)
    refine ng_M_writes_210 _ _ _ _ _ ⟨fun z => ?_, fun z => ?_⟩
    · have e4 : i.toNat = 4 := by omega
      rw [e4] at a8 aX
      exact h M1 f1 (ro _ (by omega) (by omega) (by omega)) ⟨at', ⟨(ro _ (by omega) (by omega) (by omega)).trans k0, (ro _ (by omega) (by omega) (by omega)).trans k1, fun y => (ro _ (by omega) (by omega) (by omega)).trans (k2 y), a8⟩, aX⟩
    have nx := ih z (by omega)
    rw [show (i + 1).toNat = i.toNat + 1 by omega] at nx
    have ei : ((i.toNat : Nat) : Int) = i := by omega
    have eX : (fd_ (rep2_ (aTs_ T) (aTl_ T)) (aTc_ T, aTX_ T) i.toNat).2 i = aTX_ T i := fd_ge _ _ _ _ (by omega)
    have kx := aX i i0 z
    rw [eX] at kx
    have eF : (fd_ (rep2_ (aTs_ T) (aTl_ T)) (aTc_ T, aTX_ T) (i.toNat + 1)) = ((rep2_ (aTs_ T) (aTl_ T) (fd_ (rep2_ (aTs_ T) (aTl_ T)) (aTc_ T, aTX_ T) i.toNat).1 (aTX_ T i)).1, fun j => if j = i then (rep2_ (aTs_ T) (aTl_ T) (fd_ (rep2_ (aTs_ T) (aTl_ T)) (aTc_ T, aTX_ T) i.toNat).1 (aTX_ T i)).2 else (fd_ (rep2_ (aTs_ T) (aTl_ T)) (aTc_ T, aTX_ T) i.toNat).2 j) := by
      show ((rep2_ (aTs_ T) (aTl_ T) (fd_ (rep2_ (aTs_ T) (aTl_ T)) (aTc_ T, aTX_ T) i.toNat).1 ((fd_ (rep2_ (aTs_ T) (aTl_ T)) (aTc_ T, aTX_ T) i.toNat).2 (i.toNat : Int))).1, fun j => if j = (i.toNat : Int) then (rep2_ (aTs_ T) (aTl_ T) (fd_ (rep2_ (aTs_ T) (aTl_ T)) (aTc_ T, aTX_ T) i.toNat).1 ((fd_ (rep2_ (aTs_ T) (aTl_ T)) (aTc_ T, aTX_ T) i.toNat).2 (i.toNat : Int))).2 else (fd_ (rep2_ (aTs_ T) (aTl_ T)) (aTc_ T, aTX_ T) i.toNat).2 j) = _
      rw [ei, eX]
    rw [eF] at nx
    have mci := mc i.toNat (by omega)
    dsimp only at mci
    generalize (fd_ (rep2_ (aTs_ T) (aTl_ T)) (aTc_ T, aTX_ T) i.toNat) = G at nx a8 aX mci
    have hin := e i i0 z
    have hxi : b + 1784 + 855 * i + 0 = xi_ b i := by unfold xi_; omega
    have hxr : b + 1784 ≤ xi_ b i ∧ xi_ b i + 855 ≤ 32844 := by unfold xi_; omega
    rw [nf_at hb ⟨i0, z⟩, mm_w_id (x := b + 1784 + 855 * i + 0) (by omega), mm_w_id (x := b + 1784 + 855 * i + 6) (by omega), mm_w_id (x := i + 1) (by omega), hxi, show b + 1784 + 855 * i + 6 = xi_ b i + 6 by unfold xi_; omega, kx.1]
    have many : xh_ (aTX_ T i) ≠ 0 → nn_ri M1 408 (xi_ b i + 6) = sz_ (aTX_ T i) := by
      intro hz
      have vl := jX_vl hin hz
      obtain ⟨_, _, _, dh, kk, E, ee, I⟩ := kx.2 hz
      exact ee.1.trans (iE_cnt ee I dh.2.1 vl.1 vl.2.2)
    have hh01 : xh_ (aTX_ T i) = 0 ∨ xh_ (aTX_ T i) = 1 ∨ xh_ (aTX_ T i) = 2 := by
      by_cases y : xh_ (aTX_ T i) = 0
      · exact Or.inl y
      · exact Or.inr (hin y).1.1
    refine ⟨by omega, fun _ => by omega, fun y => ?_, fun y => ?_⟩
    · refine ng_M_writes_255 _ _ _ _ _ ?_
      rw [mm_w_id (x := i + 1) (by omega)]
      have hz2 : xh_ (aTX_ T i) = 0 ∨ sz_ (aTX_ T i) ≤ 96 := by
        by_cases w : xh_ (aTX_ T i) = 0
        · exact Or.inl w
        · rw [many w] at y
          exact Or.inr (y.resolve_left (by omega))
      rw [rep2_0 hz2] at nx
      refine nx M1 f1 ro at' a8 (fun j j0 j1 => ?_)
      show mX_ M1 _ (if j = i then aTX_ T i else _)
      by_cases w : j = i
      · rw [if_pos w, w]; exact kx
      · rw [if_neg w]; exact aX j j0 j1
    · have hz : xh_ (aTX_ T i) ≠ 0 := by omega
      rw [many hz] at y
      have hz2 : ¬ (xh_ (aTX_ T i) = 0 ∨ sz_ (aTX_ T i) ≤ 96) := by omega
      rw [rep2_1 hz2] at nx
      have vl := jX_vl hin hz
      refine ct_M_repX (c := G.1) (st := aTs_ T) hb ⟨i0, z⟩ hz at' kx vl.1 vl.2.2 ((ro b (by omega) (by omega) (by omega)).trans k0) a8 (by omega) (fun M2 f2 g8 gX => ?_)
      have oth : ∀ c, b ≤ c → c < b + 1784 → c ≠ b + 8 → nn_ri M2 408 c = nn_ri M1 408 c := fun c z0 z1 z2 => fr_ri f2 (fun y => by have y2 := y.2; unfold xi_ at y2; omega)
      exact nx M2 (fr_trans f1 (fr_mono f2 (fun o c z => mxi_mw hb ⟨i0, by omega⟩ z))) (fun c z0 z1 z2 => (oth c z0 (by omega) z2).trans (ro c z0 z1 z2)) (tM_mxi hb ⟨i0, by omega⟩ f2 at') g8 (mXs_upd hb ⟨i0, by omega⟩ f2 aX gX)
  exact L 0 (by omega) (Int.le_refl _) M f (fun _ _ _ _ => rfl) kt k8 kX
theorem tM_put {M M' : mm_M} {b n key st1 row : Int} {mem : ab_V} {q : Int → ab_R} (hb : bk_ b) (hk : 0 ≤ key ∧ key < 32) (hst : 0 < st1) (t : tM_ M b mem n q) (h1 : nn_ri M' 408 (b + 24 + key) = st1) (h2 : nn_ri M' 408 (b + 56 + key) = row) (ho : ∀ c, b + 3 ≤ c → c < b + 1784 → c ≠ b + 24 + key → c ≠ b + 56 + key → nn_ri M' 408 c = nn_ri M 408 c) : tM_ M' b (upd_ mem key.toNat (some (st1, row))) n q := by
  have hb' := hb
  unfold bk_ at hb'
  obtain ⟨t1, t2, ⟨t3, t4, t5⟩, t6⟩ := t
  refine ⟨?_, fun k k0 k1 => ?_, ⟨(ho _ (by omega) (by omega) (by omega) (by omega)).trans t3, t4, t5⟩, fun r r0 r1 => rM_cg (fun j j0 j1 => ho _ (by omega) (by omega) (by omega) (by omega)) (t6 r r0 r1)⟩
  · funext k
    unfold upd_
    by_cases z : k = key.toNat
    · rw [if_pos z]
      unfold mv_
      rw [z, show ((key.toNat : Nat) : Int) = key by omega, h1, show b + 24 + 32 + key = b + 56 + key by omega, h2, if_pos (by omega)]
    · rw [if_neg z, ← t1]
      unfold mv_
      by_cases y : k < 32
      · rw [ho (b + 24 + (k : Int)) (by omega) (by omega) (by omega) (by omega), ho (b + 24 + 32 + (k : Int)) (by omega) (by omega) (by omega) (by omega)]
      · rw [if_neg (fun w => y w.1), if_neg (fun w => y w.1)]
  · by_cases z : k = key
    · rw [z, h1]; omega
    · rw [ho _ (by omega) (by omega) (by omega) (by omega)]
      exact t2 k k0 k1
theorem ct_M_wr {b bd room fan key row : Int} {T : ab_T} {M : mm_M} {R : Int → mm_M → Prop} (hb : bk_ b) (hk : 0 ≤ key ∧ key < 32) (hrow : row = -1 ∨ (0 ≤ row ∧ row < 65536)) (hfan : 2 ≤ fan ∧ fan ≤ 4) (hroom : room ≤ 12) (hf : nn_ri M 408 (b + 4) = fan) (hr : nn_ri M 408 (b + 3) = room) (hbd : 0 ≤ bd ∧ bd < 800000000) (hmg : 0 ≤ nn_ri M 408 (b + 23) ∧ nn_ri M 408 (b + 23) < 800000000) (k : mT_ M b T) (j : jT_ bd 64 11 T)
    (h : ∀ M', fr_ (mw_ b) M M' → nn_ri M 408 (b + 23) ≤ nn_ri M' 408 (b + 23) → nn_ri M' 408 (b + 23) ≤ nn_ri M 408 (b + 23) + 25 → mT_ M' b (wr_ room fan key row T) → R (aTs_ T + 1) M') : nr_M_writes b key row M R := by
  have hb' := hb
  unfold bk_ at hb'
  have j1 := jT_tk3 hk hrow (by omega) j
  obtain ⟨kt, ⟨k0, k1, k2, k8⟩, kX⟩ := k
  obtain ⟨dd, bn, ⟨c1, c2, c3, c4⟩, d, e⟩ := j
  -- the loop over the indexes
  have L : ∀ i : Int, i ≤ 4 → 0 ≤ i → ∀ M2, fr_ (mw_ b) M M2 → (∀ c, b + 3 ≤ c → c < b + 24 → c ≠ b + 8 → nn_ri M2 408 c = nn_ri M 408 c) → nn_ri M2 408 b = aTs_ T + 1 → nn_ri M2 408 (b + 1) = aTi_ T + 1 → nn_ri M2 408 (b + 2) = aTs_ T - aTi_ T + 1 → nn_ri M2 408 (b + 8) = (aTc_ T).2 → tM_ M2 b (aTm_ (tk3_ key row T)) (aTn_ T) (aTq_ T) → mXs_ M2 b (fd_ (tk2_ key row (aTs_ T + 1)) (aTc_ T, aTX_ T) i.toNat).2 → nk_M_writes_109 b key row (aTs_ T + 1) i M2 R := by
    refine lp_up (fun i hi ih i0 M2 f2 ro a0 a1 a2 a8 at' aX => ?_)
    refine ng_M_writes_109 _ _ _ _ _ _ _ ⟨fun z => ?_, fun z => ?_⟩
    · have e4 : i.toNat = 4 := by omega
      rw [e4] at aX
      have kc : mT_ M2 b (tk3_ key row T) := ⟨at', ⟨a0, a1, fun _ => by rw [a2]; show aTs_ T - aTi_ T + 1 = aTs_ T + 1 - (aTi_ T + 1) + 1; omega, a8⟩, aX⟩
      have g23 := ro (b + 23) (by omega) (by omega) (by omega)
      rw [mm_w_id (x := b + 1) (by omega), mm_w_id (x := b + 3) (by omega), a1, ro (b + 3) (by omega) (by omega) (by omega), hr]
      refine ⟨by omega, by omega, fun y => ?_, fun y => ?_⟩
      · have e1 : wr1_ room fan (tk3_ key row T) = tk3_ key row T := if_pos y
        refine ct_M_reps (bd := bd + 1) (sb := 65) (si := 12) hb (by omega) (by omega) f2 kc j1 (fun M3 f3 g3 k3 => ?_)
        rw [g23] at g3
        refine h M3 f3 (by omega) (by omega) ?_
        unfold wr_
        rw [e1]
        exact k3
      · have e1 : wr1_ room fan (tk3_ key row T) = fl2_ fan (tk3_ key row T) := if_neg (by show ¬ (aTi_ T + 1 < room); omega)
        refine ct_M_flush (bd := bd + 1) (sb := 65) (si := 12) hb hfan ((ro _ (by omega) (by omega) (by omega)).trans hf) (by omega) (by omega) (by rw [g23]; omega) kc j1 (fun y2 => ?_) (fun _ M3 f3 g3 k3 => ?_)
        · have y2 : aTi_ T + 1 = 0 := y2
          omega
        · have hmt := (fl_bds hfan.1 (by omega) j1).2.2.2
          refine ct_M_reps (bd := bd + 1 + 200) (sb := 65) (si := 0) hb (by omega) (by omega) (fr_trans f2 f3) k3 (jT_fl2 hfan.1 (by omega) (by omega) j1) (fun M4 f4 g4 k4 => ?_)
          rw [g3, g23] at g4
          refine h M4 f4 (by rw [g4]; omega) (by rw [g4]; omega) ?_
          unfold wr_
          rw [e1]
          exact k4
    have nx := ih z (by omega)
    rw [show (i + 1).toNat = i.toNat + 1 by omega] at nx
    have ei : ((i.toNat : Nat) : Int) = i := by omega
    have eX : (fd_ (tk2_ key row (aTs_ T + 1)) (aTc_ T, aTX_ T) i.toNat).2 i = aTX_ T i := fd_ge _ _ _ _ (by omega)
    have kx := aX i i0 z
    rw [eX] at kx
    have eF : (fd_ (tk2_ key row (aTs_ T + 1)) (aTc_ T, aTX_ T) (i.toNat + 1)).2 = fun j => if j = i then (tk2_ key row (aTs_ T + 1) (fd_ (tk2_ key row (aTs_ T + 1)) (aTc_ T, aTX_ T) i.toNat).1 (aTX_ T i)).2 else (fd_ (tk2_ key row (aTs_ T + 1)) (aTc_ T, aTX_ T) i.toNat).2 j := by
      show (fun j => if j = (i.toNat : Int) then (tk2_ key row (aTs_ T + 1) (fd_ (tk2_ key row (aTs_ T + 1)) (aTc_ T, aTX_ T) i.toNat).1 ((fd_ (tk2_ key row (aTs_ T + 1)) (aTc_ T, aTX_ T) i.toNat).2 (i.toNat : Int))).2 else (fd_ (tk2_ key row (aTs_ T + 1)) (aTc_ T, aTX_ T) i.toNat).2 j) = _
      rw [ei, eX]
    rw [eF] at nx
    generalize (fd_ (tk2_ key row (aTs_ T + 1)) (aTc_ T, aTX_ T) i.toNat) = G at nx aX
    have hin := e i i0 z
    have hxi : b + 1784 + 855 * i + 0 = xi_ b i := by unfold xi_; omega
    have hxa : b + 1784 + 855 * i = xi_ b i := by unfold xi_; omega
    have hxr : b + 1784 ≤ xi_ b i ∧ xi_ b i + 855 ≤ 32844 := by unfold xi_; omega
    rw [nf_at hb ⟨i0, z⟩, mm_w_id (x := b + 1784 + 855 * i + 0) (by omega), mm_w_id (x := i + 1) (by omega), hxi, hxa, kx.1]
    have stay : (xh_ (aTX_ T i) = 0 ∨ row = -1) → nk_M_writes_109 b key row (aTs_ T + 1) (i + 1) M2 R := by
      intro y
      have hz2 : xh_ (aTX_ T i) = 0 ∨ row = -1 ∨ va_ (xu_ (aTX_ T i)) row = -1 := by
        rcases y with y | y
        · exact Or.inl y
        · exact Or.inr (Or.inl y)
      rw [tk2_0 hz2] at nx
      refine nx M2 f2 ro a0 a1 a2 a8 at' (fun j j0 j1 => ?_)
      show mX_ M2 _ (if j = i then aTX_ T i else _)
      by_cases w : j = i
      · rw [if_pos w, w]; exact kx
      · rw [if_neg w]; exact aX j j0 j1
    refine ⟨by omega, stay, fun y => ?_⟩
    have hrw := hrow.resolve_left y.2
    refine ct_M_takX (b := b) (c := G.1) (since := aTi_ T) (lvb := bd) (sb := 64) (nb := 19) (mem := aTm_ T) (lat := aTl_ T) (X := aTX_ T i) hb ⟨i0, z⟩ y.1 hk hrw (by omega) kx (by rw [show aTs_ T + 1 - 1 = aTs_ T by omega]; exact hin) (by omega) (fun M3 f3 g8 gX => ?_)
    have oth : ∀ c, b ≤ c → c < b + 1784 → c ≠ b + 8 → nn_ri M3 408 c = nn_ri M2 408 c := fun c z0 z1 z2 => fr_ri f3 (fun y => by have y2 := y.2; unfold xi_ at y2; omega)
    exact nx M3 (fr_trans f2 (fr_mono f3 (fun o c z => mxi_mw hb ⟨i0, by omega⟩ z))) (fun c z0 z1 z2 => (oth c (by omega) (by omega) z2).trans (ro c z0 z1 z2)) ((oth _ (by omega) (by omega) (by omega)).trans a0) ((oth _ (by omega) (by omega) (by omega)).trans a1) ((oth _ (by omega) (by omega) (by omega)).trans a2) (g8.trans a8) (tM_mxi hb ⟨i0, by omega⟩ f3 at') (mXs_upd hb ⟨i0, by omega⟩ f3 aX gX)
  -- the head
  have head : ∀ M11, M11 = nn_ui M 408 b (aTs_ T + 1) → ∀ M49, M49 = nn_ui M11 408 (b + 2) (aTs_ T - aTi_ T + 1) → ∀ M61, M61 = nn_ui M49 408 (b + 1) (aTi_ T + 1) → ∀ M80, M80 = nn_ui M61 408 (b + 24 + key) (aTs_ T + 1) → ∀ M95, M95 = nn_ui M80 408 (b + 24 + 32 + key) row → nk_M_writes_109 b key row (aTs_ T + 1) 0 M95 R := by
    intro M11 e11 M49 e49 M61 e61 M80 e80 M95 e95
    have f95 : fr_ (mw_ b) M M95 := by
      rw [e95, e80, e61, e49, e11]
      exact fr_ui (fr_ui (fr_ui (fr_ui (fr_ui (fr_refl M) ⟨rfl, by omega⟩) ⟨rfl, by omega⟩) ⟨rfl, by omega⟩) ⟨rfl, by omega⟩) ⟨rfl, by omega⟩
    have rd : ∀ c, 0 ≤ c → c ≠ b → c ≠ b + 2 → c ≠ b + 1 → c ≠ b + 24 + key → c ≠ b + 56 + key → nn_ri M95 408 c = nn_ri M 408 c := by
      intro c z0 z1 z2 z3 z4 z5
      rw [e95, rd_ii, if_neg (by omega), e80, rd_ii, if_neg (by omega), e61, rd_ii, if_neg (by omega), e49, rd_ii, if_neg (by omega), e11, rd_ii, if_neg (by omega)]
    have x0 : nn_ri M95 408 b = aTs_ T + 1 := by rw [e95, rd_ii, if_neg (by omega), e80, rd_ii, if_neg (by omega), e61, rd_ii, if_neg (by omega), e49, rd_ii, if_neg (by omega), e11, rd_ii, if_pos ⟨rfl, rfl⟩]
    have x1 : nn_ri M95 408 (b + 1) = aTi_ T + 1 := by rw [e95, rd_ii, if_neg (by omega), e80, rd_ii, if_neg (by omega), e61, rd_ii, if_pos ⟨rfl, rfl⟩]
    have x2 : nn_ri M95 408 (b + 2) = aTs_ T - aTi_ T + 1 := by rw [e95, rd_ii, if_neg (by omega), e80, rd_ii, if_neg (by omega), e61, rd_ii, if_neg (by omega), e49, rd_ii, if_pos ⟨rfl, rfl⟩]
    have x3 : nn_ri M95 408 (b + 24 + key) = aTs_ T + 1 := by rw [e95, rd_ii, if_neg (by omega), e80, rd_ii, if_pos ⟨rfl, rfl⟩]
    have x4 : nn_ri M95 408 (b + 56 + key) = row := by rw [e95, rd_ii, if_pos ⟨rfl, by congr 1; omega⟩]
    refine L 0 (by omega) (Int.le_refl _) M95 f95 (fun c z0 z1 z2 => rd c (by omega) (by omega) (by omega) (by omega) (by omega) (by omega)) x0 x1 x2 ((rd _ (by omega) (by omega) (by omega) (by omega) (by omega) (by omega)).trans k8) (tM_put hb hk (by omega) kt x3 x4 (fun c z0 z1 z2 z3 => rd c (by omega) (by omega) (by omega) (by omega) z2 z3)) (fun i i0 i1 => mX_cg (fun c z0 z1 => ?_) (kX i i0 i1))
    unfold xi_ at z0 z1
    exact rd c (by omega) (by omega) (by omega) (by omega) (by omega) (by omega)
  refine ng_M_writes _ _ _ _ _ ?_
  rw [mm_w_id (x := b + 0) (by omega), show b + 0 = b by omega, k0, mm_w_id (x := aTs_ T + 1) (by omega), mm_w_id (x := b + 1) (by omega), mm_w_id (x := b + 2) (by omega), mm_w_id (x := b + 24) (by omega), mm_w_id (x := b + 24 + key) (by omega), mm_w_id (x := b + 24 + 32) (by omega), mm_w_id (x := b + 24 + 32 + key) (by omega)]
  refine ⟨by omega, by omega, ?_⟩
  intro M11 e11
  have y1 : nn_ri M11 408 (b + 1) = aTi_ T := by rw [e11, rd_ii, if_neg (by omega)]; exact k1
  have y0 : nn_ri M11 408 b = aTs_ T + 1 := by rw [e11, rd_ii, if_pos ⟨rfl, rfl⟩]
  rw [y1, y0]
  refine ⟨by omega, fun z => ?_, fun z => ?_⟩
  · have y2 : nn_ri M11 408 (b + 2) = aTs_ T - aTi_ T + 1 := by rw [e11, rd_ii, if_neg (by omega)]; exact k2 z
    rw [y2]
    refine ⟨by omega, by omega, ?_⟩
    intro M49 e49
    have w1 : nn_ri M49 408 (b + 1) = aTi_ T := by rw [e49, rd_ii, if_neg (by omega)]; exact y1
    rw [w1, mm_w_id (x := aTi_ T + 1) (by omega)]
    refine ⟨by omega, by omega, ?_⟩
    intro M61 e61
    have w0 : nn_ri M61 408 b = aTs_ T + 1 := by rw [e61, rd_ii, if_neg (by omega), e49, rd_ii, if_neg (by omega)]; exact y0
    rw [w0]
    refine ⟨by omega, by omega, ?_⟩
    intro M80 e80
    refine ⟨by omega, ?_⟩
    intro M95 e95
    have v0 : nn_ri M95 408 b = aTs_ T + 1 := by rw [e95, rd_ii, if_neg (by omega), e80, rd_ii, if_neg (by omega)]; exact w0
    rw [v0]
    refine ⟨by omega, ?_⟩
    intro x4 ex4
    rw [ex4]
    exact head M11 e11 M49 e49 M61 e61 M80 e80 M95 e95
  · have y2 : aTs_ T + 1 = aTs_ T - aTi_ T + 1 := by omega
    refine ⟨by omega, by omega, ?_⟩
    intro M49 e49
    have w1 : nn_ri M49 408 (b + 1) = aTi_ T := by rw [e49, rd_ii, if_neg (by omega)]; exact y1
    rw [w1, mm_w_id (x := aTi_ T + 1) (by omega)]
    refine ⟨by omega, by omega, ?_⟩
    intro M61 e61
    have w0 : nn_ri M61 408 b = aTs_ T + 1 := by rw [e61, rd_ii, if_neg (by omega), e49, rd_ii, if_neg (by omega)]; exact y0
    rw [w0]
    refine ⟨by omega, by omega, ?_⟩
    intro M80 e80
    refine ⟨by omega, ?_⟩
    intro M95 e95
    have v0 : nn_ri M95 408 b = aTs_ T + 1 := by rw [e95, rd_ii, if_neg (by omega), e80, rd_ii, if_neg (by omega)]; exact w0
    rw [v0]
    refine ⟨by omega, ?_⟩
    intro x4 ex4
    rw [ex4]
    rw [y2] at e49
    exact head M11 e11 M49 e49 M61 e61 M80 e80 M95 e95
