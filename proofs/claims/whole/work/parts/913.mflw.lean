/-! the Model: flushes, whole -/
theorem mxi_mw {b i : Int} (hb : bk_ b) (hi : 0 ≤ i ∧ i < 4) {o c : Nat} (z : mxi_ b (xi_ b i) o c) : mw_ b o c := by
  have hb' := hb
  unfold bk_ at hb'
  have z2 := z.2
  unfold xi_ at z2
  exact ⟨z.1, by omega⟩
theorem tM_mxi {M M' : mm_M} {b i n : Int} {mem : ab_V} {q : Int → ab_R} (hb : bk_ b) (hi : 0 ≤ i ∧ i < 4) (f : fr_ (mxi_ b (xi_ b i)) M M') (t : tM_ M b mem n q) : tM_ M' b mem n q := by
  have hb' := hb
  unfold bk_ at hb'
  have := t.2.2.1.2.2
  exact tM_fr f hb (fun c' hc z2 => by have z3 := z2.2; unfold xi_ at z3; omega) t
theorem fl_bds {bd sb si fan : Int} {T : ab_T} (hfan : 2 ≤ fan) (hbd : bd < 1000000000) (k : jT_ bd sb si T) : (∀ k : Nat, k ≤ 4 → (aTc_ T).2 ≤ (fd_ (lay_ (aTs_ T) (aTm_ T)) (aTc_ T, aTX_ T) k).1.2 ∧ (fd_ (lay_ (aTs_ T) (aTm_ T)) (aTc_ T, aTX_ T) k).1.2 ≤ (aTc_ T).2 + 4) ∧ lb_ (flS_ (aTs_ T) (aTi_ T) (aTm_ T) (aTn_ T) (aTq_ T) (aTc_ T) (aTX_ T)) bd ∧ ((flL_ (aTs_ T) (aTm_ T) (aTc_ T) (aTX_ T)).1.2 + 1 ≤ (flT_ (aTs_ T) (aTi_ T) fan (aTm_ T) (aTn_ T) (aTq_ T) (aTc_ T) (aTX_ T)).2.2.1 ∧ (flT_ (aTs_ T) (aTi_ T) fan (aTm_ T) (aTn_ T) (aTq_ T) (aTc_ T) (aTX_ T)).2.2.1 ≤ (flL_ (aTs_ T) (aTm_ T) (aTc_ T) (aTX_ T)).1.2 + 1 + 25) ∧ 0 ≤ (flT_ (aTs_ T) (aTi_ T) fan (aTm_ T) (aTn_ T) (aTq_ T) (aTc_ T) (aTX_ T)).1 ∧ (flT_ (aTs_ T) (aTi_ T) fan (aTm_ T) (aTn_ T) (aTq_ T) (aTc_ T) (aTX_ T)).1 ≤ 25 := by
  obtain ⟨dd, b, ⟨c1, c2, c3, c4⟩, d, e⟩ := k
  have lc := fd_c (F := lay_ (aTs_ T) (aTm_ T)) (s := (aTc_ T, aTX_ T)) (a := 1) (P := fun _ => True) (fun _ _ _ => trivial) (fun c X _ => lay_c)
  have hlb := lb_sh (x := ((flL_ (aTs_ T) (aTm_ T) (aTc_ T) (aTX_ T)).1.1 + 1, (flL_ (aTs_ T) (aTm_ T) (aTc_ T) (aTX_ T)).1.2 + 1, 0, aTs_ T - aTi_ T + 1, aTs_ T, aTm_ T)) 0 ((flL_ (aTs_ T) (aTm_ T) (aTc_ T) (aTX_ T)).1.1 + 1) ((flL_ (aTs_ T) (aTm_ T) (aTc_ T) (aTX_ T)).1.2 + 1) (aTl_ T) rfl (by omega : (0 : Int) ≤ bd) d
  have tc := tmf_bd (fan := fan) (sure := sur_ (flL_ (aTs_ T) (aTm_ T) (aTc_ T) (aTX_ T)).2) (s := flS_ (aTs_ T) (aTi_ T) (aTm_ T) (aTn_ T) (aTq_ T) (aTc_ T) (aTX_ T)) (b := bd) hfan (by omega) ⟨show 0 ≤ aTn_ T + 1 by omega, show aTn_ T + 1 ≤ 24 by omega⟩ hlb
  obtain ⟨_, _, tc0, _, tc2, _⟩ := tc
  refine ⟨fun k hk => ?_, hlb, tc2, ?_⟩
  · have h1 := lc k hk
    dsimp only at h1
    omega
  · have tc0 : (0 : Int) ≤ (flT_ (aTs_ T) (aTi_ T) fan (aTm_ T) (aTn_ T) (aTq_ T) (aTc_ T) (aTX_ T)).1 ∧ (flT_ (aTs_ T) (aTi_ T) fan (aTm_ T) (aTn_ T) (aTq_ T) (aTc_ T) (aTX_ T)).1 ≤ 0 + 25 := tc0
    omega
theorem ct_M_flush {b bd sb si fan : Int} {T : ab_T} {M : mm_M} {R : Int → mm_M → Prop} (hb : bk_ b) (hfan : 2 ≤ fan ∧ fan ≤ 4) (hf : nn_ri M 408 (b + 4) = fan) (hbd : 0 ≤ bd ∧ bd < 900000000) (hsb : sb ≤ 80) (hmg : 0 ≤ nn_ri M 408 (b + 23) ∧ nn_ri M 408 (b + 23) < 900000000) (k : mT_ M b T) (j : jT_ bd sb si T)
    (h0 : aTi_ T = 0 → R 0 M) (h : aTi_ T ≠ 0 → ∀ M', fr_ (mw_ b) M M' → nn_ri M' 408 (b + 23) = nn_ri M 408 (b + 23) + (flT_ (aTs_ T) (aTi_ T) fan (aTm_ T) (aTn_ T) (aTq_ T) (aTc_ T) (aTX_ T)).1 → mT_ M' b (fl2_ fan T) → R 1 M') : nr_M_flushes b M R := by
  have hb' := hb
  unfold bk_ at hb'
  obtain ⟨kt, ⟨k0, k1, k2, k8⟩, kX⟩ := k
  obtain ⟨bd1, bd2, bd3, bd4⟩ := fl_bds hfan.1 (by omega) j
  obtain ⟨w1, w2⟩ := fl_w hfan.1 (by omega) hsb j
  have ff := fl_facts hfan.1 (by omega) j hsb
  obtain ⟨dd, jn, ⟨c1, c2, c3, c4⟩, d, e⟩ := j
  refine ng_M_flushes _ _ _ ?_
  rw [mm_w_id (x := b + 1) (by omega), k1]
  refine ⟨by omega, fun hz => ?_, h0⟩
  have h := h hz
  have k2 := k2 hz
  -- merges of the indexes
  have L3 : ∀ i : Int, i ≤ 4 → 0 ≤ i → ∀ M3, fr_ (mw_ b) M M3 → nn_ri M3 408 (b + 23) = nn_ri M 408 (b + 23) + (flT_ (aTs_ T) (aTi_ T) fan (aTm_ T) (aTn_ T) (aTq_ T) (aTc_ T) (aTX_ T)).1 → nn_ri M3 408 (b + 1) = 0 → nn_ri M3 408 b = aTs_ T → tM_ M3 b nov_ (aTn_ (fl2_ fan T)) (aTq_ (fl2_ fan T)) → nn_ri M3 408 (b + 8) = (fd_ (mrg_ fan (aTs_ T) (aTl_ (fl2_ fan T))) (((flT_ (aTs_ T) (aTi_ T) fan (aTm_ T) (aTn_ T) (aTq_ T) (aTc_ T) (aTX_ T)).2.1, (flT_ (aTs_ T) (aTi_ T) fan (aTm_ T) (aTn_ T) (aTq_ T) (aTc_ T) (aTX_ T)).2.2.1), (flL_ (aTs_ T) (aTm_ T) (aTc_ T) (aTX_ T)).2) i.toNat).1.2 → mXs_ M3 b (fd_ (mrg_ fan (aTs_ T) (aTl_ (fl2_ fan T))) (((flT_ (aTs_ T) (aTi_ T) fan (aTm_ T) (aTn_ T) (aTq_ T) (aTc_ T) (aTX_ T)).2.1, (flT_ (aTs_ T) (aTi_ T) fan (aTm_ T) (aTn_ T) (aTq_ T) (aTc_ T) (aTX_ T)).2.2.1), (flL_ (aTs_ T) (aTm_ T) (aTc_ T) (aTX_ T)).2) i.toNat).2 → nk_M_flushes_220 b i M3 R := by
    have mc := fd_c (F := mrg_ fan (aTs_ T) (aTl_ (fl2_ fan T))) (s := (((flT_ (aTs_ T) (aTi_ T) fan (aTm_ T) (aTn_ T) (aTq_ T) (aTc_ T) (aTX_ T)).2.1, (flT_ (aTs_ T) (aTi_ T) fan (aTm_ T) (aTn_ T) (aTq_ T) (aTc_ T) (aTX_ T)).2.2.1), (flL_ (aTs_ T) (aTm_ T) (aTc_ T) (aTX_ T)).2)) (a := 25) (P := wX_ 22 bd) (fun i i0 i1 => jX_w (w2 i i0 i1) hsb) (fun c X hX => mrg_c (bd := bd) hfan.1 (by omega) (fun z => ⟨(hX z).2.2.1.1, by have := (hX z).2.2.1.2; omega⟩) (fun z => (hX z).2.2.2.2))
    have hG : (flG_ (aTs_ T) (aTi_ T) fan (aTm_ T) (aTn_ T) (aTq_ T) (aTc_ T) (aTX_ T)) = fd_ (mrg_ fan (aTs_ T) (aTl_ (fl2_ fan T))) (((flT_ (aTs_ T) (aTi_ T) fan (aTm_ T) (aTn_ T) (aTq_ T) (aTc_ T) (aTX_ T)).2.1, (flT_ (aTs_ T) (aTi_ T) fan (aTm_ T) (aTn_ T) (aTq_ T) (aTc_ T) (aTX_ T)).2.2.1), (flL_ (aTs_ T) (aTm_ T) (aTc_ T) (aTX_ T)).2) 4 := rfl
    have hI : (((flT_ (aTs_ T) (aTi_ T) fan (aTm_ T) (aTn_ T) (aTq_ T) (aTc_ T) (aTX_ T)).2.1, (flT_ (aTs_ T) (aTi_ T) fan (aTm_ T) (aTn_ T) (aTq_ T) (aTc_ T) (aTX_ T)).2.2.1), (flL_ (aTs_ T) (aTm_ T) (aTc_ T) (aTX_ T)).2).1.2 = (flT_ (aTs_ T) (aTi_ T) fan (aTm_ T) (aTn_ T) (aTq_ T) (aTc_ T) (aTX_ T)).2.2.1 := rfl
    have hL : (((flT_ (aTs_ T) (aTi_ T) fan (aTm_ T) (aTn_ T) (aTq_ T) (aTc_ T) (aTX_ T)).2.1, (flT_ (aTs_ T) (aTi_ T) fan (aTm_ T) (aTn_ T) (aTq_ T) (aTc_ T) (aTX_ T)).2.2.1), (flL_ (aTs_ T) (aTm_ T) (aTc_ T) (aTX_ T)).2).2 = (flL_ (aTs_ T) (aTm_ T) (aTc_ T) (aTX_ T)).2 := rfl
    generalize (((flT_ (aTs_ T) (aTi_ T) fan (aTm_ T) (aTn_ T) (aTq_ T) (aTc_ T) (aTX_ T)).2.1, (flT_ (aTs_ T) (aTi_ T) fan (aTm_ T) (aTn_ T) (aTq_ T) (aTc_ T) (aTX_ T)).2.2.1), (flL_ (aTs_ T) (aTm_ T) (aTc_ T) (aTX_ T)).2) = G0 at mc hG hI hL
    refine lp_up (fun i hi ih i0 M3 f3 a23 a1 a0 at' a8 aX => ?_)
    refine ng_M_flushes_220 _ _ _ _ ⟨fun c => ?_, fun c => ?_⟩
    · have e4 : i.toNat = 4 := by omega
      rw [e4] at a8 aX
      refine h M3 f3 a23 ⟨at', ⟨a0, a1, fun y => absurd rfl y, ?_⟩, ?_⟩
      · show nn_ri M3 408 (b + 8) = (flG_ (aTs_ T) (aTi_ T) fan (aTm_ T) (aTn_ T) (aTq_ T) (aTc_ T) (aTX_ T)).1.2
        rw [hG]; exact a8
      · show mXs_ M3 b (flG_ (aTs_ T) (aTi_ T) fan (aTm_ T) (aTn_ T) (aTq_ T) (aTc_ T) (aTX_ T)).2
        rw [hG]; exact aX
    have nx := ih c (by omega)
    rw [show (i + 1).toNat = i.toNat + 1 by omega] at nx
    have ei : ((i.toNat : Nat) : Int) = i := by omega
    have eX : (fd_ (mrg_ fan (aTs_ T) (aTl_ (fl2_ fan T))) G0 i.toNat).2 i = G0.2 i := fd_ge _ _ _ _ (by omega)
    have kx := aX i i0 c
    rw [eX] at kx
    have eF : (fd_ (mrg_ fan (aTs_ T) (aTl_ (fl2_ fan T))) G0 (i.toNat + 1)) = ((mrg_ fan (aTs_ T) (aTl_ (fl2_ fan T)) (fd_ (mrg_ fan (aTs_ T) (aTl_ (fl2_ fan T))) G0 i.toNat).1 (G0.2 i)).1, fun j => if j = i then (mrg_ fan (aTs_ T) (aTl_ (fl2_ fan T)) (fd_ (mrg_ fan (aTs_ T) (aTl_ (fl2_ fan T))) G0 i.toNat).1 (G0.2 i)).2 else (fd_ (mrg_ fan (aTs_ T) (aTl_ (fl2_ fan T))) G0 i.toNat).2 j) := by
      show ((mrg_ fan (aTs_ T) (aTl_ (fl2_ fan T)) (fd_ (mrg_ fan (aTs_ T) (aTl_ (fl2_ fan T))) G0 i.toNat).1 ((fd_ (mrg_ fan (aTs_ T) (aTl_ (fl2_ fan T))) G0 i.toNat).2 (i.toNat : Int))).1, fun j => if j = (i.toNat : Int) then (mrg_ fan (aTs_ T) (aTl_ (fl2_ fan T)) (fd_ (mrg_ fan (aTs_ T) (aTl_ (fl2_ fan T))) G0 i.toNat).1 ((fd_ (mrg_ fan (aTs_ T) (aTl_ (fl2_ fan T))) G0 i.toNat).2 (i.toNat : Int))).2 else (fd_ (mrg_ fan (aTs_ T) (aTl_ (fl2_ fan T))) G0 i.toNat).2 j) = _
      rw [ei, eX]
    rw [eF] at nx
    have mci := mc i.toNat (by omega)
    have hin : jX_ (aTs_ T) 0 bd sb 20 nov_ (aTl_ (fl2_ fan T)) (G0.2 i) := by rw [hL]; exact w2 i i0 c
    have bb4 := bd1 4 (Nat.le_refl _)
    have bb5 : (flL_ (aTs_ T) (aTm_ T) (aTc_ T) (aTX_ T)).1.2 = (fd_ (lay_ (aTs_ T) (aTm_ T)) (aTc_ T, aTX_ T) 4).1.2 := rfl
    rw [nf_at hb ⟨i0, c⟩, mm_w_id (x := b + 1784 + 855 * i + 0) (by omega), mm_w_id (x := i + 1) (by omega)]
    have hxi : b + 1784 + 855 * i + 0 = xi_ b i := by unfold xi_; omega
    rw [hxi, kx.1]
    generalize (fd_ (mrg_ fan (aTs_ T) (aTl_ (fl2_ fan T))) G0 i.toNat) = G at nx a8 aX mci
    refine ⟨fun _ => by unfold xi_; omega, fun y => ?_, fun y => ?_⟩
    · have hz2 : xh_ (G0.2 i) ≠ 0 := by
        rcases y with y | y
        · omega
        · omega
      refine ct_M_mrgX (c := G.1) hb ⟨i0, c⟩ hz2 hfan ((fr_ri f3 (fun y => by have := y.2; omega)).trans hf) at' kx hin ⟨a0, c1.1⟩ ⟨hbd.1, by omega⟩ a8 (by omega) (fun M4 f4 g8 gX => ?_)
      have oth : ∀ c, b ≤ c → c < b + 1784 → c ≠ b + 8 → nn_ri M4 408 c = nn_ri M3 408 c := fun c z0 z1 z2 => fr_ri f4 (fun y => by have y2 := y.2; unfold xi_ at y2; omega)
      refine nx M4 (fr_trans f3 (fr_mono f4 (fun o c z => mxi_mw hb ⟨i0, by omega⟩ z))) ((oth _ (by omega) (by omega) (by omega)).trans a23) ((oth _ (by omega) (by omega) (by omega)).trans a1) ((oth _ (by omega) (by omega) (by omega)).trans a0) (tM_mxi hb ⟨i0, by omega⟩ f4 at') g8 (mXs_upd hb ⟨i0, by omega⟩ f4 aX gX)
    · have hz2 : xh_ (G0.2 i) = 0 := by
        by_cases z : xh_ (G0.2 i) = 0
        · exact z
        · have := (hin z).1.1; omega
      rw [mrg_0 hz2] at nx
      refine nx M3 f3 a23 a1 a0 at' a8 (fun j j0 j1 => ?_)
      show mX_ M3 _ (if j = i then G0.2 i else _)
      by_cases y : j = i
      · rw [if_pos y, y]; exact kx
      · rw [if_neg y]; exact aX j j0 j1
  -- the indexes are laid down
  have L : ∀ i : Int, i ≤ 4 → 0 ≤ i → ∀ M1, fr_ (mw_ b) M M1 → (∀ c, b ≤ c → c < b + 1784 → c ≠ b + 8 → nn_ri M1 408 c = nn_ri M 408 c) → nn_ri M1 408 (b + 8) = (fd_ (lay_ (aTs_ T) (aTm_ T)) (aTc_ T, aTX_ T) i.toNat).1.2 → mXs_ M1 b (fd_ (lay_ (aTs_ T) (aTm_ T)) (aTc_ T, aTX_ T) i.toNat).2 → tM_ M1 b (aTm_ T) (aTn_ T) (aTq_ T) → nk_M_flushes_15 b i M1 R := by
    refine lp_up (fun i hi ih i0 M1 f1 ro a8 aX at' => ?_)
    refine ng_M_flushes_15 _ _ _ _ ⟨fun c => ?_, fun c => ?_⟩
    · have e4 : i.toNat = 4 := by omega
      rw [e4] at a8 aX
      have bb4 := bd1 4 (Nat.le_refl _)
      rw [mm_w_id (x := b + 5) (by omega), at'.2.2.1.1, nf_runAt hb ⟨by omega, by omega⟩, mm_w_id (x := b + 288 + 68 * aTn_ T - 1) (by omega)]
      refine ⟨by omega, ?_⟩
      rintro _ rfl
      refine ct_M_flTable ((flL_ (aTs_ T) (aTm_ T) (aTc_ T) (aTX_ T)).1.1 + 1) hb at' (by omega) ((ro b (by omega) (by omega) (by omega)).trans k0) ((ro (b + 2) (by omega) (by omega) (by omega)).trans k2) (by rw [a8]; omega) (fun M2 f2 s1 s8 st2 => ?_)
      rw [a8] at s8 st2
      have rd2 : ∀ c, b ≤ c → c < b + 24 → c ≠ b + 1 → c ≠ b + 5 → c ≠ b + 8 → nn_ri M2 408 c = nn_ri M 408 c := fun c z0 z1 z2 z3 z4 => (fr_ri f2 (fun y => by have := y.2; omega)).trans (ro c z0 (by omega) z4)
      have sX : mXs_ M2 b (flL_ (aTs_ T) (aTm_ T) (aTc_ T) (aTX_ T)).2 := mXs_fr f2 hb (fun c z0 z1 y => by have := y.2; omega) aX
      have f2' : fr_ (mw_ b) M1 M2 := fr_mono f2 (fun o c z => ⟨z.1, by have := z.2; omega⟩)
      -- merges of the table
      refine ng_M_flushes_220 _ _ _ _ ⟨fun z => by omega, fun _ => ⟨fun z => by omega, fun _ => ?_, fun z => by omega⟩⟩
      rw [mm_w_id (x := -1 + 1) (by omega), show (-1 : Int) + 1 = 0 by omega]
      have sM : sM_ M2 b nov_ (nn_ri M 408 (b + 23)) (flS_ (aTs_ T) (aTi_ T) (aTm_ T) (aTn_ T) (aTq_ T) (aTc_ T) (aTX_ T)) := ⟨st2, s8, (rd2 _ (by omega) (by omega) (by omega) (by omega) (by omega)).trans (by show _ = nn_ri M 408 (b + 23) + 0; omega)⟩
      have x1 : (0 : Int) ≤ (flS_ (aTs_ T) (aTi_ T) (aTm_ T) (aTn_ T) (aTq_ T) (aTc_ T) (aTX_ T)).2.2.1 := by
        show 0 ≤ (fd_ (lay_ (aTs_ T) (aTm_ T)) (aTc_ T, aTX_ T) 4).1.2 + 1
        omega
      have x2 : (flS_ (aTs_ T) (aTi_ T) (aTm_ T) (aTn_ T) (aTq_ T) (aTc_ T) (aTX_ T)).2.2.1 < 1000000000 := by
        show (fd_ (lay_ (aTs_ T) (aTm_ T)) (aTc_ T, aTX_ T) 4).1.2 + 1 < 1000000000
        omega
      refine ct_M_mergesAllT (sure := sur_ (flL_ (aTs_ T) (aTm_ T) (aTc_ T) (aTX_ T)).2) (bd := bd) hb hfan ((rd2 _ (by omega) (by omega) (by omega) (by omega) (by omega)).trans hf) sM ⟨bd2, hbd.1, by omega⟩ ⟨x1, x2⟩ ⟨by show 0 ≤ nn_ri M 408 (b + 23) + 0; omega, by show nn_ri M 408 (b + 23) + 0 < _; omega⟩ (fun M3 f3 R' hR => ?_) (fun M3 f3 s3 => ?_)
      · exact ct_M_sureX hb (mXs_fr f3 hb (fun c z0 z1 y => by have := y.2; omega) sX) w1 hR
      · have f3' : fr_ (mw_ b) M2 M3 := fr_mono f3 (fun o c z => ⟨z.1, by have := z.2; omega⟩)
        have rd3 : ∀ c, b ≤ c → c < b + 24 → c ≠ b + 5 → c ≠ b + 8 → c ≠ b + 23 → nn_ri M3 408 c = nn_ri M2 408 c := fun c z0 z1 z2 z3 z4 => fr_ri f3 (fun y => by have := y.2; omega)
        exact L3 0 (by omega) (Int.le_refl _) M3 (fr_trans f1 (fr_trans f2' f3')) s3.2.2 ((rd3 _ (by omega) (by omega) (by omega) (by omega) (by omega)).trans s1) ((rd3 _ (by omega) (by omega) (by omega) (by omega) (by omega)).trans ((rd2 _ (by omega) (by omega) (by omega) (by omega) (by omega)).trans k0)) s3.1 s3.2.1 (mXs_fr f3 hb (fun c z0 z1 y => by have := y.2; omega) sX)
    have nx := ih c (by omega)
    rw [show (i + 1).toNat = i.toNat + 1 by omega] at nx
    have ei : ((i.toNat : Nat) : Int) = i := by omega
    have eX : (fd_ (lay_ (aTs_ T) (aTm_ T)) (aTc_ T, aTX_ T) i.toNat).2 i = aTX_ T i := fd_ge _ _ _ _ (by omega)
    have kx := aX i i0 c
    rw [eX] at kx
    have eF : (fd_ (lay_ (aTs_ T) (aTm_ T)) (aTc_ T, aTX_ T) (i.toNat + 1)) = ((lay_ (aTs_ T) (aTm_ T) (fd_ (lay_ (aTs_ T) (aTm_ T)) (aTc_ T, aTX_ T) i.toNat).1 (aTX_ T i)).1, fun j => if j = i then (lay_ (aTs_ T) (aTm_ T) (fd_ (lay_ (aTs_ T) (aTm_ T)) (aTc_ T, aTX_ T) i.toNat).1 (aTX_ T i)).2 else (fd_ (lay_ (aTs_ T) (aTm_ T)) (aTc_ T, aTX_ T) i.toNat).2 j) := by
      show ((lay_ (aTs_ T) (aTm_ T) (fd_ (lay_ (aTs_ T) (aTm_ T)) (aTc_ T, aTX_ T) i.toNat).1 ((fd_ (lay_ (aTs_ T) (aTm_ T)) (aTc_ T, aTX_ T) i.toNat).2 (i.toNat : Int))).1, fun j => if j = (i.toNat : Int) then (lay_ (aTs_ T) (aTm_ T) (fd_ (lay_ (aTs_ T) (aTm_ T)) (aTc_ T, aTX_ T) i.toNat).1 ((fd_ (lay_ (aTs_ T) (aTm_ T)) (aTc_ T, aTX_ T) i.toNat).2 (i.toNat : Int))).2 else (fd_ (lay_ (aTs_ T) (aTm_ T)) (aTc_ T, aTX_ T) i.toNat).2 j) = _
      rw [ei, eX]
    rw [eF] at nx
    have lci := bd1 i.toNat (by omega)
    generalize (fd_ (lay_ (aTs_ T) (aTm_ T)) (aTc_ T, aTX_ T) i.toNat) = G at nx a8 aX lci
    have hin := e i i0 c
    rw [nf_at hb ⟨i0, c⟩, mm_w_id (x := b + 1784 + 855 * i + 0) (by omega), mm_w_id (x := i + 1) (by omega)]
    have hxi : b + 1784 + 855 * i + 0 = xi_ b i := by unfold xi_; omega
    rw [hxi, kx.1]
    refine ⟨by unfold xi_; omega, fun y => ?_, fun y => ?_⟩
    · have hz2 : xh_ (aTX_ T i) = 0 := by
        by_cases z : xh_ (aTX_ T i) = 0
        · exact z
        · have := (hin z).1.1; omega
      rw [lay_0 hz2] at nx
      refine nx M1 f1 ro a8 (fun j j0 j1 => ?_) at'
      show mX_ M1 _ (if j = i then aTX_ T i else _)
      by_cases y : j = i
      · rw [if_pos y, y]; exact kx
      · rw [if_neg y]; exact aX j j0 j1
    · have hz2 : xh_ (aTX_ T i) ≠ 0 := by omega
      obtain ⟨q1, q2, ⟨q3, _⟩, q4, q5, _⟩ := hin hz2
      refine ct_M_flX (c := G.1) (st := aTs_ T) hb ⟨i0, c⟩ hz2 at' kx (fun y hy => ⟨(q4 y (Or.inl hy)).1, q5 y hy⟩) ((ro b (by omega) (by omega) (by omega)).trans k0) a8 (by omega) (by omega) (fun M2 f2 g8 gX => ?_)
      have oth : ∀ c, b ≤ c → c < b + 1784 → c ≠ b + 8 → nn_ri M2 408 c = nn_ri M1 408 c := fun c z0 z1 z2 => fr_ri f2 (fun y => by have y2 := y.2; unfold xi_ at y2; omega)
      exact nx M2 (fr_trans f1 (fr_mono f2 (fun o c z => mxi_mw hb ⟨i0, by omega⟩ z))) (fun c z0 z1 z2 => (oth c z0 z1 z2).trans (ro c z0 z1 z2)) g8 (mXs_upd hb ⟨i0, by omega⟩ f2 aX gX) (tM_mxi hb ⟨i0, by omega⟩ f2 at')
  exact L 0 (by omega) (Int.le_refl _) M (fr_refl M) (fun _ _ _ _ => rfl) k8 kX kt
