/-! a build: the class's Store.goAlong -/
theorem cl_cg {vv ww : Int → Int} (h : ∀ k, 0 ≤ k → k < 32 → vv k = ww k) : ∀ {n : Nat}, n ≤ 32 → cl_ vv n = cl_ ww n
  | 0, _ => rfl
  | n + 1, hn => by
    unfold cl_
    rw [cl_cg h (n := n) (by omega), h n (by omega) (by omega), an_cg h]
theorem st_rd {M : mm_M} {s : Nat} {T : ab_T} {k : Int} (kt : cT_ M s T) (hk : 0 ≤ k ∧ k < 32) (hp : aTl_ T k.toNat ≠ none) : nn_ri M (s + 9) k = sp_ (aTl_ T k.toNat) := by
  have hl := kt.1.2.1.1
  cases hq : aTl_ T k.toNat with
  | none => exact absurd hq hp
  | some p =>
    have h2 := cv_rd (M := M) (v := s + 3 + 4) (k := k) hk ((hs1 hk).mpr (by rw [hl, hq]; exact Option.some_ne_none p))
    rw [hl, hq] at h2
    have h3 := Option.some.inj h2
    rw [h3]
    show nn_ri M (s + 9) k = nn_ri M (s + 3 + 4 + 2) k
    rw [show s + 3 + 4 + 2 = s + 9 by omega]
theorem cR_in7 {M : mm_M} {s : Nat} {sc : Int → Int} {C : Int → ab_D} {f : Int → Int} (h : 0 ≤ sc 7 ∧ sc 7 < 2000000000) (k : cR_ M s sc C f) : cR_ (nn_uf M s 12 (mm_w (nn_rf M s 12 + 1))) s (in1_ 7 sc) C f := by
  obtain ⟨⟨x1, x2, x3, x4, x5, x6⟩, b, ⟨c1, c2, c3, c4, c5⟩, d, e⟩ := k
  have u : fr_ (fun o b => o = s ∧ b = 12) M (nn_uf M s 12 (mm_w (nn_rf M s 12 + 1))) := fr_uf (fr_refl M) ⟨rfl, rfl⟩
  have rf : ∀ o b, ¬ (o = s ∧ b = 12) → nn_rf (nn_uf M s 12 (mm_w (nn_rf M s 12 + 1))) o b = nn_rf M o b := fun o b z => fr_rf u z
  have i6 : ∀ k, k ≠ 7 → in1_ 7 sc k = sc k := fun k hk => in1_o hk
  refine ⟨⟨?_, ?_, ?_, ?_, ?_, ?_⟩, fun i i0 i1 => ?_, ⟨?_, ?_, ?_, ?_, ?_⟩, ?_, fun i i0 i1 => cu2_fr u (fun o b z z2 z3 => by omega) (e i i0 i1)⟩
  · rw [i6 3 (by omega), rf _ _ (by omega)]; exact x1
  · rw [i6 4 (by omega), rf _ _ (by omega)]; exact x2
  · rw [i6 6 (by omega), rf _ _ (by omega)]; exact x3
  · rw [in1_s, rd_ff, if_pos ⟨rfl, rfl⟩, x4, mm_w_id (by omega)]
  · rw [i6 21 (by omega), rf _ _ (by omega)]; exact x5
  · rw [i6 22 (by omega), rf _ _ (by omega)]; exact x6
  · rw [wy_cg (i6 9 (by omega)) (i6 (9 + i) (by omega)), fr_ri u (fun z => by omega)]; exact b i i0 i1
  · rw [i6 15 (by omega), rf _ _ (by omega)]; exact c1
  · rw [i6 16 (by omega), rf _ _ (by omega)]; exact c2
  · rw [i6 17 (by omega), rf _ _ (by omega)]; exact c3
  · rw [i6 18 (by omega), rf _ _ (by omega)]; exact c4
  · rw [i6 19 (by omega), rf _ _ (by omega)]; exact c5
  · rw [i6 20 (by omega)]; exact tp_fr u (fun o b z z2 z3 => by omega) d
theorem ct_S_goAlong {bd i n : Int} {Z : ab_Z} {M : mm_M} {R : Int → mm_M → Prop} (hbd : 0 ≤ bd ∧ bd < 800000000) (ho : bok_ i n Z) (k : cZ_ M 2 Z) (j : jZ_ bd Z) (h : ∀ M', fr_ now_ M M' → cZ_ M' 2 (bld_ i n Z) → R (blda_ i n Z) M') : nr_Store_goAlong 2 (2 + 90 + 15 * i.toNat) i n M R := by
  obtain ⟨⟨hi, h1⟩, hn⟩ := ho
  obtain ⟨kt, kr⟩ := k
  have hx0 : xh_ (aTX_ (zT_ Z) i) ≠ 0 := by rw [h1]; decide
  obtain ⟨dd, jn, ⟨⟨c1, c1b⟩, _, ⟨c3, c3b⟩, c4, c4b⟩, _, je⟩ := j.1
  have jx := je i hi.1 hi.2
  obtain ⟨vA, vK, vP⟩ := jX_vl jx hx0
  obtain ⟨⟨q1, q2, q3, q4, q5, q5b⟩, q6, ⟨q7, q7b⟩, q8, q9, q10, q11, q12, q13⟩ := jx hx0
  have q5 := q5 h1
  obtain ⟨k0, ks, k1⟩ := kt.2.2 i hi.1 hi.2
  obtain ⟨⟨a1, a2, a3, a4⟩, b, e1, ⟨e2, e3⟩, p, vv⟩ := k1 hx0
  have hk : xk_ (2 + 90 + 15 * i.toNat) := sk_x (s := 2) (Or.inl rfl) hi.1 hi.2
  have hz : 0 ≤ xj_ (aTX_ (zT_ Z) i) := by rw [← e3]; exact e2.1
  have kq := kq_of h1 hz (je i hi.1 hi.2)
  have vvx : ∀ q, 0 ≤ q → q < 32 → nn_ri M (2 + 90 + 15 * i.toNat + 14) q = xv_ (aTl_ (zT_ Z)) (aTX_ (zT_ Z) i) q := vv
  have hst := fun q => st_rd (k := q) kt
  refine ng_Store_goAlong _ _ _ _ _ _ ?_
  intro stop es
  rw [a4, mm_w_id (by omega)] at es
  rw [a4]
  have es : stop = stp_ n (aTX_ (zT_ Z) i) := es
  have hs : xl_ (aTX_ (zT_ Z) i) ≤ stop ∧ stop ≤ 32 := by rw [es]; unfold stp_; omega
  have L : ∀ q : Int, q ≤ stop → xl_ (aTX_ (zT_ Z) i) ≤ q → ∀ M1, fr_ (er_ (2 + 90 + 15 * i.toNat + 6)) M M1 → es_ M1 (2 + 90 + 15 * i.toNat + 6) (xK_ (kpn_ (aTl_ (zT_ Z)) (q - xl_ (aTX_ (zT_ Z) i)).toNat (aTX_ (zT_ Z) i))) → nn_rf M1 (2 + 90 + 15 * i.toNat + 6) 1 = xj_ (kpn_ (aTl_ (zT_ Z)) (q - xl_ (aTX_ (zT_ Z) i)).toNat (aTX_ (zT_ Z) i)) → nk_Store_goAlong_19 2 (2 + 90 + 15 * i.toNat) i stop q M1 R := by
    refine lp_up (fun q hq ih q0 M1 f1 g1 g2 => ?_)
    have kq' := kq_kpn (by omega) dd q6.1 q5.1 kq (q - xl_ (aTX_ (zT_ Z) i)).toNat (by omega)
    obtain ⟨s1, s2, s3, s4, s5, s6, s7, s8, s9⟩ := kpn_same (lat := aTl_ (zT_ Z)) (X := aTX_ (zT_ Z) i) (q - xl_ (aTX_ (zT_ Z) i)).toNat
    have s5 : xl_ (kpn_ (aTl_ (zT_ Z)) (q - xl_ (aTX_ (zT_ Z) i)).toNat (aTX_ (zT_ Z) i)) = q := by rw [s5]; omega
    have rf1 : ∀ o b, ¬ er_ (2 + 90 + 15 * i.toNat + 6) o b → nn_rf M1 o b = nn_rf M o b := fun o b z => fr_rf f1 z
    have ri1 : ∀ o c, ¬ (2 + 90 + 15 * i.toNat + 6 ≤ o ∧ o < 2 + 90 + 15 * i.toNat + 6 + 2) → nn_ri M1 o c = nn_ri M o c := fun o c z => fr_ri f1 z
    refine ng_Store_goAlong_19 _ _ _ _ _ _ _ ⟨fun c => ?_, fun c => ?_⟩
    · -- the end
      have eq : q = stop := by omega
      subst eq
      have e0 : kpn_ (aTl_ (zT_ Z)) (stp_ n (aTX_ (zT_ Z) i) - xl_ (aTX_ (zT_ Z) i)).toNat (aTX_ (zT_ Z) i) = kpn_ (aTl_ (zT_ Z)) (q - xl_ (aTX_ (zT_ Z) i)).toNat (aTX_ (zT_ Z) i) := by rw [← es]
      unfold bld_ blda_ at h
      rw [e0, ← es] at h
      generalize hY : kpn_ (aTl_ (zT_ Z)) (q - xl_ (aTX_ (zT_ Z) i)).toNat (aTX_ (zT_ Z) i) = Y at *
      intro M2 em2
      have f2 : fr_ (fun o b => er_ (2 + 90 + 15 * i.toNat + 6) o b ∨ (o = 2 + 90 + 15 * i.toNat ∧ b = 9)) M M2 := by
        rw [em2]; exact fr_uf (fr_mono f1 (fun o b z => Or.inl z)) (Or.inr ⟨rfl, rfl⟩)
      have es2 : es_ M2 (2 + 90 + 15 * i.toNat + 6) (xK_ Y) := by
        rw [em2]; exact es_fr (fr_uf (P := fun o b => o = 2 + 90 + 15 * i.toNat ∧ b = 9) (fr_refl M1) ⟨rfl, rfl⟩) (fun o b z y => by have := z.1; omega) g1
      have ec2 : nn_rf M2 (2 + 90 + 15 * i.toNat + 6) 1 = xj_ Y := by rw [em2, rd_ff, if_neg (by omega)]; exact g2
      have e9 : nn_rf M2 (2 + 90 + 15 * i.toNat) 9 = q := by rw [em2, rd_ff, if_pos ⟨rfl, rfl⟩]
      have rf2 : ∀ o b, ¬ (2 + 90 + 15 * i.toNat + 6 ≤ o ∧ o < 2 + 90 + 15 * i.toNat + 6 + 2) → ¬ (o = 2 + 90 + 15 * i.toNat ∧ b = 9) → nn_rf M2 o b = nn_rf M o b := fun o b z z2 => fr_rf f2 (fun y => y.elim z z2)
      have ri2 : ∀ o c, (o < 2 + 90 + 15 * i.toNat ∨ 2 + 90 + 15 * i.toNat < o) → ¬ (2 + 90 + 15 * i.toNat + 6 ≤ o ∧ o < 2 + 90 + 15 * i.toNat + 6 + 2) → nn_ri M2 o c = nn_ri M o c := fun o c z z2 => fr_ri f2 (fun y => y.elim z2 (fun w => by omega))
      have kx2 : cX_ M2 (2 + 90 + 15 * i.toNat) (aTl_ (zT_ Z)) Y := by
        refine ⟨(rf2 _ _ (by omega) (by omega)).trans (k0.trans s1.symm), (ri2 _ _ (by omega) (by omega)).trans ks, fun _ => ⟨⟨(rf2 _ _ (by omega) (by omega)).trans (a1.trans s2.symm), (rf2 _ _ (by omega) (by omega)).trans (a2.trans s3.symm), (rf2 _ _ (by omega) (by omega)).trans (a3.trans s4.symm), e9.trans s5.symm⟩, ?_, ?_, ⟨es2, ec2⟩, ?_, fun k k0 k1 => ?_⟩⟩
        · rw [s6]; exact rl_fr f2 (fun o b z z2 y => by unfold er_ at y; omega) b
        · rw [s7]; exact es_fr f2 (fun o b z y => by unfold er_ at y z; omega) e1
        · rw [s8, s9]; exact pl_fr f2 (fun o b z z2 y => by unfold er_ at y; omega) p
        · rw [s6, ri2 _ _ (by omega) (by omega)]; exact vv k k0 k1
      have cR2 : cR_ M2 2 (zs_ Z) (zC_ Z) (zf_ Z) := cR_fr f2 (fun o b y y2 => by unfold crr_ at y; unfold er_ at y2; omega) kr
      have f2n : fr_ now_ M M2 := fr_mono f2 (fun o b y => by unfold er_ at y; unfold now_; omega)
      refine ⟨fun z => ?_, fun z => ?_⟩
      · have nz : ¬ q < 32 := by omega
        rw [if_neg nz, if_neg nz] at h
        have FIN : (xq_ (aTX_ (zT_ Z) i) = 0 ∨ cl_ (xv_ (aTl_ (zT_ Z)) (aTX_ (zT_ Z) i)) 32 = -1) → nr_Index_finish (2 + 90 + 15 * i.toNat) (2 + 3) M2 (fun M92 => R 0 M92) := by
          intro w
          rw [if_pos w, if_pos w] at h
          obtain ⟨kx20, kx2s, kx21⟩ := kx2
          obtain ⟨⟨b1, b2, b3, b4⟩, b5, b6, ⟨b7, b8⟩, b9, b10⟩ := kx21 (by rw [s1]; exact hx0)
          have hpz : nn_ri M2 (2 + 90 + 15 * i.toNat + 8 + 2) (xn_ Y) = pz_ (xg_ (aTX_ (zT_ Z) i)) (xn_ (aTX_ (zT_ Z) i)) := by
            have := pl_pz b9 (by rw [s8, s9]; exact vP)
            rw [this, s8, s9]
          have hcz := cz_nn (xA_ (aTX_ (zT_ Z) i))
          unfold sz_ at q13
          have h8 : nn_rf M2 (2 + 3) 8 = (aTc_ (zT_ Z)).1 := (rf2 _ _ (by omega) (by omega)).trans kt.2.1.2.2
          refine ct_I_finish (mid := (aTc_ (zT_ Z)).2 + 1) hk (by omega) b7 b9 (by rw [s8]; omega) ?_ (by rw [h8]; omega) (fun r r0 r1 => ?_) (fun M3 n' g' f3 t8 t5 tes tc tn ty tp => ?_)
          · show nn_ri M2 (2 + 90 + 15 * i.toNat + 8 + 2) (xn_ Y) + nn_rf M2 (2 + 90 + 15 * i.toNat + 6) 1 ≤ 144
            rw [hpz, b8]
            have := kq'.1
            omega
          · have := q7b r r0 (by rw [← s8]; exact r1)
            rw [s9]
            show -1 ≤ (xg_ (aTX_ (zT_ Z) i) r).2.2.1 ∧ (xg_ (aTX_ (zT_ Z) i) r).2.2.1 ≤ 1000000000
            omega
          · have f4 : fr_ (fun o b => (o = 2 + 3 ∧ b = 8) ∨ (2 + 90 + 15 * i.toNat ≤ o ∧ o < 2 + 90 + 15 * i.toNat + 15)) M M3 := fr_trans (fr_mono f2 (fun o b y => by unfold er_ at y; omega)) (fr_mono f3 (fun o b y => by omega))
            have rf3 : ∀ o b, ¬ ((o = 2 + 3 ∧ b = 8) ∨ (2 + 90 + 15 * i.toNat + 6 ≤ o ∧ o < 2 + 90 + 15 * i.toNat + 14) ∨ (o = 2 + 90 + 15 * i.toNat ∧ b = 5)) → nn_rf M3 o b = nn_rf M2 o b := fun o b z => fr_rf f3 z
            have kx3 : cX_ M3 (2 + 90 + 15 * i.toNat) (aTl_ (zT_ Z)) (fin_ (aTc_ (zT_ Z)) Y).2 ∧ (fin_ (aTc_ (zT_ Z)) Y).1.1 = (aTc_ (zT_ Z)).1 + 1 := by
              by_cases y : ∃ y, xK_ Y y
              · rw [fin_1 y]
                obtain ⟨t1, t2⟩ := ty y
                rw [h8, b3] at t2
                rw [t1, t2] at tp
                exact ⟨⟨t5, tp.2.1.1, fun _ => ⟨⟨(rf3 _ _ (by omega)).trans b1, (rf3 _ _ (by omega)).trans b2, (rf3 _ _ (by omega)).trans b3, (rf3 _ _ (by omega)).trans b4⟩, rl_fr f3 (fun o b z z2 y => by omega) b5, es_fr f3 (fun o b z y => by have := z.1; have := z.2; omega) b6, ⟨tes, tc⟩, tp, fun k k0 k1 => (fr_ri f3 (fun y => by omega)).trans (b10 k k0 k1)⟩⟩, rfl⟩
              · rw [fin_0 y]
                obtain ⟨t1, t2⟩ := tn y
                rw [t1, t2] at tp
                exact ⟨⟨t5, tp.2.1.1, fun _ => ⟨⟨(rf3 _ _ (by omega)).trans b1, (rf3 _ _ (by omega)).trans b2, (rf3 _ _ (by omega)).trans b3, (rf3 _ _ (by omega)).trans b4⟩, rl_fr f3 (fun o b z z2 y => by omega) b5, es_fr f3 (fun o b z y => by have := z.1; have := z.2; omega) b6, ⟨tes, tc⟩, tp, fun k k0 k1 => (fr_ri f3 (fun y => by omega)).trans (b10 k k0 k1)⟩⟩, rfl⟩
            refine h M3 (fr_mono f4 (fun o b y => by unfold now_; omega)) ⟨cT_setC hi f4 ?_ kt kx3.1, cR_fr f4 (fun o b y y2 => by unfold crr_ at y; omega) kr⟩
            rw [t8, h8]; exact kx3.2.symm
        refine ⟨fun w => FIN (Or.inl ?_), fun w => ?_⟩
        · rw [rf2 _ _ (by omega) (by omega), a1] at w; exact w
        · rw [rf2 _ _ (by omega) (by omega), a1] at w
          refine ct_I_clash ?_
          have ecl : cl_ (nn_ri M2 (2 + 90 + 15 * i.toNat + 14)) 32 = cl_ (xv_ (aTl_ (zT_ Z)) (aTX_ (zT_ Z) i)) 32 := cl_cg (fun k k0 k1 => by rw [ri2 _ _ (by omega) (by omega)]; exact vvx k k0 k1) (Nat.le_refl _)
          rw [ecl]
          refine ⟨fun y => ?_, fun y => FIN (Or.inr y)⟩
          have nw : ¬ (xq_ (aTX_ (zT_ Z) i) = 0 ∨ cl_ (xv_ (aTl_ (zT_ Z)) (aTX_ (zT_ Z) i)) 32 = -1) := fun u => u.elim w y
          rw [if_neg nw, if_neg nw] at h
          obtain ⟨_, _, cc⟩ := cl_cm (xv_ (aTl_ (zT_ Z)) (aTX_ (zT_ Z) i))
          obtain ⟨cc1, ⟨cc2, cc3, cc4⟩, _⟩ := cc y
          generalize hv : cl_ (xv_ (aTl_ (zT_ Z)) (aTX_ (zT_ Z) i)) 32 = v at *
          intro M3 em3 M4 em4
          have f3 : fr_ (fun o b => o = 2 ∧ b = 12) M2 M3 := by rw [em3]; exact fr_uf (fr_refl M2) ⟨rfl, rfl⟩
          have f4 : fr_ (fun o b => (o = 2 ∧ b = 12) ∨ (o = 2 + 90 + 15 * i.toNat ∧ b = 5)) M2 M4 := by rw [em4]; exact fr_uf (fr_mono f3 (fun o b z => Or.inl z)) (Or.inr ⟨rfl, rfl⟩)
          have cR3 : cR_ M3 2 (in1_ 7 (zs_ Z)) (zC_ Z) (zf_ Z) := by rw [em3]; exact cR_in7 (by have := j.2.1.2.2.2.1; omega) cR2
          have cR4 : cR_ M4 2 (in1_ 7 (zs_ Z)) (zC_ Z) (zf_ Z) := by
            rw [em4]; exact cR_fr (fr_uf (P := fun o b => o = 2 + 90 + 15 * i.toNat ∧ b = 5) (fr_refl M3) ⟨rfl, rfl⟩) (fun o b y y2 => by unfold crr_ at y; omega) cR3
          have an4 : ∀ v but, an_ (nn_ri M4 (2 + 90 + 15 * i.toNat + 14)) v but = an_ (xv_ (aTl_ (zT_ Z)) (aTX_ (zT_ Z) i)) v but := fun v but => an_cg (fun k k0 k1 => by rw [fr_ri f4 (fun u => by omega), ri2 _ _ (by omega) (by omega)]; exact vvx k k0 k1)
          refine ct_I_another ?_
          rw [an4]
          refine ct_I_another ?_
          rw [an4]
          refine ct_S_tell (fun M5 f5 t0 t1 t2 => ?_)
          refine ng_Store_tellBy _ _ _ _ _ _ ?_
          intro M6 em6 M7 em7 M8 em8
          refine ⟨⟨cc2, cc3⟩, ?_⟩
          intro M9 em9
          have f9 : fr_ (fun o _ => o = 2 + 88) M4 M9 := by
            rw [em9, em8, em7, em6]
            exact fr_ui (fr_ui (fr_ui (fr_ui f5 rfl) rfl) rfl) rfl
          have f9b : fr_ (fun o b => er_ (2 + 90 + 15 * i.toNat + 6) o b ∨ (o = 2 + 90 + 15 * i.toNat ∧ (b = 9 ∨ b = 5)) ∨ (o = 2 ∧ b = 12) ∨ o = 2 + 88) M M9 := fr_trans (fr_trans (fr_mono f2 (fun o b y => by unfold er_ at y ⊢; omega)) (fr_mono f4 (fun o b y => by omega))) (fr_mono f9 (fun o b y => by omega))
          refine h M9 (fr_mono f9b (fun o b y => by unfold er_ at y; unfold now_; omega)) ⟨?_, cR_why (by decide) f9 ?_ ?_ ?_ ?_ ?_ ?_ cR4⟩
          · have kt4 : cT_ M9 2 (setX_ i (wd_ Y) (zT_ Z)) := by
              have f9c : fr_ (fun o b => (2 + 90 + 15 * i.toNat ≤ o ∧ o < 2 + 90 + 15 * i.toNat + 15) ∨ ((o = 2 ∧ b = 12) ∨ o = 2 + 88)) M M9 := fr_mono f9b (fun o b y => by unfold er_ at y; omega)
              obtain ⟨kt1, ⟨k6, k7, k8⟩, kX⟩ := kt
              refine ⟨tb_fr f9c (fun o b z _ y => by unfold tr_ at z; omega) kt1, ⟨(fr_rf f9c (fun y => by omega)).trans k6, (fr_rf f9c (fun y => by omega)).trans k7, (fr_rf f9c (fun y => by omega)).trans k8⟩, fun r r0 r1 => ?_⟩
              show cX_ M9 _ (aTl_ (zT_ Z)) (if r = i then wd_ Y else aTX_ (zT_ Z) r)
              by_cases z : r = i
              · rw [if_pos z, z]
                refine ⟨?_, (fr_ri f9 (fun u => by omega)).trans ((fr_ri f4 (fun u => by omega)).trans kx2.2.1), fun u => absurd rfl u⟩
                show nn_rf M9 (2 + 90 + 15 * i.toNat) 5 = 0
                rw [fr_rf f9 (fun u => by omega), em4, rd_ff, if_pos ⟨rfl, rfl⟩]
              · rw [if_neg z]
                exact cX_fr f9c (fun o b y1 y2 y3 => by omega) (kX r r0 r1)
            exact kt4
          · rw [em9, rd_ii, if_neg (by omega), em8, rd_ii, if_neg (by omega), em7, rd_ii, if_neg (by omega), em6, rd_ii, if_neg (by omega)]; exact t0
          · rw [em9, rd_ii, if_neg (by omega), em8, rd_ii, if_neg (by omega), em7, rd_ii, if_neg (by omega), em6, rd_ii, if_neg (by omega)]; exact t1
          · rw [em9, rd_ii, if_neg (by omega), em8, rd_ii, if_neg (by omega), em7, rd_ii, if_neg (by omega), em6, rd_ii, if_pos ⟨rfl, rfl⟩]
          · rw [em9, rd_ii, if_neg (by omega), em8, rd_ii, if_neg (by omega), em7, rd_ii, if_pos ⟨rfl, rfl⟩]
          · rw [em9, rd_ii, if_neg (by omega), em8, rd_ii, if_pos ⟨rfl, rfl⟩]
          · rw [em9, rd_ii, if_pos ⟨rfl, rfl⟩, em8, rd_ii, if_neg (by omega), em7, rd_ii, if_neg (by omega), em6, rd_ii, if_neg (by omega), fr_ri f5 (fun w => by omega), fr_ri f4 (fun w => by omega), ri2 _ _ (by omega) (by omega)]
            generalize an_ (xv_ (aTl_ (zT_ Z)) (aTX_ (zT_ Z) i)) v (-1) = o at cc2 cc3 cc4 ⊢
            refine st_rd kt ⟨cc2, cc3⟩ (fun w => ?_)
            unfold xv_ at cc4
            rw [w] at cc4
            exact y cc4.symm
      · rw [if_pos z, if_pos z] at h
        rw [mm_w_id (by omega)]
        have f2x : fr_ (fun o _ => 2 + 90 + 15 * i.toNat ≤ o ∧ o < 2 + 90 + 15 * i.toNat + 15) M M2 := fr_mono f2 (fun o b y => by unfold er_ at y; omega)
        exact h M2 f2n ⟨cT_setX hi f2x kt kx2, cR2⟩
    · -- one more
      rw [mm_w_id (x := q + 1) (by omega)]
      have et : (q + 1 - xl_ (aTX_ (zT_ Z) i)).toNat = (q - xl_ (aTX_ (zT_ Z) i)).toNat + 1 := by omega
      have ih := ih c (by omega)
      rw [et] at ih
      have e14 : nn_ri M1 (2 + 90 + 15 * i.toNat + 14) q = xv_ (aTl_ (zT_ Z)) (aTX_ (zT_ Z) i) q := by
        rw [ri1 _ _ (by omega)]; exact vvx q (by omega) (by omega)
      have exv : xv_ (aTl_ (zT_ Z)) (kpn_ (aTl_ (zT_ Z)) (q - xl_ (aTX_ (zT_ Z) i)).toNat (aTX_ (zT_ Z) i)) q = xv_ (aTl_ (zT_ Z)) (aTX_ (zT_ Z) i) q := by unfold xv_; rw [s6]
      obtain ⟨v1, v2, v3⟩ : -1 ≤ xv_ (aTl_ (zT_ Z)) (aTX_ (zT_ Z) i) q ∧ xv_ (aTl_ (zT_ Z)) (aTX_ (zT_ Z) i) q ≤ 6000 ∧ (xv_ (aTl_ (zT_ Z)) (aTX_ (zT_ Z) i) q ≠ -1 → ∃ p, aTl_ (zT_ Z) q.toNat = some p ∧ p.2 ≠ -1 ∧ (0 ≤ p.2 ∧ p.2 < 65536) ∧ 0 < p.1 ∧ p.1 ≤ aTs_ (zT_ Z) ∧ vk_ (xu_ (aTX_ (zT_ Z) i)) (some p) = xv_ (aTl_ (zT_ Z)) (aTX_ (zT_ Z) i) q) := xv_in dd q6.1 q
      have est : xv_ (aTl_ (zT_ Z)) (aTX_ (zT_ Z) i) q ≠ -1 → nn_ri M1 (2 + 7 + 2) q = sp_ (aTl_ (zT_ Z) q.toNat) ∧ 0 < sp_ (aTl_ (zT_ Z) q.toNat) ∧ sp_ (aTl_ (zT_ Z) q.toNat) ≤ aTs_ (zT_ Z) := by
        intro w
        obtain ⟨pp, p1, p2, p3, p4, p5, p6⟩ := v3 w
        have p1 : aTl_ (zT_ Z) q.toNat = some pp := p1
        refine ⟨?_, ?_, ?_⟩
        · rw [ri1 _ _ (by omega)]
          exact hst q ⟨by omega, by omega⟩ (by rw [p1]; exact Option.some_ne_none _)
        · rw [p1]; exact p4
        · rw [p1]; exact p5
      generalize hY : kpn_ (aTl_ (zT_ Z)) (q - xl_ (aTX_ (zT_ Z) i)).toNat (aTX_ (zT_ Z) i) = Y at *
      have hkY : kpn_ (aTl_ (zT_ Z)) ((q - xl_ (aTX_ (zT_ Z) i)).toNat + 1) (aTX_ (zT_ Z) i) = kp1_ (aTl_ (zT_ Z)) Y := by show kp1_ _ (kpn_ _ _ _) = _; rw [hY]
      rw [hkY] at ih
      unfold kp1_ at ih
      rw [s5, exv] at ih
      refine ct_I_keepAside hk ⟨by omega, by omega⟩ g1 (by rw [g2]; have := kq'.1; rw [s5] at this; omega) (by rw [e14]; omega) (fun w => ?_) (fun w => ?_) (fun w => ?_) (fun w M2 f2 g3 g4 => ?_)
      · rw [e14] at w
        have := est w
        rw [this.1]; omega
      · rw [e14] at w ⊢
        have h3 := est w
        rw [h3.1]
        intro u
        have h4 := (kq'.2 _ u).1
        obtain ⟨n1, n2, n3, n4⟩ := en_parts (v := xv_ (aTl_ (zT_ Z)) (aTX_ (zT_ Z) i) q) (k := q) (s := sp_ (aTl_ (zT_ Z) q.toNat)) (by omega) (by omega) (by omega)
        rw [n3, s5] at h4
        omega
      · rw [e14] at w
        rw [if_pos w] at ih
        exact ih M1 f1 g1 g2
      · rw [e14] at w g3
        rw [if_neg w] at ih
        rw [(est w).1] at g3
        exact ih M2 (fr_trans f1 f2) g3 (by rw [g4, g2]; rfl)
  have e0 : kpn_ (aTl_ (zT_ Z)) (xl_ (aTX_ (zT_ Z) i) - xl_ (aTX_ (zT_ Z) i)).toNat (aTX_ (zT_ Z) i) = aTX_ (zT_ Z) i := by
    rw [show (xl_ (aTX_ (zT_ Z) i) - xl_ (aTX_ (zT_ Z) i)).toNat = 0 by omega]; rfl
  exact L _ hs.1 (Int.le_refl _) M (fr_refl M) (by rw [e0]; exact e2) (by rw [e0]; exact e3)
theorem ct_LI_build {bd i n : Int} {Z : ab_Z} {M : mm_M} {R : Int → mm_M → Prop} (hbd : 0 ≤ bd ∧ bd < 800000000) (k : cZ_ M 2 Z) (j : jZ_ bd Z) (h1 : bok_ i n Z → ∀ M', fr_ now_ M M' → cZ_ M' 2 (bld_ i n Z) → R (blda_ i n Z) M') (h0 : ¬ bok_ i n Z → R (-1) M) : nr_LI_build i n M R := by
  refine ng_LI_build _ _ _ _ ?_
  refine ct_S_find k (fun z => ?_) (fun z => ?_)
  · refine ⟨fun _ => h0 (fun w => z ⟨w.1.1, by rw [w.1.2]; decide⟩), fun w => absurd rfl w.1⟩
  · have k5 : nn_rf M (2 + 90 + 15 * i.toNat) 5 = xh_ (aTX_ (zT_ Z) i) := (k.1.2.2 i z.1.1 z.1.2).1
    rw [k5]
    refine ⟨fun w => h0 (fun u => ?_), fun w => ?_⟩
    · have u1 := u.1.2
      have u2 := u.2
      omega
    · have ho : bok_ i n Z := ⟨⟨z.1, w.2.1⟩, w.2.2⟩
      exact ct_S_goAlong hbd ho k j (h1 ho)
