/-! loads: numbers drawn from a seed -/
def dr_ (x : Int) : Int := mm_w (mm_w (x * 1103515245) + 12345)
def dn_ (x n : Int) : Int := mm_ushr x 16 % n
theorem ushr16_in (x : Int) : 0 ≤ mm_ushr x 16 ∧ mm_ushr x 16 < 65536 := by
  have e : mm_ushr x 16 = (BitVec.ofInt 32 x >>> 16).toInt := bb_ushr x 16 (by decide)
  rw [e]
  have h1 : (BitVec.ofInt 32 x >>> 16).toNat < 65536 := by
    rw [BitVec.toNat_ushiftRight, Nat.shiftRight_eq_div_pow]
    have := (BitVec.ofInt 32 x).isLt
    omega
  rw [BitVec.toInt_eq_toNat_of_lt (by omega)]
  omega
theorem dn_in {x n : Int} (hn : 0 < n) : 0 ≤ dn_ x n ∧ dn_ x n < n := by
  unfold dn_
  have := ushr16_in x
  exact ⟨Int.emod_nonneg _ (by omega), Int.emod_lt_of_pos _ hn⟩
abbrev ab_O : Type := Int × ab_Z
/-- one write of a load -/
noncomputable def ld1_ (o : ab_O) : ab_O := if dn_ (dr_ o.1) 8 = 0 then (dr_ (dr_ o.1), rm_ (dn_ (dr_ (dr_ o.1)) 32) o.2) else if dn_ (dr_ o.1) 8 = 1 then (dr_ (dr_ (dr_ (dr_ o.1))), cg_ (dn_ (dr_ (dr_ o.1)) 32) (dn_ (dr_ (dr_ (dr_ o.1))) 4) (dn_ (dr_ (dr_ (dr_ (dr_ o.1)))) 16) o.2) else (dr_ (dr_ (dr_ (dr_ (dr_ (dr_ o.1))))), pt_ 0 (dn_ (dr_ (dr_ o.1)) 32) (rw_ (dn_ (dr_ (dr_ (dr_ o.1))) 16) (dn_ (dr_ (dr_ (dr_ (dr_ o.1)))) 16) (dn_ (dr_ (dr_ (dr_ (dr_ (dr_ o.1))))) 16) (dn_ (dr_ (dr_ (dr_ (dr_ (dr_ (dr_ o.1)))))) 16)) o.2)
noncomputable def ldn_ : Nat → ab_O → ab_O
  | 0, o => o
  | k + 1, o => ld1_ (ldn_ k o)
theorem jZ_ld1 {bd : Int} {o : ab_O} (hbd : bd < 900000000) (k : jZ_ bd o.2) : jZ_ (bd + 400) (ld1_ o).2 := by
  unfold ld1_
  by_cases h0 : dn_ (dr_ o.1) 8 = 0
  · rw [if_pos h0]; exact jZ_rm (dn_in (by decide)) hbd k
  · rw [if_neg h0]
    by_cases h1 : dn_ (dr_ o.1) 8 = 1
    · rw [if_pos h1]; exact jZ_cg (dn_in (by decide)) (dn_in (by decide)) (dn_in (by decide)) hbd k
    · rw [if_neg h1]; exact jZ_pt (dn_in (by decide)) (rw_in (dn_in (by decide)) (dn_in (by decide)) (dn_in (by decide)) (dn_in (by decide))) hbd k
theorem jZ_ldn {bd : Int} {o : ab_O} (hbd : bd < 800000000) (k : jZ_ bd o.2) : ∀ n : Nat, n ≤ 20 → jZ_ (bd + 400 * n) (ldn_ n o).2
  | 0, _ => jZ_up (by omega) k
  | n + 1, hn => jZ_up (by omega) (jZ_ld1 (by omega) (jZ_ldn hbd k n (by omega)))
def sp4_ (s o b : Nat) : Prop := sp3_ s o b ∨ (o = s ∧ b = 13)
theorem cZ_13 {M M' : mm_M} {s : Nat} {Z : ab_Z} (f : fr_ (fun o b => o = s ∧ b = 13) M M') (k : cZ_ M s Z) : cZ_ M' s Z := ⟨cT_fr f (fun o b z y => by unfold sw_ at z; omega) k.1, cR_fr f (fun o b z y => by unfold crr_ at z; omega) k.2⟩
theorem ct_S_drawn {s : Nat} {below x : Int} {Z : ab_Z} {M : mm_M} {R : Int → mm_M → Prop} (hb : 0 < below) (hx : nn_rf M s 13 = x) (k : cZ_ M s Z) (h : ∀ M', fr_ (fun o b => o = s ∧ b = 13) M M' → nn_rf M' s 13 = dr_ x → cZ_ M' s Z → R (dn_ (dr_ x) below) M') : nr_Store_drawn s below M R := by
  refine ng_Store_drawn _ _ _ _ ?_
  intro M1 e1
  have f1 : fr_ (fun o b => o = s ∧ b = 13) M M1 := by rw [e1]; exact fr_uf (fr_refl M) ⟨rfl, rfl⟩
  have g1 : nn_rf M1 s 13 = dr_ x := by rw [e1, rd_ff, if_pos ⟨rfl, rfl⟩, hx]; rfl
  rw [g1]
  exact ⟨fun z => by omega, fun _ => ⟨⟨(ushr16_in _).1, hb⟩, h M1 f1 g1 (cZ_13 f1 k)⟩⟩
theorem ct_S_loaded {s : Nat} {bd x n : Int} {Z : ab_Z} {M : mm_M} {R : Int → mm_M → Prop} (hs : sk_ s) (hn : 1 ≤ n ∧ n ≤ 20) (hbd : 0 ≤ bd ∧ bd < 700000000) (k : cZ_ M s Z) (j : jZ_ bd Z)
    (h : ∀ M', fr_ (sp4_ s) M M' → cZ_ M' s (ldn_ n.toNat (x, Z)).2 → R (zs_ (ldn_ n.toNat (x, Z)).2 6 - zs_ Z 6) M') : nr_Store_loaded s x n M R := by
  refine ng_Store_loaded _ _ _ _ _ ?_
  have k6 : nn_rf M s 11 = zs_ Z 6 := k.2.1.2.2.1
  rw [k6]
  intro M0 e0
  have f0 : fr_ (fun o b => o = s ∧ b = 13) M M0 := by rw [e0]; exact fr_uf (fr_refl M) ⟨rfl, rfl⟩
  have L : ∀ i : Int, i ≤ n → 0 ≤ i → ∀ M1, fr_ (sp4_ s) M M1 → nn_rf M1 s 13 = (ldn_ i.toNat (x, Z)).1 → cZ_ M1 s (ldn_ i.toNat (x, Z)).2 → nk_Store_loaded_13 s n (zs_ Z 6) i M1 R := by
    refine lp_up (fun i hi ih i0 M1 f1 g1 k1 => ?_)
    have ji := jZ_ldn (o := (x, Z)) (by omega) j i.toNat (by omega)
    refine ng_Store_loaded_13 _ _ _ _ _ _ ⟨fun c => ?_, fun c => ?_⟩
    · have ei : i = n := by omega
      rw [ei] at k1 ji
      have y6 : nn_rf M1 s 11 = zs_ (ldn_ n.toNat (x, Z)).2 6 := k1.2.1.2.2.1
      rw [y6, mm_w_id (by have := ji.2.1.2.2.1; have := j.2.1.2.2.1; omega)]
      exact h M1 f1 k1
    have nx := ih c (by omega)
    rw [show (i + 1).toNat = i.toNat + 1 by omega] at nx
    have nx : ∀ M1, fr_ (sp4_ s) M M1 → nn_rf M1 s 13 = (ld1_ (ldn_ i.toNat (x, Z))).1 → cZ_ M1 s (ld1_ (ldn_ i.toNat (x, Z))).2 → nk_Store_loaded_13 s n (zs_ Z 6) (i + 1) M1 R := nx
    generalize ldn_ i.toNat (x, Z) = o at g1 k1 ji nx
    rw [mm_w_id (x := i + 1) (by omega)]
    have sq : ∀ {M2 M3 : mm_M}, fr_ (sp4_ s) M M2 → fr_ (fun o b => o = s ∧ b = 13) M2 M3 → fr_ (sp4_ s) M M3 := fun a b => fr_trans a (fr_mono b (fun o b z => Or.inr z))
    have hj : ∀ {M2 M3 : mm_M}, fr_ (sp3_ s) M2 M3 → nn_rf M3 s 13 = nn_rf M2 s 13 := fun a => fr_rf a (fun y => by unfold sp3_ sw_ at y; omega)
    refine ct_S_drawn (by decide) g1 k1 (fun M2 f2 g2 k2 => ?_)
    refine ct_S_drawn (by decide) g2 k2 (fun M3 f3 g3 k3 => ?_)
    have f13 := sq (sq f1 f2) f3
    have w8 := dn_in (x := dr_ o.1) (n := 8) (by decide)
    have hkey := dn_in (x := dr_ (dr_ o.1)) (n := 32) (by decide)
    by_cases h0 : dn_ (dr_ o.1) 8 = 0
    · have e : ld1_ o = (dr_ (dr_ o.1), rm_ (dn_ (dr_ (dr_ o.1)) 32) o.2) := if_pos h0
      rw [e] at nx
      refine ⟨fun z => absurd h0 z, fun _ => ?_⟩
      exact ct_S_rem hs hkey (by omega) k3 ji (fun M4 f4 k4 => nx M4 (fr_trans f13 (fr_mono f4 (fun o b z => Or.inl z))) ((hj f4).trans g3) k4)
    · refine ⟨fun _ => ⟨fun h1 => ?_, fun h1 => ?_⟩, fun z => absurd z h0⟩
      · have e : ld1_ o = (dr_ (dr_ (dr_ (dr_ (dr_ (dr_ o.1))))), pt_ 0 (dn_ (dr_ (dr_ o.1)) 32) (rw_ (dn_ (dr_ (dr_ (dr_ o.1))) 16) (dn_ (dr_ (dr_ (dr_ (dr_ o.1)))) 16) (dn_ (dr_ (dr_ (dr_ (dr_ (dr_ o.1))))) 16) (dn_ (dr_ (dr_ (dr_ (dr_ (dr_ (dr_ o.1)))))) 16)) o.2) := (if_neg h0).trans (if_neg h1)
        rw [e] at nx
        refine ct_S_drawn (by decide) g3 k3 (fun M4 f4 g4 k4 => ?_)
        refine ct_S_drawn (by decide) g4 k4 (fun M5 f5 g5 k5 => ?_)
        refine ct_S_drawn (by decide) g5 k5 (fun M6 f6 g6 k6 => ?_)
        refine ct_S_drawn (by decide) g6 k6 (fun M7 f7 g7 k7 => ?_)
        rw [nf_packed (dn_in (by decide)) (dn_in (by decide)) (dn_in (by decide)) (dn_in (by decide))]
        exact ct_S_put hs (by decide) hkey (rw_in (dn_in (by decide)) (dn_in (by decide)) (dn_in (by decide)) (dn_in (by decide))) (by omega) k7 ji (fun M8 f8 k8 => nx M8 (fr_trans (sq (sq (sq (sq f13 f4) f5) f6) f7) (fr_mono f8 (fun o b z => Or.inl z))) ((hj f8).trans g7) k8)
      · have e : ld1_ o = (dr_ (dr_ (dr_ (dr_ o.1))), cg_ (dn_ (dr_ (dr_ o.1)) 32) (dn_ (dr_ (dr_ (dr_ o.1))) 4) (dn_ (dr_ (dr_ (dr_ (dr_ o.1)))) 16) o.2) := (if_neg h0).trans (if_pos h1)
        rw [e] at nx
        refine ct_S_drawn (by decide) g3 k3 (fun M4 f4 g4 k4 => ?_)
        refine ct_S_drawn (by decide) g4 k4 (fun M5 f5 g5 k5 => ?_)
        exact ct_S_cg hs hkey (dn_in (by decide)) (dn_in (by decide)) (by omega) k5 ji (fun M6 f6 k6 => nx M6 (fr_trans (sq (sq f13 f4) f5) (fr_mono f6 (fun o b z => Or.inl z))) ((hj f6).trans g5) k6)
  refine L 0 (by omega) (Int.le_refl _) M0 (fr_mono f0 (fun o b z => Or.inr z)) ?_ (cZ_13 f0 k)
  rw [e0, rd_ff, if_pos ⟨rfl, rfl⟩]
  rfl
/-! the Model -/
def mz2_ (b : Int) (o c : Nat) : Prop := mz_ b o c ∨ (o = 407 ∧ c = 2)
theorem mY_407 {P : Nat → Nat → Prop} {M M' : mm_M} {bd b : Int} {Z : ab_Z} (hb : bk_ b) (f : fr_ P M M') (h : ∀ c : Nat, b ≤ (c : Int) → (c : Int) < b + 5474 → ¬ P 408 c) (hl : zs_ Z 20 ≤ 200) (hc : cw_ (zC_ Z)) (k : mY_ bd M b Z) : mY_ bd M' b Z := by
  have hb' := hb
  unfold bk_ at hb'
  obtain ⟨⟨kt, kr⟩, g0, g1⟩ := k
  have rd : ∀ c, b ≤ c → c < b + 5474 → nn_ri M' 408 c = nn_ri M 408 c := fun c z0 z1 => fr_ri f (h _ (by omega) (by omega))
  refine ⟨⟨mT_fr f hb (fun c z => h c (by unfold mcore_ at z; omega) (by unfold mcore_ at z; omega)) kt, mR_cg (fun c z0 z1 _ _ => rd c (by omega) (by omega)) (fun c z => rd c (by omega) (by omega)) hl hc kr⟩, ?_, ?_⟩
  · rw [rd _ (by omega) (by omega)]; exact g0
  · rw [rd _ (by omega) (by omega)]; exact g1
theorem mY_up {M : mm_M} {bd bd' b : Int} {Z : ab_Z} (h : bd ≤ bd') (k : mY_ bd M b Z) : mY_ bd' M b Z := ⟨k.1, k.2.1, by have := k.2.2; omega⟩
theorem ct_M_draws {b bd below x : Int} {Z : ab_Z} {M : mm_M} {R : Int → mm_M → Prop} (hbk : bk_ b) (hb : 0 < below) (hx : nn_rf M 407 2 = x) (hl : zs_ Z 20 ≤ 200) (hc : cw_ (zC_ Z)) (k : mY_ bd M b Z) (h : ∀ M', fr_ (fun o c => o = 407 ∧ c = 2) M M' → nn_rf M' 407 2 = dr_ x → mY_ bd M' b Z → R (dn_ (dr_ x) below) M') : nr_M_draws below M R := by
  refine ng_M_draws _ _ _ ?_
  intro M1 e1
  have f1 : fr_ (fun o c => o = 407 ∧ c = 2) M M1 := by rw [e1]; exact fr_uf (fr_refl M) ⟨rfl, rfl⟩
  have g1 : nn_rf M1 407 2 = dr_ x := by rw [e1, rd_ff, if_pos ⟨rfl, rfl⟩, hx]; rfl
  rw [g1]
  exact ⟨⟨(ushr16_in _).1, hb⟩, h M1 f1 g1 (mY_407 hbk f1 (fun c _ _ y => by omega) hl hc k)⟩
theorem ct_M_loads {b bd x n : Int} {Z : ab_Z} {M : mm_M} {R : Int → mm_M → Prop} (hb : bk_ b) (hn : 1 ≤ n ∧ n ≤ 20) (hbd : 0 ≤ bd ∧ bd < 700000000) (k : mY_ bd M b Z) (j : jZ_ bd Z)
    (h : ∀ M', fr_ (mz2_ b) M M' → mY_ (bd + 8000) M' b (ldn_ n.toNat (x, Z)).2 → R (zs_ (ldn_ n.toNat (x, Z)).2 6 - zs_ Z 6) M') : nr_M_loads b x n M R := by
  have hb' := hb
  unfold bk_ at hb'
  refine ng_M_loads _ _ _ _ _ ?_
  intro M0 e0
  have f0 : fr_ (fun o c => o = 407 ∧ c = 2) M M0 := by rw [e0]; exact fr_uf (fr_refl M) ⟨rfl, rfl⟩
  have k0 : mY_ bd M0 b Z := mY_407 hb f0 (fun c _ _ y => by omega) j.2.1.2.2.2.2.1.2 j.2.2 k
  have y6 : nn_ri M0 408 (b + 6) = zs_ Z 6 := k0.1.2.1 6 (by unfold hd_; omega)
  rw [mm_w_id (x := b + 6) (by omega), y6]
  refine ⟨by omega, ?_⟩
  have L : ∀ i : Int, i ≤ n → 0 ≤ i → ∀ M1, fr_ (mz2_ b) M M1 → nn_rf M1 407 2 = (ldn_ i.toNat (x, Z)).1 → mY_ (bd + 400 * (i.toNat : Int)) M1 b (ldn_ i.toNat (x, Z)).2 → nk_M_loads_19 b n (zs_ Z 6) i M1 R := by
    refine lp_up (fun i hi ih i0 M1 f1 g1 k1 => ?_)
    have ji := jZ_ldn (o := (x, Z)) (by omega) j i.toNat (by omega)
    refine ng_M_loads_19 _ _ _ _ _ _ ⟨fun c => ?_, fun c => ?_⟩
    · have ei : i = n := by omega
      rw [ei] at k1 ji
      have y6 : nn_ri M1 408 (b + 6) = zs_ (ldn_ n.toNat (x, Z)).2 6 := k1.1.2.1 6 (by unfold hd_; omega)
      rw [mm_w_id (x := b + 6) (by omega), y6, mm_w_id (by have := ji.2.1.2.2.1; have := j.2.1.2.2.1; omega)]
      exact ⟨by omega, h M1 f1 (mY_up (by omega) k1)⟩
    have nx := ih c (by omega)
    rw [show (i + 1).toNat = i.toNat + 1 by omega] at nx
    have nx : ∀ M1, fr_ (mz2_ b) M M1 → nn_rf M1 407 2 = (ld1_ (ldn_ i.toNat (x, Z))).1 → mY_ (bd + 400 * ((i.toNat + 1 : Nat) : Int)) M1 b (ld1_ (ldn_ i.toNat (x, Z))).2 → nk_M_loads_19 b n (zs_ Z 6) (i + 1) M1 R := nx
    generalize ldn_ i.toNat (x, Z) = o at g1 k1 ji nx
    have hl : zs_ o.2 20 ≤ 200 := ji.2.1.2.2.2.2.1.2
    have hc := ji.2.2
    rw [mm_w_id (x := i + 1) (by omega)]
    have sq : ∀ {M2 M3 : mm_M}, fr_ (mz2_ b) M M2 → fr_ (fun o c => o = 407 ∧ c = 2) M2 M3 → fr_ (mz2_ b) M M3 := fun a b => fr_trans a (fr_mono b (fun o b z => Or.inr z))
    have hj : ∀ {M2 M3 : mm_M}, fr_ (mz_ b) M2 M3 → nn_rf M3 407 2 = nn_rf M2 407 2 := fun a => fr_rf a (fun y => by have := y.1; omega)
    refine ct_M_draws hb (by decide) g1 hl hc k1 (fun M2 f2 g2 k2 => ?_)
    refine ct_M_draws hb (by decide) g2 hl hc k2 (fun M3 f3 g3 k3 => ?_)
    have f13 := sq (sq f1 f2) f3
    have w8 := dn_in (x := dr_ o.1) (n := 8) (by decide)
    have hkey := dn_in (x := dr_ (dr_ o.1)) (n := 32) (by decide)
    have hB : 0 ≤ bd + 400 * (i.toNat : Int) ∧ bd + 400 * (i.toNat : Int) < 800000000 := by omega
    by_cases h0 : dn_ (dr_ o.1) 8 = 0
    · have e : ld1_ o = (dr_ (dr_ o.1), rm_ (dn_ (dr_ (dr_ o.1)) 32) o.2) := if_pos h0
      rw [e] at nx
      refine ⟨fun z => absurd h0 z, fun _ => ⟨fun z => absurd h0 z, fun _ => ⟨fun _ => ⟨fun _ => ⟨fun z => absurd h0 z, fun _ => ?_⟩, fun z => by omega⟩, fun z => by omega⟩⟩⟩
      refine ct_M_wrZ hb hkey (Or.inl rfl) hB k3 ji (fun M4 f4 k4 => ?_)
      exact nx M4 (fr_trans f13 (fr_mono f4 (fun o b z => Or.inl z))) ((hj f4).trans g3) (mY_up (by omega) k4)
    · by_cases h1 : dn_ (dr_ o.1) 8 = 1
      · have e : ld1_ o = (dr_ (dr_ (dr_ (dr_ o.1))), cg_ (dn_ (dr_ (dr_ o.1)) 32) (dn_ (dr_ (dr_ (dr_ o.1))) 4) (dn_ (dr_ (dr_ (dr_ (dr_ o.1)))) 16) o.2) := (if_neg h0).trans (if_pos h1)
        rw [e] at nx
        refine ⟨fun _ => ⟨fun z => absurd h1 z, fun _ => ?_⟩, fun z => absurd z h0⟩
        refine ct_M_draws hb (by decide) g3 hl hc k3 (fun M4 f4 g4 k4 => ?_)
        refine ⟨fun _ => ?_, fun z => absurd z h0⟩
        refine ct_M_draws hb (by decide) g4 hl hc k4 (fun M5 f5 g5 k5 => ?_)
        refine ⟨fun _ => ⟨fun _ => ⟨fun _ => ⟨fun z => absurd h1 z, fun _ => ?_⟩, fun z => absurd z h0⟩, fun z => by omega⟩, fun z => by omega⟩
        refine ct_M_cg hb hkey (dn_in (by decide)) (dn_in (by decide)) hB k5 ji (fun M6 f6 k6 => ?_)
        exact nx M6 (fr_trans (sq (sq f13 f4) f5) (fr_mono f6 (fun o b z => Or.inl z))) ((hj f6).trans g5) (mY_up (by omega) k6)
      · have e : ld1_ o = (dr_ (dr_ (dr_ (dr_ (dr_ (dr_ o.1))))), pt_ 0 (dn_ (dr_ (dr_ o.1)) 32) (rw_ (dn_ (dr_ (dr_ (dr_ o.1))) 16) (dn_ (dr_ (dr_ (dr_ (dr_ o.1)))) 16) (dn_ (dr_ (dr_ (dr_ (dr_ (dr_ o.1))))) 16) (dn_ (dr_ (dr_ (dr_ (dr_ (dr_ (dr_ o.1)))))) 16)) o.2) := (if_neg h0).trans (if_neg h1)
        rw [e] at nx
        refine ⟨fun _ => ⟨fun _ => ?_, fun z => absurd z h1⟩, fun z => absurd z h0⟩
        refine ct_M_draws hb (by decide) g3 hl hc k3 (fun M4 f4 g4 k4 => ?_)
        refine ⟨fun _ => ?_, fun z => absurd z h0⟩
        refine ct_M_draws hb (by decide) g4 hl hc k4 (fun M5 f5 g5 k5 => ?_)
        refine ⟨fun z => by omega, fun _ => ?_⟩
        refine ct_M_draws hb (by decide) g5 hl hc k5 (fun M6 f6 g6 k6 => ?_)
        refine ⟨fun z => by omega, fun _ => ?_⟩
        refine ct_M_draws hb (by decide) g6 hl hc k6 (fun M7 f7 g7 k7 => ?_)
        refine ⟨fun _ => ⟨fun _ => ?_, fun z => absurd z h1⟩, fun z => absurd z h0⟩
        rw [nf_packedM (dn_in (by decide)) (dn_in (by decide)) (dn_in (by decide)) (dn_in (by decide))]
        refine ct_M_puts hb hkey (rw_in (dn_in (by decide)) (dn_in (by decide)) (dn_in (by decide)) (dn_in (by decide))) hB k7 ji (fun M8 f8 k8 => ?_)
        exact nx M8 (fr_trans (sq (sq (sq (sq f13 f4) f5) f6) f7) (fr_mono f8 (fun o b z => Or.inl z))) ((hj f8).trans g7) (mY_up (by omega) k8)
  refine L 0 (by omega) (Int.le_refl _) M0 (fr_mono f0 (fun o b z => Or.inr z)) ?_ (mY_up (by omega) k0)
  rw [e0, rd_ff, if_pos ⟨rfl, rfl⟩]
  rfl
