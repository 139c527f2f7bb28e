/-! tried, both sides -/
theorem fd_x1 {F : Int × Int → ab_X → (Int × Int) × ab_X} (hF : ∀ c X, (F c X).2.1 = X.1) (s : (Int × Int) × (Int → ab_X)) : ∀ (k : Nat) (i : Int), ((fd_ F s k).2 i).1 = (s.2 i).1
  | 0, i => rfl
  | k + 1, i => by
    have e : (fd_ F s (k + 1)).2 i = if i = (k : Int) then (F (fd_ F s k).1 ((fd_ F s k).2 k)).2 else (fd_ F s k).2 i := rfl
    rw [e]
    by_cases z : i = (k : Int)
    · rw [if_pos z, hF, fd_x1 hF s k k, z]
    · rw [if_neg z, fd_x1 hF s k i]
theorem tk2_x1 {key row st : Int} (c : Int × Int) (X : ab_X) : (tk2_ key row st c X).2.1 = X.1 := by
  unfold tk2_
  split <;> rfl
theorem lay_x1 {st : Int} {mem : ab_V} (c : Int × Int) (X : ab_X) : (lay_ st mem c X).2.1 = X.1 := by
  unfold lay_
  split
  · rfl
  · split <;> rfl
theorem mrg_x1 {fan st : Int} {lat : ab_V} (c : Int × Int) (X : ab_X) : (mrg_ fan st lat c X).2.1 = X.1 := by
  unfold mrg_
  split <;> rfl
theorem rep2_x1 {st : Int} {lat : ab_V} (c : Int × Int) (X : ab_X) : (rep2_ st lat c X).2.1 = X.1 := by
  unfold rep2_
  split <;> rfl
theorem wr_x1 {room fan key row : Int} {T : ab_T} (i : Int) : (aTX_ (wr_ room fan key row T) i).1 = (aTX_ T i).1 := by
  have h1 : (aTX_ (tk3_ key row T) i).1 = (aTX_ T i).1 := fd_x1 (F := tk2_ key row (aTs_ T + 1)) tk2_x1 (aTc_ T, aTX_ T) 4 i
  have h2 : ∀ T : ab_T, (aTX_ (rp3_ T) i).1 = (aTX_ T i).1 := fun T => fd_x1 (F := rep2_ (aTs_ T) (aTl_ T)) rep2_x1 (aTc_ T, aTX_ T) 4 i
  have h3 : ∀ T : ab_T, (aTX_ (fl2_ fan T) i).1 = (aTX_ T i).1 := fun T => (fd_x1 (F := mrg_ fan (aTs_ T) (lk_ nov_ (flT_ (aTs_ T) (aTi_ T) fan (aTm_ T) (aTn_ T) (aTq_ T) (aTc_ T) (aTX_ T)).2.2.2.2.1 (flT_ (aTs_ T) (aTi_ T) fan (aTm_ T) (aTn_ T) (aTq_ T) (aTc_ T) (aTX_ T)).2.2.2.2.2)) mrg_x1 (((flT_ (aTs_ T) (aTi_ T) fan (aTm_ T) (aTn_ T) (aTq_ T) (aTc_ T) (aTX_ T)).2.1, (flT_ (aTs_ T) (aTi_ T) fan (aTm_ T) (aTn_ T) (aTq_ T) (aTc_ T) (aTX_ T)).2.2.1), (flL_ (aTs_ T) (aTm_ T) (aTc_ T) (aTX_ T)).2) 4 i).trans (fd_x1 (F := lay_ (aTs_ T) (aTm_ T)) lay_x1 (aTc_ T, aTX_ T) 4 i)
  unfold wr_ wr1_
  split
  · rw [h2, h1]
  · rw [h2, h3, h1]
theorem pt_x1 {which key row : Int} {Z : ab_Z} (i : Int) : (aTX_ (zT_ (pt_ which key row Z)) i).1 = (aTX_ (zT_ Z) i).1 := by
  unfold pt_
  split
  · exact wr_x1 i
  · rfl
theorem cg_x1 {key col num : Int} {Z : ab_Z} (i : Int) : (aTX_ (zT_ (cg_ key col num Z)) i).1 = (aTX_ (zT_ Z) i).1 := by
  unfold cg_
  split
  · split
    · rfl
    · exact pt_x1 i
  · rfl
theorem ld1_x1 {o : ab_O} (i : Int) : (aTX_ (zT_ (ld1_ o).2) i).1 = (aTX_ (zT_ o.2) i).1 := by
  unfold ld1_
  split
  · exact wr_x1 i
  · split
    · exact cg_x1 i
    · exact pt_x1 i
theorem ldn_x1 {o : ab_O} (i : Int) : ∀ n : Nat, (aTX_ (zT_ (ldn_ n o).2) i).1 = (aTX_ (zT_ o.2) i).1
  | 0 => rfl
  | n + 1 => (ld1_x1 i).trans (ldn_x1 i n)
theorem ldn_ix {o : ab_O} {i : Int} {n : Nat} : ix_ i (ldn_ n o).2 ↔ ix_ i o.2 := by
  unfold ix_
  have e : xh_ (aTX_ (zT_ (ldn_ n o).2) i) = xh_ (aTX_ (zT_ o.2) i) := congrArg (fun y => y.1) (ldn_x1 i n)
  rw [e]
def tok_ (n what : Int) (Z : ab_Z) : Prop := (1 ≤ n ∧ n ≤ 20) ∧ ((0 ≤ what ∧ what ≤ 13) ∨ ((20 ≤ what ∧ what ≤ 23) ∧ ix_ (what - 20) Z) ∨ ((30 ≤ what ∧ what ≤ 33) ∧ ix_ (what - 30) Z))
noncomputable def tra_ (what : Int) (Z : ab_Z) : Int := if what ≤ 13 then cnt_ what Z else if what < 30 then sz_ (aTX_ (zT_ Z) (what - 20)) else xwa_ (aTl_ (zT_ Z)) (aTX_ (zT_ Z) (what - 30))
theorem ct_X_size {s : Nat} {bd i : Int} {Z : ab_Z} {M : mm_M} (k : cZ_ M s Z) (j : jZ_ bd Z) (z : ix_ i Z) : nc_Index_size (s + 90 + 15 * i.toNat) M ∧ nf_Index_size (s + 90 + 15 * i.toNat) M = sz_ (aTX_ (zT_ Z) i) := by
  have hi := z.1
  have kx := k.1.2.2 i hi.1 hi.2
  have jx := j.1.2.2.2.2 i hi.1 hi.2
  obtain ⟨vA, vK, vP⟩ := jX_vl jx z.2
  obtain ⟨⟨c1, c2⟩, _⟩ := cX_row kx z.2 vA vP
  obtain ⟨_, _, _, _, _, _, _, _, q9⟩ := jx z.2
  obtain ⟨⟨q1, _⟩, _⟩ := jx z.2
  obtain ⟨_, _, _, _, p, _⟩ := kx.2.2 z.2
  have p5 : nn_rf M (s + 90 + 15 * i.toNat + 8) 5 = xn_ (aTX_ (zT_ Z) i) := p.1.1
  have pn := p.1.2
  have e10 : nn_ri M (s + 90 + 15 * i.toNat + 8 + 2) (xn_ (aTX_ (zT_ Z) i)) = pz_ (xg_ (aTX_ (zT_ Z) i)) (xn_ (aTX_ (zT_ Z) i)) := c2 _ pn.1 (Int.le_refl _)
  unfold nf_Index_size nf_Pile_size nc_Index_size nc_Pile_size
  rw [p5, e10, c1]
  have hz : sz_ (aTX_ (zT_ Z) i) = cz_ (xA_ (aTX_ (zT_ Z) i)) + pz_ (xg_ (aTX_ (zT_ Z) i)) (xn_ (aTX_ (zT_ Z) i)) := rfl
  have := sz_nn (aTX_ (zT_ Z) i)
  rw [← hz, mm_w_id (by omega)]
  exact ⟨by omega, rfl⟩
def trw_ (o b : Nat) : Prop := (161 ≤ o ∧ o < 320) ∨ tr_ 320 o b
theorem ct_LI_tried {bd x n what : Int} {Z : ab_Z} {M : mm_M} {R : Int → mm_M → Prop} (hw : -2147483648 ≤ what ∧ what < 2147483648) (hbd : 0 ≤ bd ∧ bd < 600000000) (k : cZ_ M 2 Z) (j : jZ_ bd Z) (hsl : sl_ M 320) (hsp : sl_ M 164) (hs0 : s0_ M 161)
    (h1 : tok_ n what Z → ∀ M', fr_ trw_ M M' → sl_ M' 320 → sl_ M' 164 → s0_ M' 161 → R (tra_ what (ldn_ n.toNat (x, Z)).2) M') (h0 : ¬ tok_ n what Z → R (-1) M) : nr_LI_tried x n what M R := by
  -- behind the tests
  have go : ∀ (v4 v5 : Int), tok_ n what Z → ((v4 = 1 ∧ (0 ≤ what ∧ what ≤ 13)) ∨ (v4 = 0 ∧ what < 30 ∧ 20 ≤ what ∧ v5 = what - 20) ∨ (v4 = 0 ∧ 30 ≤ what ∧ v5 = what - 30)) → nk_LI_tried_62 x n what v4 v5 M R := by
    intro v4 v5 hok hv
    have h1 := h1 hok
    have hn := hok.1
    refine ng_LI_tried_62 _ _ _ _ _ _ _ ?_
    refine ct_S_copy (s := 161) (w := 2) (Or.inr (Or.inl rfl)) (Or.inl rfl) (by decide) k j hsp hs0 (fun M1 f1 k1 => ?_)
    refine ct_S_loaded (Or.inr (Or.inl rfl)) hn ⟨hbd.1, by omega⟩ k1 j (fun M2 f2 k2 => ?_)
    have j2 : jZ_ (bd + 8000) (ldn_ n.toNat (x, Z)).2 := jZ_up (by omega) (jZ_ldn (o := (x, Z)) (by omega) j n.toNat (by omega))
    have f2' : fr_ (fun o _ => 161 ≤ o ∧ o < 320) M1 M2 := fr_mono f2 (fun o b y => by unfold sp4_ sp3_ sw_ at y; omega)
    have F2 : fr_ (fun o _ => 161 ≤ o ∧ o < 320) M M2 := fr_trans (fr_mono f1 (fun o b y => by omega)) f2'
    have F2' : fr_ trw_ M M2 := fr_mono F2 (fun o b y => Or.inl y)
    have s2 : sl_ M2 320 := sl_fr F2 (fun b y => by omega) hsl
    have s3 : sl_ M2 164 := k2.1.1.2.2.2.1
    have s5 : s0_ M2 161 := s0_cZ k2
    unfold tra_ at h1
    have ix2 : ∀ i, ix_ i (ldn_ n.toNat (x, Z)).2 ↔ ix_ i Z := fun i => ldn_ix (o := (x, Z))
    generalize (ldn_ n.toNat (x, Z)).2 = Z2 at *
    refine ⟨fun w => ?_, fun w => ?_⟩
    · rcases hv with ⟨v, _⟩ | ⟨_, v1, v2, v3⟩ | ⟨_, v1, v3⟩
      · omega
      · rw [if_neg (c := what ≤ 13) (by omega), if_pos (c := what < 30) v1] at h1
        have hix : ix_ (what - 20) Z2 := (ix2 _).mpr (by
          rcases hok.2 with y | y | y
          · omega
          · exact y.2
          · omega)
        rw [v3]
        refine ct_S_find k2 (fun y => absurd hix y) (fun y => ⟨fun _ => ⟨fun _ => ?_, fun y2 => by omega⟩, fun y2 => by omega⟩)
        obtain ⟨s4, s6⟩ := ct_X_size k2 j2 hix
        rw [s6]
        exact ⟨s4, h1 M2 F2' s2 s3 s5⟩
      · rw [if_neg (c := what ≤ 13) (by omega), if_neg (c := what < 30) (by omega)] at h1
        have hix : ix_ (what - 30) Z2 := (ix2 _).mpr (by
          rcases hok.2 with y | y | y
          · omega
          · omega
          · exact y.2)
        rw [v3]
        refine ct_S_find k2 (fun y => absurd hix y) (fun y => ⟨fun _ => ⟨fun y2 => by omega, fun _ => ?_⟩, fun y2 => by omega⟩)
        exact ct_X_waste (Or.inr (Or.inl rfl)) k2 j2 hix (h1 M2 F2' s2 s3 s5)
    · rcases hv with ⟨_, v⟩ | ⟨v, _⟩ | ⟨v, _⟩
      · rw [if_pos (c := what ≤ 13) v.2] at h1
        refine ct_S_counted (Or.inr rfl) ⟨by omega, by omega⟩ k2 j2 s2 (fun M3 f3 s4 => ?_)
        exact h1 M3 (fr_trans F2' (fr_mono f3 (fun o b y => Or.inr y))) s4 (sl_fr f3 (fun b y => by unfold tr_ at y; omega) s3) (s0_fr f3 (fun o b z z2 y => by unfold tr_ at y; omega) s5)
      · omega
      · omega
  have mid : ¬ (0 ≤ what ∧ what ≤ 13) → nk_LI_tried_14 x n what M R := by
    intro hne
    refine ng_LI_tried_14 _ _ _ _ _ ⟨fun w => ⟨fun y => h0 (fun v => absurd y (k_load.mpr v.1)), fun y => ?_⟩, fun w => ⟨fun y => h0 (fun v => absurd y (k_load.mpr v.1)), fun y => ?_⟩⟩
    · have hn := k_load.mp y
      by_cases hw20 : 20 ≤ what
      · rw [mm_w_id (x := what - 20) (by omega)]
        refine ct_S_find k (fun z => ⟨fun v => absurd rfl v, fun _ => h0 (fun v => ?_)⟩) (fun z => ⟨fun _ => ?_, fun v => by omega⟩)
        · rcases v.2 with u | u | u
          · exact hne u
          · exact z u.2
          · omega
        · have h3 := z.1
          exact go 0 (what - 20) ⟨hn, Or.inr (Or.inl ⟨by omega, z⟩)⟩ (Or.inr (Or.inl ⟨rfl, w, hw20, rfl⟩))
      · have hno : ¬ tok_ n what Z := fun v => by
          rcases v.2 with u | u | u
          · exact hne u
          · omega
          · omega
        refine ct_S_find k (fun z => ⟨fun v => absurd rfl v, fun _ => h0 hno⟩) (fun z => ?_)
        have h3 := z.1
        exfalso
        unfold mm_w at h3
        omega
    · have hn := k_load.mp y
      rw [mm_w_id (x := what - 30) (by omega)]
      refine ct_S_find k (fun z => ⟨fun v => absurd rfl v, fun _ => h0 (fun v => ?_)⟩) (fun z => ⟨fun _ => ?_, fun v => by omega⟩)
      · rcases v.2 with u | u | u
        · exact hne u
        · omega
        · exact z u.2
      · have h3 := z.1
        exact go 0 (what - 30) ⟨hn, Or.inr (Or.inr ⟨by omega, z⟩)⟩ (Or.inr (Or.inr ⟨rfl, w, rfl⟩))
  refine ng_LI_tried _ _ _ _ _ ⟨fun w => mid (by omega), fun w => ⟨fun w2 => mid (by omega), fun w2 => ⟨fun w3 => ⟨fun y => h0 (fun v => absurd y (k_load.mpr v.1)), fun y => ?_⟩, fun w3 => by omega⟩⟩⟩
  have hn := k_load.mp y
  exact go 1 _ ⟨hn, Or.inl ⟨w, w2⟩⟩ (Or.inl ⟨rfl, w, w2⟩)
theorem ct_M_tried {bd x n what : Int} {Z : ab_Z} {M : mm_M} {R : Int → mm_M → Prop} (hbd : 0 ≤ bd ∧ bd < 600000000) (k : mY_ bd M 0 Z) (j : jZ_ bd Z) (g : jI_ Z)
    (h1 : tok_ n what Z → ∀ M', fr_ mod_ M M' → mY_ bd M' 0 Z → R (tra_ what (ldn_ n.toNat (x, Z)).2) M') (h0 : ¬ tok_ n what Z → R (-1) M) : nr_M_tried x n what M R := by
  have hT : bk_ 5474 := by unfold bk_; omega
  have go : ∀ v4 : Int, tok_ n what Z → ((v4 = 0 ∧ (0 ≤ what ∧ what ≤ 13)) ∨ (v4 = 1 ∧ (20 ≤ what ∧ what ≤ 23) ∧ ix_ (what - 20) Z) ∨ (v4 = 1 ∧ (30 ≤ what ∧ what ≤ 33) ∧ ix_ (what - 30) Z)) → nk_M_tried_72 x n what v4 M R := by
    intro v4 hok hv
    have h1 := h1 hok
    have hn := hok.1
    refine ng_M_tried_72 _ _ _ _ _ _ ?_
    refine ct_M_copies bk_0 hT (by omega) (fun M1 f1 s1 => ?_)
    have k1 := mY_sh s1 j k
    refine ct_M_loads hT hn ⟨hbd.1, by omega⟩ k1 j (fun M2 f2 k2 => ?_)
    have j2 : jZ_ (bd + 8000) (ldn_ n.toNat (x, Z)).2 := jZ_up (by omega) (jZ_ldn (o := (x, Z)) (by omega) j n.toNat (by omega))
    have g2 : jI_ (ldn_ n.toNat (x, Z)).2 := jI_ldn (o := (x, Z)) (by omega) j g n.toNat (by omega)
    have F2 : fr_ (fun o c => (o = 408 ∧ 5474 ≤ c ∧ c < 10948) ∨ o = 407) M M2 := fr_trans (fr_mono f1 (fun o c y => Or.inl ⟨y.1, by have := y.2; omega, by have := y.2; omega⟩)) (fr_mono f2 (fun o c y => by
      rcases y with y | y
      · exact Or.inl ⟨y.1, by have := y.2; omega, by have := y.2; omega⟩
      · exact Or.inr y.1))
    have m2 : fr_ mod_ M M2 := fr_mono F2 (fun o c y => by unfold mod_; omega)
    have z2 : mY_ bd M2 0 Z := mY_407 bk_0 F2 (fun c c0 c1 y => by omega) j.2.1.2.2.2.2.1.2 j.2.2 k
    unfold tra_ at h1
    have ix2 : ∀ i, ix_ i (ldn_ n.toNat (x, Z)).2 ↔ ix_ i Z := fun i => ldn_ix (o := (x, Z))
    generalize (ldn_ n.toNat (x, Z)).2 = Z2 at *
    refine ⟨fun w => ?_, fun w => ?_⟩
    · rcases hv with ⟨v, _⟩ | ⟨_, v1, v2⟩ | ⟨_, v1, v2⟩
      · omega
      · rw [if_neg (c := what ≤ 13) (by omega), if_pos (c := what < 30) (by omega)] at h1
        have hix : ix_ (what - 20) Z2 := (ix2 _).mpr v2
        have kx := k2.1.1.2.2 (what - 20) hix.1.1 hix.1.2
        obtain ⟨vA, vK, vP⟩ := jX_vl (j2.1.2.2.2.2 (what - 20) hix.1.1 hix.1.2) hix.2
        obtain ⟨e, I, hE⟩ := mX_row kx hix.2 vA vP
        refine ⟨fun y => by omega, fun y => ⟨by omega, ?_⟩⟩
        have ha : nf_M_at 5474 (what % 10) = xi_ 5474 (what - 20) := by
          rw [show what % 10 = what - 20 by omega, nf_at hT hix.1]; rfl
        have hx : 5474 ≤ xi_ 5474 (what - 20) ∧ xi_ 5474 (what - 20) + 855 ≤ 32844 := by unfold xi_; omega
        rw [ha, mm_w_id (x := xi_ 5474 (what - 20) + 6) (by omega), e.1]
        exact ⟨by omega, h1 M2 m2 z2⟩
      · rw [if_neg (c := what ≤ 13) (by omega), if_neg (c := what < 30) (by omega)] at h1
        have hix : ix_ (what - 30) Z2 := (ix2 _).mpr v2
        have kx := k2.1.1.2.2 (what - 30) hix.1.1 hix.1.2
        obtain ⟨vA, vK, vP⟩ := jX_vl (j2.1.2.2.2.2 (what - 30) hix.1.1 hix.1.2) hix.2
        obtain ⟨e, I, hE⟩ := mX_row kx hix.2 vA vP
        refine ⟨fun y => ⟨by omega, ?_⟩, fun y => by omega⟩
        rw [show what % 10 = what - 30 by omega]
        exact ct_M_waste hT hix.1 k2.1.1.1 e I (h1 M2 m2 z2)
    · rcases hv with ⟨_, v⟩ | ⟨v, _⟩ | ⟨v, _⟩
      · rw [if_pos (c := what ≤ 13) v.2] at h1
        refine ct_M_counts (Or.inr rfl) ⟨by omega, by omega⟩ k2 j2 g2 (fun M3 f3 => ?_)
        refine h1 M3 (fr_trans m2 (fr_mono f3 (fun o c y => Or.inl ⟨y.1, by have := y.2; omega⟩))) (mY_407 bk_0 f3 (fun c c0 c1 y => by have := y.2; omega) j.2.1.2.2.2.2.1.2 j.2.2 z2)
      · omega
      · omega
  have m1 : ∀ i, nc_M_isIndex i M ∧ (nf_M_isIndex i M ≠ 0 ↔ ix_ i Z) := fun i => m_isIndex (i := i) k j
  have mid : ∀ v4 : Int, (1 ≤ n ∧ n ≤ 20) → ((v4 = 0 ∧ (0 ≤ what ∧ what ≤ 13)) ∨ (v4 = 1 ∧ ((20 ≤ what ∧ what ≤ 23) ∨ (30 ≤ what ∧ what ≤ 33)))) → nk_M_tried_54 x n what v4 M R := by
    intro v4 hn hv
    refine ng_M_tried_54 _ _ _ _ _ _ ⟨fun y => by omega, fun y => (m1 _).1, fun y => ?_, fun y => h0 (fun v => ?_)⟩
    · rcases hv with ⟨v, w⟩ | ⟨v, w | w⟩
      · exact go v4 ⟨hn, Or.inl w⟩ (Or.inl ⟨v, w⟩)
      · have z := (m1 (what % 10)).2.mp (y.resolve_left (by omega))
        rw [show what % 10 = what - 20 by omega] at z
        exact go v4 ⟨hn, Or.inr (Or.inl ⟨w, z⟩)⟩ (Or.inr (Or.inl ⟨v, w, z⟩))
      · have z := (m1 (what % 10)).2.mp (y.resolve_left (by omega))
        rw [show what % 10 = what - 30 by omega] at z
        exact go v4 ⟨hn, Or.inr (Or.inr ⟨w, z⟩)⟩ (Or.inr (Or.inr ⟨v, w, z⟩))
    · have z : ¬ ix_ (what % 10) Z := fun u => absurd y.2 ((m1 (what % 10)).2.mpr u)
      rcases v.2 with u | u | u
      · omega
      · rw [show what % 10 = what - 20 by omega] at z
        exact z u.2
      · rw [show what % 10 = what - 30 by omega] at z
        exact z u.2
  refine ng_M_tried _ _ _ _ _ ?_
  rw [k_in, k_in0, k_in, k_in0, k_in, k_in0, k_in, k_in0]
  refine ⟨fun w => ⟨fun y => h0 (fun v => y v.1), fun y => mid 1 y (Or.inr ⟨rfl, Or.inl w⟩)⟩, fun w => ⟨fun w2 => ⟨fun y => h0 (fun v => ?_), fun y => mid 0 y.1 (Or.inl ⟨rfl, y.2⟩)⟩, fun w2 => ⟨fun y => h0 (fun v => y v.1), fun y => mid 1 y (Or.inr ⟨rfl, Or.inr w2⟩)⟩⟩⟩
  rcases y with y | y
  · exact y v.1
  · rcases v.2 with u | u | u
    · exact y u
    · exact w u.1
    · exact w2 u.1
