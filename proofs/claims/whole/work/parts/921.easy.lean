/-! simple calls, both sides: numbers, feed, end, fault, set -/
theorem k_key {v : Int} : nf_LI_isKey v ≠ 0 ↔ 0 ≤ v ∧ v < 32 := by unfold nf_LI_isKey; split <;> (try split) <;> omega
theorem k_num {v : Int} : nf_LI_isNumber v ≠ 0 ↔ 0 ≤ v ∧ v < 16 := by unfold nf_LI_isNumber; split <;> (try split) <;> omega
theorem k_col {v : Int} : nf_LI_isColumn v ≠ 0 ↔ 0 ≤ v ∧ v < 4 := by unfold nf_LI_isColumn; split <;> (try split) <;> omega
theorem k_load {v : Int} : nf_LI_isLoad v ≠ 0 ↔ 1 ≤ v ∧ v ≤ 20 := by unfold nf_LI_isLoad; split <;> (try split) <;> omega
theorem k_in {v a b : Int} : nf_M_isIn v a b ≠ 0 ↔ a ≤ v ∧ v ≤ b := by unfold nf_M_isIn; split <;> (try split) <;> omega
theorem k_in0 {v a b : Int} : nf_M_isIn v a b = 0 ↔ ¬ (a ≤ v ∧ v ≤ b) := by unfold nf_M_isIn; split <;> (try split) <;> omega
theorem k_keyM {v : Int} : nf_M_isKey v ≠ 0 ↔ 0 ≤ v ∧ v < 32 := by
  unfold nf_M_isKey
  rw [k_in]; omega
theorem k_rowM {a b c d : Int} : nf_M_areRow a b c d ≠ 0 ↔ (0 ≤ a ∧ a < 16) ∧ (0 ≤ b ∧ b < 16) ∧ (0 ≤ c ∧ c < 16) ∧ (0 ≤ d ∧ d < 16) := by
  unfold nf_M_areRow
  by_cases h1 : nf_M_isIn a 0 15 = 0
  · rw [if_pos h1]; rw [k_in0] at h1; constructor
    · intro z; exact absurd rfl z
    · intro z; omega
  rw [if_neg h1]
  have h1 := k_in.mp h1
  by_cases h2 : nf_M_isIn b 0 15 = 0
  · rw [if_pos h2]; rw [k_in0] at h2; constructor
    · intro z; exact absurd rfl z
    · intro z; omega
  rw [if_neg h2]
  have h2 := k_in.mp h2
  by_cases h3 : nf_M_isIn c 0 15 = 0
  · rw [if_pos h3]; rw [k_in0] at h3; constructor
    · intro z; exact absurd rfl z
    · intro z; omega
  rw [if_neg h3]
  have h3 := k_in.mp h3
  by_cases h4 : nf_M_isIn d 0 15 = 0
  · rw [if_pos h4]; rw [k_in0] at h4; constructor
    · intro z; exact absurd rfl z
    · intro z; omega
  rw [if_neg h4]
  have h4 := k_in.mp h4
  constructor
  · intro _; omega
  · intro _; decide
def up1_ (k v : Int) (sc : Int → Int) : Int → Int := fun q => if q = k then v else sc q
theorem up1_s {k v : Int} {sc : Int → Int} : up1_ k v sc k = v := if_pos rfl
theorem up1_o {k v q : Int} {sc : Int → Int} (h : q ≠ k) : up1_ k v sc q = sc q := if_neg h
def now_ (o _b : Nat) : Prop := 2 ≤ o ∧ o < 161
def mod_ (o c : Nat) : Prop := (o = 408 ∧ c < 16422) ∨ o = 407 ∨ o = 410
theorem bk_0 : bk_ 0 := by unfold bk_; omega
/-- the tape alone is written -/
theorem cR_tape {M M' : mm_M} {s : Nat} {sc : Int → Int} {C : Int → ab_D} {f f' : Int → Int} {len : Int} (h : fr_ (fun o _ => o = s + 1 ∨ o = s + 2) M M') (ht : tp_ M' (s + 1) len f') (k : cR_ M s sc C f) : cR_ M' s (up1_ 20 len sc) C f' := by
  obtain ⟨⟨x1, x2, x3, x4, x5, x6⟩, b, ⟨c1, c2, c3, c4, c5⟩, d, e⟩ := k
  have rf : ∀ o b, o ≠ s + 1 → o ≠ s + 2 → nn_rf M' o b = nn_rf M o b := fun o b z z2 => fr_rf h (fun y => by omega)
  refine ⟨⟨?_, ?_, ?_, ?_, ?_, ?_⟩, fun i i0 i1 => ?_, ⟨?_, ?_, ?_, ?_, ?_⟩, ?_, fun i i0 i1 => cu2_fr h (fun o b z z2 z3 => by omega) (e i i0 i1)⟩
  · rw [up1_o (by omega), rf _ _ (by omega) (by omega)]; exact x1
  · rw [up1_o (by omega), rf _ _ (by omega) (by omega)]; exact x2
  · rw [up1_o (by omega), rf _ _ (by omega) (by omega)]; exact x3
  · rw [up1_o (by omega), rf _ _ (by omega) (by omega)]; exact x4
  · rw [up1_o (by omega), rf _ _ (by omega) (by omega)]; exact x5
  · rw [up1_o (by omega), rf _ _ (by omega) (by omega)]; exact x6
  · rw [wy_cg (up1_o (k := 20) (by omega)) (up1_o (k := 20) (by omega)), fr_ri h (fun y => by omega)]; exact b i i0 i1
  · rw [up1_o (by omega), rf _ _ (by omega) (by omega)]; exact c1
  · rw [up1_o (by omega), rf _ _ (by omega) (by omega)]; exact c2
  · rw [up1_o (by omega), rf _ _ (by omega) (by omega)]; exact c3
  · rw [up1_o (by omega), rf _ _ (by omega) (by omega)]; exact c4
  · rw [up1_o (by omega), rf _ _ (by omega) (by omega)]; exact c5
  · rw [up1_s]; exact ht
theorem cT_out {P : Nat → Nat → Prop} {M M' : mm_M} {s : Nat} {T : ab_T} (h : fr_ P M M') (hv : ∀ o b, sw_ s o b → ¬ P o b) (k : cT_ M s T) : cT_ M' s T := cT_fr h hv k
/-- one place of the Model's header is written -/
theorem mR_up {M M' : mm_M} {b k v : Int} {sc : Int → Int} {C : Int → ab_D} {f : Int → Int} (hb : bk_ b) (hk : hd_ k) (h : fr_ (fun o c => o = 408 ∧ (c : Int) = b + k) M M') (hv : nn_ri M' 408 (b + k) = v) (hl : sc 20 ≤ 200) (hl2 : k = 20 → v ≤ sc 20) (hc : cw_ C) (kr : mR_ M b sc C f) : mR_ M' b (up1_ k v sc) C f := by
  have hb' := hb
  unfold bk_ at hb'
  unfold hd_ at hk
  obtain ⟨r1, r2, r3⟩ := kr
  have rd : ∀ c, b ≤ c → c ≠ b + k → nn_ri M' 408 c = nn_ri M 408 c := fun c z0 z1 => fr_ri h (fun y => by have := y.2; omega)
  refine ⟨fun q hq => ?_, fun i i0 i1 => ?_, fun i i0 i1 => ?_⟩
  · by_cases z : q = k
    · rw [z, up1_s]; exact hv
    · rw [up1_o z, rd _ (by unfold hd_ at hq; omega) (by omega)]; exact r1 q hq
  · have i2 : i < sc 20 := by
      by_cases z : k = 20
      · rw [← z, up1_s] at i1
        have := hl2 z
        omega
      · rw [up1_o (by omega)] at i1; exact i1
    rw [rd _ (by omega) (by omega)]; exact r2 i i0 i2
  · have := hc i i0 i1
    exact mC_cg (fun c z0 z1 => rd c (by omega) (by omega)) this.2.1.2 this.2.2.2.2 (r3 i i0 i1)
theorem mY_up1 {M M' : mm_M} {bd b k v : Int} {Z : ab_Z} (hb : bk_ b) (hk : hd_ k) (h : fr_ (fun o c => o = 408 ∧ (c : Int) = b + k) M M') (hv : nn_ri M' 408 (b + k) = v) (hl2 : k = 20 → v ≤ zs_ Z 20) (j : jZ_ bd Z) (y : mY_ bd M b Z) : mY_ bd M' b (up1_ k v (zs_ Z), zT_ Z, zC_ Z, zf_ Z) := by
  have hb' := hb
  unfold bk_ at hb'
  have hk' := hk
  unfold hd_ at hk'
  obtain ⟨⟨kt, kr⟩, g0, g1⟩ := y
  refine ⟨⟨mT_fr h hb (fun c z y => by have := y.2; unfold mcore_ at z; omega) kt, mR_up hb hk h hv j.2.1.2.2.2.2.1.2 hl2 j.2.2 kr⟩, ?_, ?_⟩
  · rw [fr_ri h (fun y => by have := y.2; omega)]; exact g0
  · rw [fr_ri h (fun y => by have := y.2; omega)]; exact g1
/-- end -/
def end_ (n : Int) (Z : ab_Z) : ab_Z := if 0 ≤ n ∧ n ≤ zs_ Z 20 then (up1_ 20 n (zs_ Z), zT_ Z, zC_ Z, zf_ Z) else Z
def enda_ (n : Int) (Z : ab_Z) : Int := if 0 ≤ n ∧ n ≤ zs_ Z 20 then n else -1
theorem ct_LI_end {n : Int} {Z : ab_Z} {M : mm_M} {R : Int → mm_M → Prop} (k : cZ_ M 2 Z) (h : ∀ M', fr_ now_ M M' → cZ_ M' 2 (end_ n Z) → R (enda_ n Z) M') : nr_LI_end n M R := by
  obtain ⟨kt, kr⟩ := k
  have hl : nn_rf M 3 1 = zs_ Z 20 := kr.2.2.2.1.1
  refine ng_LI_end _ _ _ ?_
  rw [hl]
  refine ⟨fun z => ?_, fun z => ?_⟩
  · have e1 : end_ n Z = Z := if_neg (by omega)
    have e2 : enda_ n Z = -1 := if_neg (by omega)
    rw [e1, e2] at h
    exact h M (fr_refl M) ⟨kt, kr⟩
  · have e1 : end_ n Z = (up1_ 20 n (zs_ Z), zT_ Z, zC_ Z, zf_ Z) := if_pos (by omega)
    have e2 : enda_ n Z = n := if_pos (by omega)
    rw [e1, e2] at h
    rintro _ rfl
    have u : fr_ (fun o _ => o = 3 ∨ o = 4) M (nn_uf M 3 1 n) := fr_uf (fr_refl M) (Or.inl rfl)
    have ht := kr.2.2.2.1
    refine h _ (fr_mono u (fun o b y => by unfold now_; omega)) ⟨cT_fr u (fun o b y y2 => by unfold sw_ at y; omega) kt, cR_tape (s := 2) u ⟨by rw [rd_ff, if_pos ⟨rfl, rfl⟩], by omega, by have := ht.2.2.1; omega, fun i i0 i1 => ?_⟩ kr⟩
    rw [rd_if, if_neg (by omega)]
    exact ht.2.2.2 i i0 (by omega)
theorem ct_M_end {bd n : Int} {Z : ab_Z} {M : mm_M} {R : Int → mm_M → Prop} (k : mY_ bd M 0 Z) (j : jZ_ bd Z) (h : ∀ M', fr_ mod_ M M' → mY_ bd M' 0 (end_ n Z) → R (enda_ n Z) M') : nr_M_end n M R := by
  have hl : nn_ri M 408 20 = zs_ Z 20 := by
    have := k.1.2.1 20 (by unfold hd_; omega)
    rw [show (0 : Int) + 20 = 20 by omega] at this
    exact this
  refine ng_M_end _ _ _ ?_
  rw [hl, k_in, k_in0]
  refine ⟨fun z => ?_, fun z => ?_⟩
  · have e1 : end_ n Z = (up1_ 20 n (zs_ Z), zT_ Z, zC_ Z, zf_ Z) := if_pos z
    have e2 : enda_ n Z = n := if_pos z
    rw [e1, e2] at h
    rintro _ rfl
    have u : fr_ (fun o c => o = 408 ∧ (c : Int) = 0 + 20) M (nn_ui M 408 20 n) := fr_ui (fr_refl M) ⟨rfl, by omega⟩
    exact h _ (fr_mono u (fun o c y => Or.inl ⟨y.1, by have := y.2; omega⟩)) (mY_up1 bk_0 (by unfold hd_; omega) u (by rw [rd_ii, if_pos ⟨rfl, by decide⟩]) (fun _ => z.2) j k)
  · have e1 : end_ n Z = Z := if_neg z
    have e2 : enda_ n Z = -1 := if_neg z
    rw [e1, e2] at h
    exact h M (fr_refl M) k
theorem jZ_end {bd n : Int} {Z : ab_Z} (j : jZ_ bd Z) : jZ_ bd (end_ n Z) := by
  unfold end_
  by_cases z : 0 ≤ n ∧ n ≤ zs_ Z 20
  · rw [if_pos z]
    obtain ⟨a, ⟨b1, b2, b3, b4, b5, b6⟩, c⟩ := j
    refine ⟨a, ?_, c⟩
    show (2 ≤ up1_ 20 n (zs_ Z) 3 ∧ up1_ 20 n (zs_ Z) 3 ≤ 12) ∧ (2 ≤ up1_ 20 n (zs_ Z) 4 ∧ up1_ 20 n (zs_ Z) 4 ≤ 4) ∧ (0 ≤ up1_ 20 n (zs_ Z) 6 ∧ up1_ 20 n (zs_ Z) 6 ≤ bd) ∧ (0 ≤ up1_ 20 n (zs_ Z) 7 ∧ up1_ 20 n (zs_ Z) 7 ≤ bd) ∧ (0 ≤ up1_ 20 n (zs_ Z) 20 ∧ up1_ 20 n (zs_ Z) 20 ≤ 200) ∧ (up1_ 20 n (zs_ Z) 15 = 0 ∨ up1_ 20 n (zs_ Z) 15 = 1)
    rw [up1_o (q := 3) (by omega), up1_o (q := 4) (by omega), up1_o (q := 6) (by omega), up1_o (q := 7) (by omega), up1_s, up1_o (q := 15) (by omega)]
    exact ⟨b1, b2, b3, b4, by omega, b6⟩
  · rw [if_neg z]; exact j
/-- fault -/
def flta_ (what : Int) (Z : ab_Z) : Int := if what = 0 then zs_ Z 21 else if what = 1 then zs_ Z 22 else -1
theorem nf_fault {what : Int} {Z : ab_Z} {M : mm_M} (k : cZ_ M 2 Z) : nf_LI_fault what M = flta_ what Z := by
  obtain ⟨kt, ⟨_, _, _, _, x5, x6⟩, _⟩ := k
  unfold nf_LI_fault flta_
  rw [x5, x6]
  by_cases h0 : what = 0
  · rw [if_neg (fun z => z h0), if_pos h0]
  · rw [if_pos h0, if_neg h0]
    by_cases h1 : what = 1
    · rw [if_neg (fun z => z h1), if_pos h1]
    · rw [if_pos h1, if_neg h1]
theorem nf_faultM {bd what : Int} {Z : ab_Z} {M : mm_M} (k : mY_ bd M 0 Z) : nf_M_fault what M = flta_ what Z := by
  have x5 : nn_ri M 408 21 = zs_ Z 21 := by
    have := k.1.2.1 21 (by unfold hd_; omega)
    rw [show (0 : Int) + 21 = 21 by omega] at this
    exact this
  have x6 : nn_ri M 408 22 = zs_ Z 22 := by
    have := k.1.2.1 22 (by unfold hd_; omega)
    rw [show (0 : Int) + 22 = 22 by omega] at this
    exact this
  unfold nf_M_fault flta_
  rw [x5, x6]
  by_cases h0 : what = 0
  · rw [if_neg (fun z => z h0), if_pos h0]
  · rw [if_pos h0, if_neg h0]
    by_cases h1 : what = 1
    · rw [if_neg (fun z => z h1), if_pos h1]
    · rw [if_pos h1, if_neg h1]
/-- set -/
def setc_ (what num : Int) : Prop := (what = 0 ∧ 2 ≤ num ∧ num ≤ 12) ∨ (what = 1 ∧ 2 ≤ num ∧ num ≤ 4)
theorem cR_room {M : mm_M} {k : Int} {b : Nat} {s : Nat} {v : Int} {sc : Int → Int} {C : Int → ab_D} {f : Int → Int} (hk : (k = 3 ∧ b = 7) ∨ (k = 4 ∧ b = 8)) (kr : cR_ M s sc C f) : cR_ (nn_uf M s b v) s (up1_ k v sc) C f := by
  obtain ⟨⟨x1, x2, x3, x4, x5, x6⟩, bb, ⟨c1, c2, c3, c4, c5⟩, d, e⟩ := kr
  have u : fr_ (fun o b' => o = s ∧ b' = b) M (nn_uf M s b v) := fr_uf (fr_refl M) ⟨rfl, rfl⟩
  have rf : ∀ o b', ¬ (o = s ∧ b' = b) → nn_rf (nn_uf M s b v) o b' = nn_rf M o b' := fun o b z => fr_rf u z
  refine ⟨⟨?_, ?_, ?_, ?_, ?_, ?_⟩, fun i i0 i1 => ?_, ⟨?_, ?_, ?_, ?_, ?_⟩, ?_, fun i i0 i1 => cu2_fr u (fun o b z z2 z3 => by omega) (e i i0 i1)⟩
  · rcases hk with ⟨h1, h2⟩ | ⟨h1, h2⟩
    · rw [h1, h2, up1_s, rd_ff, if_pos ⟨rfl, rfl⟩]
    · rw [up1_o (by omega), rf _ _ (by omega)]; exact x1
  · rcases hk with ⟨h1, h2⟩ | ⟨h1, h2⟩
    · rw [up1_o (by omega), rf _ _ (by omega)]; exact x2
    · rw [h1, h2, up1_s, rd_ff, if_pos ⟨rfl, rfl⟩]
  · rw [up1_o (by omega), rf _ _ (by omega)]; exact x3
  · rw [up1_o (by omega), rf _ _ (by omega)]; exact x4
  · rw [up1_o (by omega), rf _ _ (by omega)]; exact x5
  · rw [up1_o (by omega), rf _ _ (by omega)]; exact x6
  · rw [wy_cg (up1_o (by omega)) (up1_o (by omega)), fr_ri u (fun y => by omega)]; exact bb i i0 i1
  · rw [up1_o (by omega), rf _ _ (by omega)]; exact c1
  · rw [up1_o (by omega), rf _ _ (by omega)]; exact c2
  · rw [up1_o (by omega), rf _ _ (by omega)]; exact c3
  · rw [up1_o (by omega), rf _ _ (by omega)]; exact c4
  · rw [up1_o (by omega), rf _ _ (by omega)]; exact c5
  · rw [up1_o (by omega)]; exact tp_fr u (fun o b z z2 z3 => by omega) d
theorem ct_LI_set {what num : Int} {Z : ab_Z} {M : mm_M} {R : Int → mm_M → Prop} (k : cZ_ M 2 Z) (h1 : setc_ what num → ∀ M', fr_ now_ M M' → cZ_ M' 2 (up1_ (3 + what) num (zs_ Z), zT_ Z, zC_ Z, zf_ Z) → R 1 M') (h0 : ¬ setc_ what num → R 0 M) : nr_LI_set what num M R := by
  obtain ⟨kt, kr⟩ := k
  have yes : ∀ b : Nat, ((3 + what = 3 ∧ b = 7) ∨ (3 + what = 4 ∧ b = 8)) → setc_ what num → R 1 (nn_uf M 2 b num) := by
    intro b hb hs
    have u : fr_ (fun o b' => o = 2 ∧ b' = b) M (nn_uf M 2 b num) := fr_uf (fr_refl M) ⟨rfl, rfl⟩
    exact h1 hs _ (fr_mono u (fun o b y => by unfold now_; omega)) ⟨cT_fr u (fun o b y y2 => by unfold sw_ at y; omega) kt, cR_room hb kr⟩
  have no : what ≠ 0 ∨ num < 2 ∨ 12 < num → ((what ≠ 1 ∨ (num < 2 ∨ (4 < num))) → R 0 M) ∧ ((what = 1 ∧ (2 ≤ num ∧ (num ≤ 4))) → (∀ M45 : mm_M, M45 = nn_uf M 2 8 num → R 1 M45)) := by
    intro z
    refine ⟨fun y => h0 (by unfold setc_; omega), fun y => ?_⟩
    rintro _ rfl
    exact yes 8 (by omega) (by unfold setc_; omega)
  refine ng_LI_set _ _ _ _ ⟨fun z => no (Or.inl z), fun z => ⟨fun y => no (Or.inr (Or.inl y)), fun y => ⟨fun w => no (Or.inr (Or.inr w)), fun w => ?_⟩⟩⟩
  rintro _ rfl
  exact yes 7 (by omega) (by unfold setc_; omega)
theorem ct_M_set {bd what num : Int} {Z : ab_Z} {M : mm_M} {R : Int → mm_M → Prop} (k : mY_ bd M 0 Z) (j : jZ_ bd Z) (h1 : setc_ what num → ∀ M', fr_ mod_ M M' → mY_ bd M' 0 (up1_ (3 + what) num (zs_ Z), zT_ Z, zC_ Z, zf_ Z) → R 1 M') (h0 : ¬ setc_ what num → R 0 M) : nr_M_set what num M R := by
  refine ng_M_set _ _ _ _ ?_
  simp only [k_in, k_in0]
  refine ⟨fun z => ?_, fun z => ?_, fun z => ?_, fun z => ?_, fun z => ?_⟩
  · rw [mm_w_id (by omega)]; omega
  · rw [mm_w_id (by omega)]; omega
  · rw [mm_w_id (by omega)]; omega
  · exact h0 (by unfold setc_; omega)
  · have hs : setc_ what num := by unfold setc_; omega
    have hw : what = 0 ∨ what = 1 := by unfold setc_ at hs; omega
    rw [mm_w_id (by omega)]
    rintro _ rfl
    have u : fr_ (fun o c => o = 408 ∧ (c : Int) = 0 + (3 + what)) M (nn_ui M 408 (3 + what) num) := fr_ui (fr_refl M) ⟨rfl, by omega⟩
    exact h1 hs _ (fr_mono u (fun o c y => Or.inl ⟨y.1, by have := y.2; omega⟩)) (mY_up1 bk_0 (by unfold hd_; omega) u (by rw [rd_ii, if_pos ⟨rfl, by congr 1; omega⟩]) (fun z => by omega) j k)
theorem jZ_set {bd what num : Int} {Z : ab_Z} (hs : setc_ what num) (j : jZ_ bd Z) : jZ_ bd (up1_ (3 + what) num (zs_ Z), zT_ Z, zC_ Z, zf_ Z) := by
  unfold setc_ at hs
  obtain ⟨a, ⟨b1, b2, b3, b4, b5, b6⟩, c⟩ := j
  refine ⟨a, ?_, c⟩
  show (2 ≤ up1_ (3 + what) num (zs_ Z) 3 ∧ up1_ (3 + what) num (zs_ Z) 3 ≤ 12) ∧ (2 ≤ up1_ (3 + what) num (zs_ Z) 4 ∧ up1_ (3 + what) num (zs_ Z) 4 ≤ 4) ∧ (0 ≤ up1_ (3 + what) num (zs_ Z) 6 ∧ up1_ (3 + what) num (zs_ Z) 6 ≤ bd) ∧ (0 ≤ up1_ (3 + what) num (zs_ Z) 7 ∧ up1_ (3 + what) num (zs_ Z) 7 ≤ bd) ∧ (0 ≤ up1_ (3 + what) num (zs_ Z) 20 ∧ up1_ (3 + what) num (zs_ Z) 20 ≤ 200) ∧ (up1_ (3 + what) num (zs_ Z) 15 = 0 ∨ up1_ (3 + what) num (zs_ Z) 15 = 1)
  rw [up1_o (q := 6) (by omega), up1_o (q := 7) (by omega), up1_o (q := 20) (by omega), up1_o (q := 15) (by omega)]
  rcases hs with ⟨h1, h2⟩ | ⟨h1, h2⟩
  · subst h1
    rw [show (3 : Int) + 0 = 3 by omega, up1_s, up1_o (q := 4) (by omega)]
    exact ⟨h2, b2, b3, b4, b5, b6⟩
  · subst h1
    rw [show (3 : Int) + 1 = 4 by omega, up1_s, up1_o (q := 3) (by omega)]
    exact ⟨b1, h2, b3, b4, b5, b6⟩
