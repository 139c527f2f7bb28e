/-! ids kept: merge, build; bytes kept: all -/
theorem jI_mer {i f m : Int} {Z : ab_Z} (ho : mok_ i f m Z) (j : jI_ Z) : jI_ (mer_ i f m Z) := by
  unfold mer_
  by_cases z : i = -1
  · rw [if_pos z]
    have hr : rok_ (aTn_ (zT_ Z)) f m := by
      rcases ho with w | w
      · exact w.2
      · have := w.1.1.1
        omega
    unfold rok_ at hr
    have h1 := tm1_gd (U := fun p => alC_ (zC_ Z) p ∨ ∃ i, 0 ≤ i ∧ i < 4 ∧ alX_ (aTX_ (zT_ Z) i) p) (f := f) (m := m) (level := hi_ (lvl_ (aTq_ (zT_ Z))) f m.toNat + 1) (sure := sur_ (aTX_ (zT_ Z))) (s := (0, (aTc_ (zT_ Z)).1, (aTc_ (zT_ Z)).2, aTl_ (zT_ Z), aTn_ (zT_ Z), aTq_ (zT_ Z))) hr.1 (by omega) hr.2.2 (gd_sub j (fun p hp => by
      rcases hp with (y | y) | y
      · exact Or.inl y
      · exact Or.inr (Or.inr y)
      · exact Or.inr (Or.inl y)) (Int.le_refl _) (Int.le_refl _))
    refine gd_sub h1 (fun p hp => ?_) (Int.le_refl _) (Int.le_refl _)
    rcases hp with y | y | y
    · exact Or.inl (Or.inl y)
    · exact Or.inr y
    · exact Or.inl (Or.inr y)
  · rw [if_neg z]
    rcases ho with w | w
    · exact absurd w.1 z
    · exact jI_setC (F := pmX_ f m (aTs_ (zT_ Z)) (aTl_ (zT_ Z))) Fid_pmX w.1.1 ⟨w.1.2, w.2⟩ j
theorem alX_kpn {lat : ab_V} {X : ab_X} {k : Nat} {p : Int × Int} (y : alX_ (kpn_ lat k X) p) : alX_ X p := by
  obtain ⟨s1, s2, s3, s4, s5, s6, s7, s8, s9⟩ := kpn_same (lat := lat) (X := X) k
  unfold alX_ at y ⊢
  rw [s1, s8, s9] at y
  exact y
theorem jI_bld {i n : Int} {Z : ab_Z} (ho : bok_ i n Z) (j : jI_ Z) : jI_ (bld_ i n Z) := by
  obtain ⟨⟨hi, h1⟩, hn⟩ := ho
  have hz : xh_ (aTX_ (zT_ Z) i) ≠ 0 := by rw [h1]; decide
  unfold bld_
  generalize (stp_ n (aTX_ (zT_ Z) i) - xl_ (aTX_ (zT_ Z) i)).toNat = k
  by_cases c : stp_ n (aTX_ (zT_ Z) i) < 32
  · rw [if_pos c]
    exact jI_setX (fun p y => Or.inr (Or.inr ⟨i, hi.1, hi.2, alX_kpn y⟩)) j
  · rw [if_neg c]
    by_cases c2 : xq_ (aTX_ (zT_ Z) i) = 0 ∨ cl_ (xv_ (aTl_ (zT_ Z)) (aTX_ (zT_ Z) i)) 32 = -1
    · rw [if_pos c2]
      refine jI_setC (J := fun X => xh_ X ≠ 0) (F := fun c X => fin_ c (kpn_ (aTl_ (zT_ Z)) k X)) (fun c X U hJ h => ?_) hi hz j
      refine Fid_fin c (kpn_ (aTl_ (zT_ Z)) k X) U ?_ (gd_sub h (fun p hp => hp.imp (fun y => y) alX_kpn) (Int.le_refl _) (Int.le_refl _))
      show xh_ (kpn_ (aTl_ (zT_ Z)) k X) ≠ 0
      rw [(kpn_same (lat := aTl_ (zT_ Z)) (X := X) k).1]
      exact hJ
    · rw [if_neg c2]
      exact jI_setX (fun p y => absurd rfl y.1) j
/-! the tape's bytes -/
def kbY_ (Z Z' : ab_Z) : Prop := zs_ Z' 20 = zs_ Z 20 ∧ zf_ Z' = zf_ Z
theorem kb_r {Z : ab_Z} : kbY_ Z Z := ⟨rfl, rfl⟩
theorem kb_t {Z Z1 Z2 : ab_Z} (h1 : kbY_ Z Z1) (h2 : kbY_ Z1 Z2) : kbY_ Z Z2 := ⟨h2.1.trans h1.1, h2.2.trans h1.2⟩
theorem jB_kb {Z Z' : ab_Z} (h : kbY_ Z Z') (j : jB_ Z) : jB_ Z' := fun i i0 i1 => by
  rw [h.2]
  exact j i i0 (by rw [← h.1]; exact i1)
theorem why20 {k0 a0 a1 a2 a3 a4 a5 : Int} {sc : Int → Int} (hk : k0 = 6 ∨ k0 = 7) : why_ (in1_ k0 sc) a0 a1 a2 a3 a4 a5 20 = sc 20 := by
  unfold why_ in1_
  rw [if_neg (by decide), if_neg (by decide), if_neg (by decide), if_neg (by decide), if_neg (by decide), if_neg (by decide), if_neg (by omega)]
theorem kb_why {k0 a0 a1 a2 a3 a4 a5 : Int} {Z : ab_Z} {T : ab_T} (hk : k0 = 6 ∨ k0 = 7) : kbY_ Z (why_ (in1_ k0 (zs_ Z)) a0 a1 a2 a3 a4 a5, T, zC_ Z, zf_ Z) := ⟨why20 (a0 := a0) (a1 := a1) (a2 := a2) (a3 := a3) (a4 := a4) (a5 := a5) (sc := zs_ Z) hk, rfl⟩
theorem kb_pt {which key row : Int} {Z : ab_Z} : kbY_ Z (pt_ which key row Z) := by
  unfold pt_
  split
  · exact kb_r
  · exact kb_why (Or.inl rfl)
theorem kb_rm {key : Int} {Z : ab_Z} : kbY_ Z (rm_ key Z) := ⟨rfl, rfl⟩
theorem kb_cg {key col num : Int} {Z : ab_Z} : kbY_ Z (cg_ key col num Z) := by
  cases hp : aTl_ (zT_ Z) key.toNat with
  | none => rw [(cg_no (Or.inl hp)).1]; exact kb_why (Or.inl rfl)
  | some p =>
    by_cases z : p.2 = -1
    · have e : p = (p.1, -1) := Prod.ext rfl z
      rw [(cg_no (Or.inr ⟨p.1, hp.trans (congrArg some e)⟩)).1]
      exact kb_why (Or.inl rfl)
    · rw [(cg_yes hp z).1]; exact kb_pt
theorem kb_ld1 {o : ab_O} : kbY_ o.2 (ld1_ o).2 := by
  unfold ld1_
  by_cases h0 : dn_ (dr_ o.1) 8 = 0
  · rw [if_pos h0]; exact kb_rm
  · rw [if_neg h0]
    by_cases h1 : dn_ (dr_ o.1) 8 = 1
    · rw [if_pos h1]; exact kb_cg
    · rw [if_neg h1]; exact kb_pt
theorem kb_ldn {o : ab_O} : ∀ n : Nat, kbY_ o.2 (ldn_ n o).2
  | 0 => kb_r
  | n + 1 => kb_t (kb_ldn n) kb_ld1
theorem kb_fls {Z : ab_Z} : kbY_ Z (fls_ Z) := by
  unfold fls_
  split
  · exact kb_r
  · exact ⟨rfl, rfl⟩
theorem kb_mer {i f m : Int} {Z : ab_Z} : kbY_ Z (mer_ i f m Z) := by
  unfold mer_
  split
  · exact ⟨rfl, rfl⟩
  · exact ⟨rfl, rfl⟩
theorem kb_bld {i n : Int} {Z : ab_Z} : kbY_ Z (bld_ i n Z) := by
  unfold bld_
  by_cases c : stp_ n (aTX_ (zT_ Z) i) < 32
  · rw [if_pos c]; exact ⟨rfl, rfl⟩
  · rw [if_neg c]
    by_cases c2 : xq_ (aTX_ (zT_ Z) i) = 0 ∨ cl_ (xv_ (aTl_ (zT_ Z)) (aTX_ (zT_ Z) i)) 32 = -1
    · rw [if_pos c2]; exact ⟨rfl, rfl⟩
    · rw [if_neg c2]; exact kb_why (Or.inr rfl)
theorem kb_set {what num : Int} {Z : ab_Z} (h : setc_ what num) : kbY_ Z (up1_ (3 + what) num (zs_ Z), zT_ Z, zC_ Z, zf_ Z) := ⟨up1_o (k := 3 + what) (v := num) (q := 20) (sc := zs_ Z) (by unfold setc_ at h; omega), rfl⟩
theorem cst20 {K : ab_K} {sc : Int → Int} : cst_ K sc 20 = sc 20 := by
  unfold cst_
  rw [if_neg (by decide), if_neg (by decide), if_neg (by decide), if_neg (by decide), if_neg (by decide)]
theorem kb_ask {i low high : Int} {Z : ab_Z} : kbY_ Z (ask_ i low high Z) := ⟨cst20 (K := jx_ (zT_ Z) (aTX_ (zT_ Z) i) low high (sz_ (aTX_ (zT_ Z) i)).toNat) (sc := zs_ Z), rfl⟩
theorem and255_in (x : Int) : 0 ≤ mm_and x 255 ∧ mm_and x 255 ≤ 255 := by
  rw [bb_and]
  have h : (BitVec.ofInt 32 x &&& BitVec.ofInt 32 255).toNat ≤ 255 := by
    rw [BitVec.toNat_and]
    exact Nat.le_trans Nat.and_le_right (by decide)
  rw [BitVec.toInt_eq_toNat_cond, if_pos (by omega)]
  omega
theorem ap_in {len four : Int} {f : Int → Int} (h : ∀ i, 0 ≤ i → i < len → 0 ≤ f i ∧ f i ≤ 255) : ∀ i, 0 ≤ i → 0 ≤ ap_ len four f i ∧ ap_ len four f i ≤ 255 := by
  intro i i0
  unfold ap_
  by_cases c : i < len
  · rw [if_pos c]; exact h i i0 c
  · rw [if_neg c]; exact and255_in _
theorem jB_fed {a b c d e : Int} {Z : ab_Z} (j : jB_ Z) : jB_ (fed_ a b c d e Z) := by
  unfold fed_
  by_cases z : zs_ Z 20 + 20 ≤ 200
  · rw [if_pos z]
    intro i i0 _
    exact ap_in (fun i i0 _ => ap_in (fun i i0 _ => ap_in (fun i i0 _ => ap_in (fun i i0 _ => ap_in (fun i i0 i1 => j i i0 i1) i i0) i i0) i i0) i i0) i i0
  · rw [if_neg z]; exact j
/-- what a build wants of the class's picture -/
theorem kz_cX {M : mm_M} {x : Nat} {st since lvb sb nb : Int} {mem lat : ab_V} {X : ab_X} (hz : xh_ X ≠ 0) (k : cX_ M x lat X) (j : jX_ st since lvb sb nb mem lat X) : kz_ X := by
  obtain ⟨_, _, _, ⟨q3, q4⟩, _, _⟩ := k.2.2 hz
  obtain ⟨_, vK, _⟩ := jX_vl j hz
  have h1 := es_cz q3 vK
  have h0 := q3.1
  rw [q4] at h1 h0
  exact ⟨h0, by omega⟩
