/-! would, both sides -/
theorem cn_ins {p q : Nat → Bool} {a : Nat} (hp : p a = false) (hq : ∀ k, q k = (p k || decide (k = a))) : ∀ {N : Nat}, a < N → cn_ q N = cn_ p N + 1
  | 0, h => absurd h (Nat.not_lt_zero _)
  | N + 1, h => by
    have s1 : cn_ q (N + 1) = cn_ q N + (if q N = true then 1 else 0) := rfl
    have s2 : cn_ p (N + 1) = cn_ p N + (if p N = true then 1 else 0) := rfl
    rw [s1, s2]
    by_cases z : a = N
    · have e : cn_ q N = cn_ p N := cn_cg (fun k hk => by rw [hq, decide_eq_false (by omega), Bool.or_false])
      rw [e, hq, ← z, hp, decide_eq_true rfl, Bool.or_true, if_pos rfl, if_neg (by decide)]
    · have ih := cn_ins hp hq (N := N) (by omega)
      rw [ih, hq N, decide_eq_false (fun w => z w.symm), Bool.or_false]
      omega
theorem cz_ins {S T : Int → Prop} {a : Int} (ha : ve_ a) (hn : ¬ S a) (h : ∀ y, T y ↔ y = a ∨ S y) : cz_ T = cz_ S + 1 := by
  unfold ve_ at ha
  have hv := ven_eq
  have ea : ((a.toNat : Nat) : Int) = a := by omega
  have hp : pb2_ S a.toNat = false := by
    cases y : pb2_ S a.toNat with
    | false => rfl
    | true =>
      have := pb2_t.mp y
      rw [ea] at this
      exact absurd this hn
  have := cn_ins (p := pb2_ S) (q := pb2_ T) (a := a.toNat) hp (fun k => by
    have key : pb2_ T k = true ↔ (pb2_ S k || decide (k = a.toNat)) = true := by
      rw [pb2_t, h, Bool.or_eq_true, pb2_t, decide_eq_true_eq]
      constructor
      · rintro (w | w)
        · exact Or.inr (by omega)
        · exact Or.inl w
      · rintro (w | w)
        · exact Or.inr w
        · exact Or.inl (by omega)
    cases h1 : pb2_ T k <;> cases h2 : (pb2_ S k || decide (k = a.toNat))
    · rfl
    · rw [h1, h2] at key; exact absurd (key.mpr rfl) (by decide)
    · rw [h1, h2] at key; exact absurd (key.mp rfl) (by decide)
    · rfl) (N := ven_) (by omega)
  unfold cz_
  omega
/-- an entry of a row that stays -/
def wyx_ (E : Int → Int) (s e mends : Int) (lat : ab_V) (i : Int) : Prop := (mends ≠ 0 → fs_ lat (E i) = true) ∧ ∀ j, s ≤ j → j < e → hi32_ (E j) = hi32_ (E i) → ¬ (E i < E j ∨ (E j = E i ∧ j < i))
noncomputable def wyb_ (E : Int → Int) (s e mends : Int) (lat : ab_V) (i : Int) : Bool := @decide (wyx_ E s e mends lat i) (Classical.propDecidable _)
theorem wyb_t {E : Int → Int} {s e mends : Int} {lat : ab_V} {i : Int} : wyb_ E s e mends lat i = true ↔ wyx_ E s e mends lat i := @decide_eq_true_iff _ (Classical.propDecidable _)
theorem wy_cz {E : Int → Int} {s e mends : Int} {lat : ab_V} (hv : ∀ i, s ≤ i → i < e → ve_ (E i)) : ∀ m : Nat, s + (m : Int) ≤ e → ct_ (wyb_ E s e mends lat) s m = cz_ (fun x => ∃ i, s ≤ i ∧ i < s + (m : Int) ∧ wyx_ E s e mends lat i ∧ E i = x)
  | 0, _ => by
    rw [cz_no (fun y => by rintro ⟨i, i0, i1, _⟩; omega)]
    rfl
  | m + 1, h => by
    have ih := wy_cz (E := E) (mends := mends) (lat := lat) hv m (by omega)
    have s1 : ct_ (wyb_ E s e mends lat) s (m + 1) = ct_ (wyb_ E s e mends lat) s m + (if wyb_ E s e mends lat (s + (m : Int)) = true then 1 else 0) := rfl
    rw [s1, ih]
    by_cases z : wyx_ E s e mends lat (s + (m : Int))
    · rw [if_pos (wyb_t.mpr z)]
      refine (cz_ins (a := E (s + (m : Int))) (hv _ (by omega) (by omega)) ?_ (fun y => ?_)).symm
      · rintro ⟨i, i0, i1, _, ie⟩
        exact z.2 i i0 (by omega) (by rw [ie]) (Or.inr ⟨ie, i1⟩)
      · constructor
        · rintro ⟨i, i0, i1, iw, ie⟩
          by_cases y2 : i = s + (m : Int)
          · rw [y2] at ie; exact Or.inl ie.symm
          · exact Or.inr ⟨i, i0, by omega, iw, ie⟩
        · rintro (w | ⟨i, i0, i1, iw, ie⟩)
          · exact ⟨s + (m : Int), by omega, by omega, z, w.symm⟩
          · exact ⟨i, i0, by omega, iw, ie⟩
    · rw [if_neg (fun w => z (wyb_t.mp w)), Int.add_zero]
      refine cz_cg (fun y => ⟨?_, ?_⟩)
      · rintro ⟨i, i0, i1, iw, ie⟩
        exact ⟨i, i0, by omega, iw, ie⟩
      · rintro ⟨i, i0, i1, iw, ie⟩
        by_cases y2 : i = s + (m : Int)
        · rw [y2] at iw; exact absurd iw z
        · exact ⟨i, i0, by omega, iw, ie⟩
theorem fst_occ {E : Int → Int} {s x : Int} : ∀ (t : Nat) (i : Int), s ≤ i → i < s + (t : Int) → E i = x → ∃ k, s ≤ k ∧ k ≤ i ∧ E k = x ∧ ∀ j, s ≤ j → j < k → E j ≠ x
  | 0, i, h0, h1, _ => by omega
  | t + 1, i, h0, h1, h2 => by
    by_cases z : ∃ j, s ≤ j ∧ j < i ∧ E j = x
    · obtain ⟨j, j0, j1, j2⟩ := z
      obtain ⟨k, k0, k1, k2, k3⟩ := fst_occ t j j0 (by omega) j2
      exact ⟨k, k0, by omega, k2, k3⟩
    · exact ⟨i, h0, Int.le_refl _, h2, fun j j0 j1 j2 => z ⟨j, j0, j1, j2⟩⟩
theorem wy_mg {E : Int → Int} {s e f m mends : Int} {g : Int → ab_P} {lat : ab_V} (hse : s ≤ e) (hu : ∀ x, sg_ E s e x ↔ un_ g f m x) (x : Int) : (∃ i, s ≤ i ∧ i < s + ((e - s).toNat : Int) ∧ wyx_ E s e mends lat i ∧ E i = x) ↔ mgS_ g f m mends lat x := by
  rw [show s + ((e - s).toNat : Int) = e by omega]
  constructor
  · rintro ⟨i, i0, i1, ⟨w1, w2⟩, ie⟩
    refine ⟨⟨(hu x).mp ⟨i, i0, i1, ie⟩, fun y hy hh => ?_⟩, fun z => by rw [← ie]; exact w1 z⟩
    obtain ⟨j, j0, j1, je⟩ := (hu y).mpr hy
    have := w2 j j0 j1 (by rw [je, ie]; exact hh)
    rw [je, ie] at this
    omega
  · rintro ⟨⟨h1, h2⟩, h3⟩
    obtain ⟨i, i0, i1, ie⟩ := (hu x).mpr h1
    obtain ⟨k, k0, k1, k2, k3⟩ := fst_occ (E := E) (s := s) (x := x) (i - s + 1).toNat i i0 (by omega) ie
    refine ⟨k, k0, by omega, ⟨fun z => by rw [k2]; exact h3 z, fun j j0 j1 hh => ?_⟩, k2⟩
    rw [k2] at hh ⊢
    have := h2 (E j) ((hu _).mp ⟨j, j0, j1, rfl⟩) hh
    rintro (w | ⟨w1, w2⟩)
    · omega
    · exact k3 j j0 w2 w1
theorem ct_P_wouldHave {p v : Nat} {n f m mends : Int} {g : Int → ab_P} {M : mm_M} {R : Int → mm_M → Prop} (k : pl_ M p n g) (hv : vl_ n g) (hf : 0 ≤ f) (hm : 0 ≤ m) (hfm : f + m ≤ n) (h : R (cz_ (mgS_ g f m mends (cv_ M v))) M) : nr_Pile_wouldHave p f m mends v M R := by
  have hn := k.1.2
  have q := pm_le k hf (show f ≤ f + m by omega) hfm
  have hu := un_sg k hf m.toNat (by omega)
  rw [show f + (m.toNat : Int) = f + m by omega, show ((m.toNat : Nat) : Int) = m by omega] at hu
  have hE : ∀ i, nn_ri M (p + 2) f ≤ i → i < nn_ri M (p + 2) (f + m) → ve_ (nn_ri M (p + 1) i) := fun i i0 i1 => by
    obtain ⟨r, r0, r1, r2⟩ := (hu _).mp ⟨i, i0, i1, rfl⟩
    exact hv r (by omega) (by omega) _ r2
  refine ng_Pile_wouldHave _ _ _ _ _ _ _ ?_
  rw [mm_w_id (x := f + m) (by omega)]
  refine ⟨by omega, by omega, ?_⟩
  intro x ex
  rw [ex]
  have hz := wy_cz (E := nn_ri M (p + 1)) (s := nn_ri M (p + 2) f) (e := nn_ri M (p + 2) (f + m)) (mends := mends) (lat := cv_ M v) hE (nn_ri M (p + 2) (f + m) - nn_ri M (p + 2) f).toNat (by omega)
  rw [cz_cg (wy_mg q.2.1 hu)] at hz
  rw [← hz] at h
  obtain ⟨q0, q1, q2⟩ := q
  generalize nn_ri M (p + 2) f = s at *
  generalize nn_ri M (p + 2) (f + m) = e at *
  have L : ∀ i : Int, i ≤ e → s ≤ i → nk_Pile_wouldHave_25 p mends v s e (ct_ (wyb_ (nn_ri M (p + 1)) s e mends (cv_ M v)) s (i - s).toNat) i M R := by
    refine lp_up (fun i hi ih i0 => ?_)
    have hc := ct_in (wyb_ (nn_ri M (p + 1)) s e mends (cv_ M v)) s (i - s).toNat
    refine ng_Pile_wouldHave_25 _ _ _ _ _ _ _ _ _ ⟨fun c => ?_, fun c => ?_⟩
    · rw [show i = e by omega]; exact h
    have ih := ih c (by omega)
    have e2 : ct_ (wyb_ (nn_ri M (p + 1)) s e mends (cv_ M v)) s (i + 1 - s).toNat = ct_ (wyb_ (nn_ri M (p + 1)) s e mends (cv_ M v)) s (i - s).toNat + (if wyb_ (nn_ri M (p + 1)) s e mends (cv_ M v) i = true then 1 else 0) := by
      rw [show (i + 1 - s).toNat = (i - s).toNat + 1 by omega]
      show ct_ (wyb_ (nn_ri M (p + 1)) s e mends (cv_ M v)) s (i - s).toNat + (if wyb_ (nn_ri M (p + 1)) s e mends (cv_ M v) (s + (((i - s).toNat : Nat) : Int)) = true then 1 else 0) = _
      rw [show s + (((i - s).toNat : Nat) : Int) = i by omega]
    rw [e2] at ih
    have vi := hE i i0 c
    -- behind the inner loop
    have out : ∀ st : Int, (st = 1 ∧ wyx_ (nn_ri M (p + 1)) s e mends (cv_ M v) i) ∨ (st = 0 ∧ ¬ wyx_ (nn_ri M (p + 1)) s e mends (cv_ M v) i) → nk_Pile_wouldHave_178 p mends v s e (ct_ (wyb_ (nn_ri M (p + 1)) s e mends (cv_ M v)) s (i - s).toNat) i st M R := by
      intro st hst
      refine ng_Pile_wouldHave_178 _ _ _ _ _ _ _ _ _ _ ?_
      rw [mm_w_id (x := i + 1) (by omega), mm_w_id (x := ct_ (wyb_ (nn_ri M (p + 1)) s e mends (cv_ M v)) s (i - s).toNat + 0) (by omega), mm_w_id (x := ct_ (wyb_ (nn_ri M (p + 1)) s e mends (cv_ M v)) s (i - s).toNat + 1) (by omega)]
      rcases hst with ⟨w1, w2⟩ | ⟨w1, w2⟩
      · rw [if_pos (wyb_t.mpr w2)] at ih
        exact ⟨fun y => by omega, fun _ => ih⟩
      · rw [if_neg (fun y => w2 (wyb_t.mp y))] at ih
        exact ⟨fun _ => ih, fun y => absurd w1 y⟩
    have stop : ∀ j : Int, s ≤ j → ¬ wyx_ (nn_ri M (p + 1)) s e mends (cv_ M v) i → nk_Pile_wouldHave_62 p mends v s e (ct_ (wyb_ (nn_ri M (p + 1)) s e mends (cv_ M v)) s (i - s).toNat) i 0 j M R := by
      intro j j0 hno
      exact ng_Pile_wouldHave_62 _ _ _ _ _ _ _ _ _ _ _ ⟨fun _ => out 0 (Or.inr ⟨rfl, hno⟩), fun _ => ⟨fun _ => out 0 (Or.inr ⟨rfl, hno⟩), fun y => absurd rfl y⟩⟩
    have LL : (mends ≠ 0 → fs_ (cv_ M v) (nn_ri M (p + 1) i) = true) → ∀ j : Int, j ≤ e → s ≤ j → (∀ l, s ≤ l → l < j → hi32_ (nn_ri M (p + 1) l) = hi32_ (nn_ri M (p + 1) i) → ¬ (nn_ri M (p + 1) i < nn_ri M (p + 1) l ∨ (nn_ri M (p + 1) l = nn_ri M (p + 1) i ∧ l < i))) → nk_Pile_wouldHave_62 p mends v s e (ct_ (wyb_ (nn_ri M (p + 1)) s e mends (cv_ M v)) s (i - s).toNat) i 1 j M R := by
      intro hfr
      refine lp_up (fun j hj ihj j0 hl => ?_)
      refine ng_Pile_wouldHave_62 _ _ _ _ _ _ _ _ _ _ _ ⟨fun d => out 1 (Or.inl ⟨rfl, hfr, fun l l0 l1 => hl l l0 (by omega)⟩), fun d => ⟨fun y => absurd y (by decide), fun _ => ⟨by omega, by omega, ?_⟩⟩⟩
      have vj := hE j j0 d
      have ihj := ihj d (by omega)
      have c1 : mm_lcmp (mm_lushr (nn_ri M (p + 1) i) 32) (mm_lushr (nn_ri M (p + 1) j) 32) = 0 ↔ hi32_ (nn_ri M (p + 1) j) = hi32_ (nn_ri M (p + 1) i) := by
        rw [lcmp_eq, lu32 vi, lu32 vj]
        exact ⟨fun y => y.symm, fun y => y.symm⟩
      have c2 := lcmp_gt (nn_ri M (p + 1) j) (nn_ri M (p + 1) i)
      have c3 := lcmp_eq (nn_ri M (p + 1) j) (nn_ri M (p + 1) i)
      have c4 := lcmp_le (nn_ri M (p + 1) j) (nn_ri M (p + 1) i)
      rw [mm_w_id (x := j + 1) (by omega)]
      have nx : ¬ (hi32_ (nn_ri M (p + 1) j) = hi32_ (nn_ri M (p + 1) i) ∧ (nn_ri M (p + 1) i < nn_ri M (p + 1) j ∨ (nn_ri M (p + 1) j = nn_ri M (p + 1) i ∧ j < i))) → nk_Pile_wouldHave_62 p mends v s e (ct_ (wyb_ (nn_ri M (p + 1)) s e mends (cv_ M v)) s (i - s).toNat) i 1 (j + 1) M R := by
        intro w
        refine ihj (fun l l0 l1 hh y => ?_)
        by_cases u : l = j
        · rw [u] at hh y; exact w ⟨hh, y⟩
        · exact hl l l0 (by omega) hh y
      have jn : ∀ b : Int, ¬ (hi32_ (nn_ri M (p + 1) j) = hi32_ (nn_ri M (p + 1) i) ∧ (nn_ri M (p + 1) i < nn_ri M (p + 1) j ∨ (nn_ri M (p + 1) j = nn_ri M (p + 1) i ∧ j < i))) → nk_Pile_wouldHave_152 p mends v s e (ct_ (wyb_ (nn_ri M (p + 1)) s e mends (cv_ M v)) s (i - s).toNat) i j b M R := by
        intro b w
        refine ng_Pile_wouldHave_152 _ _ _ _ _ _ _ _ _ _ _ ?_
        rw [mm_w_id (x := j + 1) (by omega)]
        exact nx w
      refine ⟨fun z => ⟨by omega, by omega, fun _ => by omega, fun _ => by omega, fun y => nx (fun w => z (c1.mpr w.1)), fun y => jn 0 (fun w => z (c1.mpr w.1))⟩, fun z => ⟨by omega, by omega, fun _ => by omega, fun _ => by omega, fun y => stop _ (by omega) (fun w => ?_), fun y => jn 1 (fun w => ?_)⟩⟩
      · exact w.2 j j0 d (c1.mp z) (y.imp c2.mp (fun v => ⟨c3.mp v.1, v.2⟩))
      · rcases w.2 with u | u
        · have := c4.mp y.1
          omega
        · rcases y.2 with v | v
          · exact v (c3.mpr u.1)
          · omega
    rw [nf_stale vi]
    refine ⟨fun _ => by omega, fun _ => nc_stale vi, fun y => LL (fun y2 => ?_) s q1 (Int.le_refl _) (fun l l0 l1 => by omega), fun y => stop _ (Int.le_refl _) (fun w => ?_)⟩
    · have y := y.resolve_left y2
      by_cases u : fs_ (cv_ M v) (nn_ri M (p + 1) i) = true
      · exact u
      · rw [if_neg u] at y; exact absurd y (by decide)
    · have := w.1 y.1
      rw [if_pos this] at y
      exact absurd rfl y.2
  have L0 := L s q1 (Int.le_refl _)
  rw [show (s - s).toNat = 0 by omega] at L0
  exact L0
def wok_ (i f m : Int) (Z : ab_Z) : Prop := ix_ i Z ∧ rok_ (xn_ (aTX_ (zT_ Z) i)) f m
noncomputable def wda_ (i f m : Int) (Z : ab_Z) : Int := cz_ (mgS_ (xg_ (aTX_ (zT_ Z) i)) f m (xm_ (aTX_ (zT_ Z) i)) (aTl_ (zT_ Z)))
theorem ct_LI_would {bd i f m : Int} {Z : ab_Z} {M : mm_M} {R : Int → mm_M → Prop} (hf : -2147483648 ≤ f ∧ f < 2147483648) (hm : -2147483648 ≤ m ∧ m < 2147483648) (k : cZ_ M 2 Z) (j : jZ_ bd Z) (h1 : wok_ i f m Z → R (wda_ i f m Z) M) (h0 : ¬ wok_ i f m Z → R (-1) M) : nr_LI_would i f m M R := by
  refine ng_LI_would _ _ _ _ _ ?_
  refine ct_S_find k (fun z => ⟨fun _ => h0 (fun w => z w.1), fun w => absurd rfl w.1⟩) (fun z => ?_)
  have hi := z.1
  have kx := k.1.2.2 i hi.1 hi.2
  obtain ⟨⟨a1, a2, a3, a4⟩, b, e1, ⟨e2, e3⟩, p, vv⟩ := kx.2.2 z.2
  have hin := j.1.2.2.2.2 i hi.1 hi.2
  obtain ⟨q1, q2, ⟨q3, q3b⟩, q4, q5, q6, q7, q8, q9⟩ := hin z.2
  obtain ⟨vA, vK, vP⟩ := jX_vl hin z.2
  have hrn : nf_Pile_hasRuns (2 + 90 + 15 * i.toNat + 8) f m M = nf_LI_areRuns f m (xn_ (aTX_ (zT_ Z) i)) := by
    unfold nf_Pile_hasRuns
    rw [p.1.1]
  rw [hrn]
  have hk := k_runs (n := xn_ (aTX_ (zT_ Z) i)) hf hm ⟨q3.1, by omega⟩
  refine ⟨fun y => h0 (fun v => ?_), fun y => ?_⟩
  · rcases y with y | y
    · omega
    · exact hk.mpr v.2 y
  · have hro := hk.mp y.2
    have h1 := h1 ⟨z, hro⟩
    obtain ⟨hf0, hm2, hfm⟩ := hro
    rw [a2]
    refine ct_P_wouldHave p vP hf0 (by omega) hfm ?_
    have hl : cv_ M 9 = aTl_ (zT_ Z) := k.1.1.2.1.1
    rw [hl]
    exact h1
theorem ct_M_would {bd i f m : Int} {Z : ab_Z} {M : mm_M} {R : Int → mm_M → Prop} (hbd : 0 ≤ bd ∧ bd < 800000000) (k : mY_ bd M 0 Z) (j : jZ_ bd Z) (h1 : wok_ i f m Z → ∀ M', fr_ mod_ M M' → mY_ bd M' 0 Z → R (wda_ i f m Z) M') (h0 : ¬ wok_ i f m Z → R (-1) M) : nr_M_would i f m M R := by
  have hT : bk_ 5474 := by unfold bk_; omega
  refine ng_M_would _ _ _ _ _ ⟨fun w => h0 (fun v => by have := v.1.1; omega), fun w => ?_⟩
  refine ct_M_areRuns k j (fun ho => ⟨fun _ => ?_, fun y => absurd y (by decide)⟩) (fun ho => ⟨fun y => absurd rfl y, fun _ => h0 (fun v => ho (Or.inr v))⟩)
  have hok : wok_ i f m Z := by
    rcases ho with ⟨w1, _⟩ | w1
    · exact absurd w1 w
    · exact w1
  have h1 := h1 hok
  obtain ⟨z, hf0, hm2, hfm⟩ := hok
  have hi := z.1
  refine ct_M_copies bk_0 hT (by omega) (fun M1 f1 s1 => ?_)
  have k1 := mY_sh s1 j k
  have z1 : mY_ bd M1 0 Z := mY_407 bk_0 f1 (fun c c0 c1 y => by have := y.2; omega) j.2.1.2.2.2.2.1.2 j.2.2 k
  have hx : 5474 + 1784 ≤ xi_ 5474 i ∧ xi_ 5474 i + 855 ≤ 5474 + 5204 := by unfold xi_; omega
  have ha : nf_M_at 5474 i = xi_ 5474 i := nf_at hT hi
  obtain ⟨⟨⟨kt, ⟨k0, k11, k2, k8⟩, kX⟩, kr⟩, g0, g1⟩ := k1
  have kx := kX i hi.1 hi.2
  obtain ⟨⟨a1, a2, a3, a4, a5, a6⟩, b1, c1, dh, kk, E, e, I⟩ := kx.2 z.2
  have hin := j.1.2.2.2.2 i hi.1 hi.2
  obtain ⟨q1, q2, ⟨q3, q3b⟩, q4, q5, q6, q7, q8, q9⟩ := hin z.2
  obtain ⟨vA, vK, vP⟩ := jX_vl hin z.2
  have hc := j.1.2.2.1
  have hme : xm_ (aTX_ (zT_ Z) i) = if nn_ri M1 408 (xi_ 5474 i + 2) = 1 then 1 else 0 := by
    rw [a2]
    rcases q1.2.2.1 with y | y
    · rw [y]; rfl
    · rw [y]; rfl
  rw [ha, mm_w_id (x := xi_ 5474 i + 5) (by omega), dh.1]
  refine ⟨by omega, ?_⟩
  intro x ex
  rw [ex]
  refine ct_M_mergesIndex (mends := xm_ (aTX_ (zT_ Z) i)) (A := xA_ (aTX_ (zT_ Z) i)) 0 hT hi hf0 (by omega) hfm dh (fun r r0 r1 => (q3b r r0 r1).1.1) kt e I vP hme (fun y hy hs p hp => ?_) (by rw [k8]; omega) (fun M2 k' E' f2 g2 h2 e2 I2 => ?_)
  · rcases hs with hs | ⟨r, r0, r1, hs⟩
    · exact ((q4 y (Or.inl hs)).2.2 p hp).1
    · exact ((q4 y (Or.inr (Or.inr ⟨r, r0, r1, hs⟩))).2.2 p hp).1
  have z2 : mY_ bd M2 0 Z := mY_407 bk_0 f2 (fun c c0 c1 y => by have := y.2; omega) j.2.1.2.2.2.2.1.2 j.2.2 z1
  have m2 : fr_ mod_ M M2 := fr_trans (fr_mono f1 (fun o c y => Or.inl ⟨y.1, by have := y.2; omega⟩)) (fr_mono f2 (fun o c y => Or.inl ⟨y.1, by have := y.2; omega⟩))
  have h1 := h1 M2 m2 z2
  unfold wda_ at h1
  rw [h2.1, mm_w_id (x := xn_ (aTX_ (zT_ Z) i) - m) (by omega), mm_w_id (x := f + 1) (by omega)]
  have hlk : lk_ (aTm_ (zT_ Z)) (aTn_ (zT_ Z)) (aTq_ (zT_ Z)) = aTl_ (zT_ Z) := rfl
  rw [hlk] at h2 I2
  rw [hlk]
  by_cases hp : ∃ y, mgS_ (xg_ (aTX_ (zT_ Z) i)) f m (xm_ (aTX_ (zT_ Z) i)) (aTl_ (zT_ Z)) y
  · have p1 := pk_1 hp
    rw [p1] at I2 h2 ⊢
    refine ⟨by omega, fun _ => ?_, fun y => by omega⟩
    refine ct_M_entriesOf ⟨by omega, by omega⟩ e2 ?_
    have hE2 : hE_ k' E' := fun q q0 q1 => ⟨(e2.2.2.2 q q0 q1).1, (e2.2.2.2 q q0 q1).2.1⟩
    have vl2 : vl_ (xn_ (aTX_ (zT_ Z) i) - (m - 1)) (mpg_ (xg_ (aTX_ (zT_ Z) i)) f m 0 (xm_ (aTX_ (zT_ Z) i)) (nn_ri M1 408 5474) (aTl_ (zT_ Z)) 0 (nn_ri M1 408 (5474 + 8) + 1)) := by
      intro r r0 r1
      exact mpg_all (P := fun x => ∀ y, x.2.2.2.2 y → ve_ y) hf0 (by omega) hfm (fun y hy => mgS_ve hf0 hfm vP y hy) (fun r r0 r1 y hy => vP r r0 r1 y hy) r r0 (by rw [p1]; exact r1)
    have hset : (mpg_ (xg_ (aTX_ (zT_ Z) i)) f m 0 (xm_ (aTX_ (zT_ Z) i)) (nn_ri M1 408 5474) (aTl_ (zT_ Z)) 0 (nn_ri M1 408 (5474 + 8) + 1) f).2.2.2.2 = mgS_ (xg_ (aTX_ (zT_ Z) i)) f m (xm_ (aTX_ (zT_ Z) i)) (aTl_ (zT_ Z)) := by
      unfold mpg_
      rw [if_pos p1]
      unfold stP_
      rw [if_pos rfl]
      rfl
    generalize mpg_ (xg_ (aTX_ (zT_ Z) i)) f m 0 (xm_ (aTX_ (zT_ Z) i)) (nn_ri M1 408 5474) (aTl_ (zT_ Z)) 0 (nn_ri M1 408 (5474 + 8) + 1) = g' at *
    obtain ⟨d1, d2⟩ := iE_div e2.2.1 I2 hE2 vA vl2 (r := f) ⟨hf0, by omega⟩
    obtain ⟨d3, d4⟩ := iE_div e2.2.1 I2 hE2 vA vl2 (r := f + 1) ⟨by omega, by omega⟩
    rw [pz_s hf0, hset] at d3 d4
    have cn := cz_nn (xA_ (aTX_ (zT_ Z) i))
    have pn := pz_nn g' f
    have sn := cz_nn (mgS_ (xg_ (aTX_ (zT_ Z) i)) f m (xm_ (aTX_ (zT_ Z) i)) (aTl_ (zT_ Z)))
    rw [ct_iv (a := cz_ (xA_ (aTX_ (zT_ Z) i)) + pz_ g' f) (b := cz_ (xA_ (aTX_ (zT_ Z) i)) + (pz_ g' f + cz_ (mgS_ (xg_ (aTX_ (zT_ Z) i)) f m (xm_ (aTX_ (zT_ Z) i)) (aTl_ (zT_ Z))))) k'.toNat (by omega) (by omega) (fun q q0 q1 => by
      show (E' q / 4503599627370496 == f + 1) = true ↔ _
      rw [beq_iff_eq]
      have y1 := d2 q q0 (by omega)
      have y2 := d4 q q0 (by omega)
      omega)]
    rw [show min (cz_ (xA_ (aTX_ (zT_ Z) i)) + (pz_ g' f + cz_ (mgS_ (xg_ (aTX_ (zT_ Z) i)) f m (xm_ (aTX_ (zT_ Z) i)) (aTl_ (zT_ Z))))) ((k'.toNat : Nat) : Int) - min (cz_ (xA_ (aTX_ (zT_ Z) i)) + pz_ g' f) ((k'.toNat : Nat) : Int) = cz_ (mgS_ (xg_ (aTX_ (zT_ Z) i)) f m (xm_ (aTX_ (zT_ Z) i)) (aTl_ (zT_ Z))) by omega]
    exact h1
  · have p0 := pk_0 hp
    rw [p0] at I2 h2 ⊢
    refine ⟨by omega, fun y => by omega, fun _ => ?_⟩
    rw [cz_no (fun y hy => hp ⟨y, hy⟩)] at h1
    exact h1
