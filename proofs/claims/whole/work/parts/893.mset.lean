/-! the Model: a merge of an index' runs: which entries are left, as sets -/
/-- the Model's row of entries shows MEMORY's set A and the runs' sets -/
def iE_ (k : Int) (E : Int → Int) (n : Int) (g : Int → ab_P) (A : Int → Prop) : Prop := ss_ E 0 k ∧ (∀ e, 0 ≤ e → e < k → E e / 4503599627370496 ≤ n) ∧ (∀ y, ve_ y → (sg_ E 0 k y ↔ A y)) ∧ ∀ r, 0 ≤ r → r < n → ∀ y, ve_ y → (sg_ E 0 k ((r + 1) * 4503599627370496 + y) ↔ (g r).2.2.2.2 y)
theorem rlb_mod {f m y : Int} : rlb_ f m y % 4503599627370496 = y % 4503599627370496 := by
  unfold rlb_
  by_cases z : f ≤ y / 4503599627370496 - 1 ∧ y / 4503599627370496 - 1 < f + m
  · rw [if_pos z]; omega
  · rw [if_neg z]
theorem uq_rlb {f m k : Int} {E : Int → Int} (h : ss_ E 0 k) : uq_ (fun e => rlb_ f m (E e)) k (fun y => y / 4503599627370496 = f + 1) := by
  intro a c a0 a1 c0 c1 e
  have e1 : rlb_ f m (E a) = rlb_ f m (E c) := e
  show a = c ∨ rlb_ f m (E a) / 4503599627370496 = f + 1
  by_cases za : f ≤ E a / 4503599627370496 - 1 ∧ E a / 4503599627370496 - 1 < f + m
  · right
    unfold rlb_
    rw [if_pos za]; omega
  · by_cases zc : f ≤ E c / 4503599627370496 - 1 ∧ E c / 4503599627370496 - 1 < f + m
    · right
      rw [e1]
      unfold rlb_
      rw [if_pos zc]; omega
    · left
      unfold rlb_ at e1
      rw [if_neg za, if_neg zc] at e1
      by_cases w : a < c
      · have := h a c a0 w c1; omega
      · by_cases v : c < a
        · have := h c a c0 v a1; omega
        · omega
theorem rlb_other {f m k z : Int} {E : Int → Int} (hz : z / 4503599627370496 ≠ f + 1) : sg_ (fun e => rlb_ f m (E e)) 0 k z ↔ (sg_ E 0 k z ∧ ¬ (f ≤ z / 4503599627370496 - 1 ∧ z / 4503599627370496 - 1 < f + m)) := by
  constructor
  · rintro ⟨e, e0, e1, e2⟩
    have e3 : rlb_ f m (E e) = z := e2
    unfold rlb_ at e3
    by_cases w : f ≤ E e / 4503599627370496 - 1 ∧ E e / 4503599627370496 - 1 < f + m
    · rw [if_pos w] at e3; omega
    · rw [if_neg w] at e3
      exact ⟨⟨e, e0, e1, e3⟩, e3 ▸ w⟩
  · rintro ⟨⟨e, e0, e1, e2⟩, w⟩
    refine ⟨e, e0, e1, ?_⟩
    show rlb_ f m (E e) = z
    unfold rlb_
    rw [e2, if_neg w]
theorem mgS_pass {f m n k mends : Int} {E E1 : Int → Int} {g : Int → ab_P} {A : Int → Prop} {lat : ab_V} (hf : 0 ≤ f) (hm : 1 ≤ m) (hn : f + m ≤ n) (hve : ∀ e, 0 ≤ e → e < k → ve_ (E e % 4503599627370496)) (hvl : vl_ n g) (hI : iE_ k E n g A) (h1 : ∀ y, sg_ E1 0 k y ↔ sg_ (fun e => rlb_ f m (E e)) 0 k y) {y : Int} (hy : ve_ y) : (sg_ E1 0 k ((f + 1) * 4503599627370496 + y) ∧ kpM_ f k mends E1 lat ((f + 1) * 4503599627370496 + y)) ↔ mgS_ g f m mends lat y := by
  obtain ⟨i1, i2, i3, i4⟩ := hI
  have B : ∀ y, ve_ y → (sg_ E1 0 k ((f + 1) * 4503599627370496 + y) ↔ un_ g f m y) := by
    intro y hy
    have hy0 := hy.1
    have hy1 := hy.2.1
    rw [h1]
    constructor
    · rintro ⟨e, e0, e1, e2⟩
      have e3 : rlb_ f m (E e) = (f + 1) * 4503599627370496 + y := e2
      have hw : f ≤ E e / 4503599627370496 - 1 ∧ E e / 4503599627370496 - 1 < f + m := by
        by_cases w : f ≤ E e / 4503599627370496 - 1 ∧ E e / 4503599627370496 - 1 < f + m
        · exact w
        · unfold rlb_ at e3
          rw [if_neg w] at e3
          omega
      unfold rlb_ at e3
      rw [if_pos hw] at e3
      have hi4 := i4 (E e / 4503599627370496 - 1) (by omega) (by omega) y hy
      exact ⟨E e / 4503599627370496 - 1, hw.1, hw.2, hi4.mp ⟨e, e0, e1, by omega⟩⟩
    · rintro ⟨r, r0, r1, hr⟩
      obtain ⟨e, e0, e1, e2⟩ := (i4 r (by omega) (by omega) y hy).mpr hr
      refine ⟨e, e0, e1, ?_⟩
      show rlb_ f m (E e) = _
      unfold rlb_
      rw [if_pos (by omega)]
      omega
  have hvu : ∀ z, un_ g f m z → ve_ z := by
    rintro z ⟨r, r0, r1, hr⟩
    exact hvl r (by omega) (by omega) z hr
  have hy0 := hy.1
  have hy1 := hy.2.1
  have ediv : ((f + 1) * 4503599627370496 + y) / 4503599627370496 = f + 1 := by omega
  have emod : ((f + 1) * 4503599627370496 + y) % 4503599627370496 = y := by omega
  unfold kpM_ mgS_ gr_
  rw [ediv, emod, B y hy]
  constructor
  · rintro ⟨a, b⟩
    obtain ⟨b1, b2⟩ := b rfl
    refine ⟨⟨a, fun z hz e => ?_⟩, b2⟩
    have := b1 ((f + 1) * 4503599627370496 + z) ((B z (hvu z hz)).mpr hz) (by unfold hi32_ at e ⊢; omega)
    omega
  · rintro ⟨⟨a, b⟩, c⟩
    refine ⟨a, fun _ => ⟨fun z hz e => ?_, c⟩⟩
    have zr : z = (f + 1) * 4503599627370496 + z % 4503599627370496 := by unfold hi32_ at e; omega
    have hvz : ve_ (z % 4503599627370496) := by
      obtain ⟨u, u0, u1, u2⟩ := (h1 z).mp hz
      have u3 : rlb_ f m (E u) = z := u2
      rw [← u3, rlb_mod]
      exact hve u u0 u1
    have hu : un_ g f m (z % 4503599627370496) := (B _ hvz).mp (by rw [← zr]; exact hz)
    have := b _ hu (by unfold hi32_ at e ⊢; omega)
    omega
