/-! the Model: a merge of an index' runs: the row of entries behind it shows the class's runs behind it -/
theorem gsM_mono {f d m p y z : Int} (hd : d = m - p) (hp : p = 0 ∨ p = 1) (hm : 1 ≤ m) (vy : y / 4503599627370496 ≤ f + 1 ∨ f + m < y / 4503599627370496) (vz : z / 4503599627370496 ≤ f + 1 ∨ f + m < z / 4503599627370496) (py : p = 0 → y / 4503599627370496 ≠ f + 1) (h : y < z) : gsM_ f d y < gsM_ f d z := by
  unfold gsM_
  by_cases a : f + 1 < y / 4503599627370496
  · rw [if_pos a]
    by_cases b : f + 1 < z / 4503599627370496
    · rw [if_pos b]; omega
    · rw [if_neg b]; omega
  · rw [if_neg a]
    by_cases b : f + 1 < z / 4503599627370496
    · rw [if_pos b]; omega
    · rw [if_neg b]; omega
theorem iE_merge {f m n k k2 mends : Int} {E E1 E2 : Int → Int} {g : Int → ab_P} {A : Int → Prop} {lat : ab_V} (level stamp cid mid : Int) (hf : 0 ≤ f) (hm : 1 ≤ m) (hn : f + m ≤ n) (hve : ∀ e, 0 ≤ e → e < k → 0 ≤ E e ∧ ve_ (E e % 4503599627370496)) (hvl : vl_ n g) (hI : iE_ k E n g A) (h1 : ∀ y, sg_ E1 0 k y ↔ sg_ (fun e => rlb_ f m (E e)) 0 k y) (h2s : ss_ E2 0 k2) (h2 : ∀ y, sg_ E2 0 k2 y ↔ (sg_ E1 0 k y ∧ kpM_ f k mends E1 lat y)) :
    (∀ e, 0 ≤ e → e < k2 → E2 e / 4503599627370496 ≤ n ∧ (E2 e / 4503599627370496 ≤ f + 1 ∨ f + m < E2 e / 4503599627370496)) ∧ ((∃ e, 0 ≤ e ∧ e < k2 ∧ E2 e / 4503599627370496 = f + 1) ↔ ∃ y, mgS_ g f m mends lat y) ∧ iE_ k2 (fun i => gsM_ f (m - pk_ (mgS_ g f m mends lat)) (E2 i)) (n - (m - pk_ (mgS_ g f m mends lat))) (mpg_ g f m level mends stamp lat cid mid) A := by
  have P : ∀ {y}, ve_ y → (sg_ E2 0 k2 ((f + 1) * 4503599627370496 + y) ↔ mgS_ g f m mends lat y) := fun {y} hy => (h2 _).trans (mgS_pass hf hm hn (fun e e0 e1 => (hve e e0 e1).2) hvl hI h1 hy)
  obtain ⟨i1, i2, i3, i4⟩ := hI
  have oth : ∀ z, z / 4503599627370496 ≠ f + 1 → (sg_ E2 0 k2 z ↔ (sg_ E 0 k z ∧ ¬ (f ≤ z / 4503599627370496 - 1 ∧ z / 4503599627370496 - 1 < f + m))) := by
    intro z hz
    rw [h2, h1, rlb_other hz]
    exact ⟨fun w => w.1, fun w => ⟨w, fun u => absurd u hz⟩⟩
  have a : ∀ e, 0 ≤ e → e < k2 → E2 e / 4503599627370496 ≤ n ∧ (E2 e / 4503599627370496 ≤ f + 1 ∨ f + m < E2 e / 4503599627370496) := by
    intro e e0 e1
    by_cases z : E2 e / 4503599627370496 = f + 1
    · omega
    · obtain ⟨⟨u, u0, u1, u2⟩, w⟩ := (oth (E2 e) z).mp ⟨e, e0, e1, rfl⟩
      have := i2 u u0 u1
      rw [u2] at this
      omega
  have hvm : ∀ y, mgS_ g f m mends lat y → ve_ y := by
    rintro y ⟨⟨⟨r, r0, r1, hr⟩, _⟩, _⟩
    exact hvl r (by omega) (by omega) y hr
  have b : (∃ e, 0 ≤ e ∧ e < k2 ∧ E2 e / 4503599627370496 = f + 1) ↔ ∃ y, mgS_ g f m mends lat y := by
    constructor
    · rintro ⟨e, e0, e1, e2⟩
      have hv : ve_ (E2 e % 4503599627370496) := by
        obtain ⟨u, u0, u1, u2⟩ := (h1 _).mp ((h2 (E2 e)).mp ⟨e, e0, e1, rfl⟩).1
        have u3 : rlb_ f m (E u) = E2 e := u2
        rw [← u3, rlb_mod]
        exact (hve u u0 u1).2
      exact ⟨E2 e % 4503599627370496, (P hv).mp ⟨e, e0, e1, by omega⟩⟩
    · rintro ⟨y, hy⟩
      have hv := hvm y hy
      have v0 := hv.1
      have v1 := hv.2.1
      obtain ⟨e, e0, e1, e2⟩ := (P hv).mpr hy
      exact ⟨e, e0, e1, by omega⟩
  refine ⟨a, b, ?_⟩
  have hp : pk_ (mgS_ g f m mends lat) = 0 ∨ pk_ (mgS_ g f m mends lat) = 1 := by
    by_cases w : ∃ y, mgS_ g f m mends lat y
    · exact Or.inr (pk_1 w)
    · exact Or.inl (pk_0 w)
  have hz : pk_ (mgS_ g f m mends lat) = 0 → ∀ e, 0 ≤ e → e < k2 → E2 e / 4503599627370496 ≠ f + 1 := by
    intro p0 e e0 e1 w
    have := pk_1 (b.mp ⟨e, e0, e1, w⟩)
    omega
  have mpg1 : pk_ (mgS_ g f m mends lat) = 1 → mpg_ g f m level mends stamp lat cid mid = stP_ f (mpx_ g f m level mends stamp lat cid mid) (cuP_ (f + 1) (m - 1) g) := fun w => if_pos w
  have mpg0 : pk_ (mgS_ g f m mends lat) = 0 → mpg_ g f m level mends stamp lat cid mid = cuP_ f m g := fun w => if_neg (by omega)
  generalize hpk : pk_ (mgS_ g f m mends lat) = p at hp hz mpg1 mpg0 ⊢
  have pos : ∀ e, 0 ≤ e → e < k2 → 0 ≤ E2 e := by
    intro e e0 e1
    obtain ⟨u, u0, u1, u2⟩ := (h1 _).mp ((h2 (E2 e)).mp ⟨e, e0, e1, rfl⟩).1
    have u3 : rlb_ f m (E u) = E2 e := u2
    have := (hve u u0 u1).1
    rw [← u3]
    unfold rlb_
    by_cases w : f ≤ E u / 4503599627370496 - 1 ∧ E u / 4503599627370496 - 1 < f + m
    · rw [if_pos w]; omega
    · rw [if_neg w]; exact this
  -- an entry of the new row is one entry of the old one
  have back : ∀ z z1, gsM_ f (m - p) z1 = z → (z1 / 4503599627370496 ≤ f + 1 ∨ f + m < z1 / 4503599627370496) → (p = 0 → z1 / 4503599627370496 ≠ f + 1) → (sg_ (fun i => gsM_ f (m - p) (E2 i)) 0 k2 z ↔ sg_ E2 0 k2 z1) := by
    intro z z1 e v1 q1
    constructor
    · rintro ⟨u, u0, u1, u2⟩
      have u3 : gsM_ f (m - p) (E2 u) = z := u2
      refine ⟨u, u0, u1, ?_⟩
      have vu := (a u u0 u1).2
      have qu : p = 0 → E2 u / 4503599627370496 ≠ f + 1 := fun w => hz w u u0 u1
      by_cases w : E2 u < z1
      · have := gsM_mono rfl hp hm vu v1 qu w; omega
      · by_cases w2 : z1 < E2 u
        · have := gsM_mono rfl hp hm v1 vu q1 w2; omega
        · omega
    · rintro ⟨u, u0, u1, u2⟩
      refine ⟨u, u0, u1, ?_⟩
      show gsM_ f (m - p) (E2 u) = z
      rw [u2]; exact e
  have run : ∀ r, 0 ≤ r → r < n → ¬ (f ≤ r ∧ r < f + m) → ∀ y, ve_ y → (sg_ E2 0 k2 ((r + 1) * 4503599627370496 + y) ↔ (g r).2.2.2.2 y) := by
    intro r r0 r1 hr y hy
    have y0 := hy.1
    have y1 := hy.2.1
    rw [oth _ (by omega), i4 r r0 r1 y hy]
    exact ⟨fun w => w.1, fun w => ⟨w, by omega⟩⟩
  refine ⟨fun i j i0 ij j1 => gsM_mono rfl hp hm (a i i0 (by omega)).2 (a j (by omega) j1).2 (fun w => hz w i i0 (by omega)) (h2s i j i0 ij j1), fun e e0 e1 => ?_, fun y hy => ?_, fun r r0 r1 y hy => ?_⟩
  · have := a e e0 e1
    have q := hz
    have hz1 : p = 0 → E2 e / 4503599627370496 ≠ f + 1 := fun w => hz w e e0 e1
    show gsM_ f (m - p) (E2 e) / 4503599627370496 ≤ n - (m - p)
    unfold gsM_
    by_cases w : f + 1 < E2 e / 4503599627370496
    · rw [if_pos w]; omega
    · rw [if_neg w]; omega
  · have y0 := hy.1
    have y1 := hy.2.1
    have yz : y / 4503599627370496 = 0 := by omega
    rw [back y y (by unfold gsM_; rw [if_neg (by omega)]) (by omega) (by omega), oth y (by omega), i3 y hy]
    exact ⟨fun w => w.1, fun w => ⟨w, by omega⟩⟩
  · have y0 := hy.1
    have y1 := hy.2.1
    rcases hp with hp | hp
    · rw [mpg0 hp]
      show _ ↔ (if r < f then g r else g (r + m)).2.2.2.2 y
      by_cases w : r < f
      · rw [if_pos w, back _ ((r + 1) * 4503599627370496 + y) (by unfold gsM_; rw [if_neg (by omega)]) (by omega) (by omega)]
        exact run r r0 (by omega) (by omega) y hy
      · rw [if_neg w, back _ ((r + m + 1) * 4503599627370496 + y) (by unfold gsM_; rw [if_pos (by omega)]; omega) (by omega) (by omega)]
        exact run (r + m) (by omega) (by omega) (by omega) y hy
    · rw [mpg1 hp]
      show _ ↔ (if r = f then mpx_ g f m level mends stamp lat cid mid else (if r < f + 1 then g r else g (r + (m - 1)))).2.2.2.2 y
      by_cases w : r = f
      · rw [if_pos w, back _ ((r + 1) * 4503599627370496 + y) (by unfold gsM_; rw [if_neg (by omega)]) (by omega) (by omega), w]
        exact P hy
      · rw [if_neg w]
        by_cases v : r < f + 1
        · rw [if_pos v, back _ ((r + 1) * 4503599627370496 + y) (by unfold gsM_; rw [if_neg (by omega)]) (by omega) (by omega)]
          exact run r r0 (by omega) (by omega) y hy
        · rw [if_neg v, back _ ((r + (m - 1) + 1) * 4503599627370496 + y) (by unfold gsM_; rw [if_pos (by omega)]; omega) (by omega) (by omega)]
          exact run (r + (m - 1)) (by omega) (by omega) (by omega) y hy
