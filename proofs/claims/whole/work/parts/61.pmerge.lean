/-! the class's Pile as a row of runs: (id, the Model's id, level, repaired, the set of its entries) -/
abbrev ab_P : Type := Int × Int × Int × Int × (Int → Prop)
def rs_ (E : Int → Int) (s e : Int) (S : Int → Prop) : Prop := ss_ E s e ∧ ∀ x, sg_ E s e x ↔ S x
def pb_ (M : mm_M) (p : Nat) (r : Int) (q : ab_P) : Prop := nn_ri M (p + 5) r = q.1 ∧ nn_ri M (p + 3) r = q.2.2.1 ∧ nn_ri M (p + 4) r = q.2.2.2.1 ∧ nn_ri M (p + 2) r ≤ nn_ri M (p + 2) (r + 1)
/-- all is as it should be, but perhaps what run f has -/
def pm_ (M : mm_M) (p : Nat) (n : Int) (g : Int → ab_P) (f : Int) : Prop := (nn_rf M p 5 = n ∧ 0 ≤ n ∧ n ≤ 24) ∧ (nn_ri M (p + 2) 0 = 0 ∧ nn_ri M (p + 2) n ≤ 144) ∧ (∀ r, 0 ≤ r → r < n → pb_ M p r (g r)) ∧ ∀ r, 0 ≤ r → r < n → r ≠ f → rs_ (nn_ri M (p + 1)) (nn_ri M (p + 2) r) (nn_ri M (p + 2) (r + 1)) (g r).2.2.2.2
def pl_ (M : mm_M) (p : Nat) (n : Int) (g : Int → ab_P) : Prop := pm_ M p n g (-1)
theorem pm_mono {M : mm_M} {p : Nat} {n f : Int} {g : Int → ab_P} (k : pm_ M p n g f) : ∀ t : Nat, ∀ a b : Int, 0 ≤ a → b = a + t → b ≤ n → nn_ri M (p + 2) a ≤ nn_ri M (p + 2) b := by
  intro t
  induction t with
  | zero => intro a b _ h _; rw [h]; exact Int.le_of_eq (by simp)
  | succ t ih =>
    intro a b ha hb hn
    have h1 := ih a (b - 1) ha (by omega) (by omega)
    have h2 := (k.2.2.1 (b - 1) (by omega) (by omega)).2.2.2
    rw [show b - 1 + 1 = b by omega] at h2
    omega
theorem pm_le {M : mm_M} {p : Nat} {n f a b : Int} {g : Int → ab_P} (k : pm_ M p n g f) (ha : 0 ≤ a) (hab : a ≤ b) (hb : b ≤ n) : 0 ≤ nn_ri M (p + 2) a ∧ nn_ri M (p + 2) a ≤ nn_ri M (p + 2) b ∧ nn_ri M (p + 2) b ≤ 144 := by
  have h1 := pm_mono k a.toNat 0 a (Int.le_refl _) (by omega) (by omega)
  have h2 := pm_mono k (b - a).toNat a b ha (by omega) hb
  have h3 := pm_mono k (n - b).toNat b n (by omega) (by omega) (Int.le_refl _)
  have h4 := k.2.1
  omega
theorem sg_cg {E F : Int → Int} {s e : Int} (h : ∀ i, s ≤ i → i < e → F i = E i) (x : Int) : sg_ F s e x ↔ sg_ E s e x := by
  constructor
  · rintro ⟨i, i0, i1, i2⟩; exact ⟨i, i0, i1, by rw [← h i i0 i1]; exact i2⟩
  · rintro ⟨i, i0, i1, i2⟩; exact ⟨i, i0, i1, by rw [h i i0 i1]; exact i2⟩
theorem rs_cg {E F : Int → Int} {s e : Int} {S : Int → Prop} (h : ∀ i, s ≤ i → i < e → F i = E i) (k : rs_ E s e S) : rs_ F s e S := by
  refine ⟨fun i j i0 i1 i2 => ?_, fun x => (sg_cg h x).trans (k.2 x)⟩
  rw [h i i0 (by omega), h j (by omega) i2]
  exact k.1 i j i0 i1 i2
theorem pm_pe {M M' : mm_M} {p : Nat} {n f s e : Int} {g : Int → ab_P} (k : pm_ M p n g f) (hf : 0 ≤ f ∧ f < n) (hs : nn_ri M (p + 2) f = s) (he : nn_ri M (p + 2) (f + 1) = e) (h : fr_ (pe_ p s e) M M') : pm_ M' p n g f := by
  have hT : ∀ j, nn_ri M' (p + 2) j = nn_ri M (p + 2) j := fun j => fr_ri h (fun z => by have := z.1; omega)
  have k' := k
  obtain ⟨⟨a1, a2, a3⟩, ⟨b1, b2⟩, c, d⟩ := k
  refine ⟨⟨(fr_rf h (fun z => by have := z.1; omega)).trans a1, a2, a3⟩, ⟨by rw [hT]; exact b1, by rw [hT]; exact b2⟩, fun r r0 r1 => ?_, fun r r0 r1 hr => ?_⟩
  · obtain ⟨x1, x2, x3, x4⟩ := c r r0 r1
    refine ⟨(fr_ri h (fun z => by have := z.1; omega)).trans x1, (fr_ri h (fun z => by have := z.1; omega)).trans x2, (fr_ri h (fun z => by have := z.1; omega)).trans x3, ?_⟩
    rw [hT, hT]; exact x4
  · rw [hT, hT]
    refine rs_cg (fun i i0 i1 => fr_ri h (fun z => ?_)) (d r r0 r1 hr)
    obtain ⟨_, z1, z2⟩ := z
    have g0 := pm_le k' r0 (Int.le_refl r) (by omega)
    by_cases y : r < f
    · have := pm_le k' (show 0 ≤ r + 1 by omega) (show r + 1 ≤ f by omega) (by omega)
      omega
    · have := pm_le k' (show 0 ≤ f + 1 by omega) (show f + 1 ≤ r by omega) (by omega)
      omega
def stP_ (f : Int) (x : ab_P) (g : Int → ab_P) : Int → ab_P := fun r => if r = f then x else g r
def cuP_ (f m : Int) (g : Int → ab_P) : Int → ab_P := fun r => if r < f then g r else g (r + m)
theorem pm_any {M : mm_M} {p : Nat} {n f : Int} {g : Int → ab_P} (k : pl_ M p n g) : pm_ M p n g f := ⟨k.1, k.2.1, k.2.2.1, fun r r0 r1 _ => k.2.2.2 r r0 r1 (by omega)⟩
/-- run f ends earlier, with a set -/
theorem pl_cut {M M' : mm_M} {p : Nat} {n f k : Int} {g : Int → ab_P} {x : ab_P} (h : pm_ M p n g f) (hf : 0 ≤ f ∧ f < n) (hk0 : nn_ri M (p + 2) f ≤ k) (hk1 : k ≤ nn_ri M (p + 2) (f + 1)) (hx1 : x.1 = (g f).1) (hx2 : x.2.2.1 = (g f).2.2.1) (hx3 : x.2.2.2.1 = (g f).2.2.2.1) (hS : rs_ (nn_ri M (p + 1)) (nn_ri M (p + 2) f) k x.2.2.2.2)
    (u : fr_ (fun o b => (o = p + 1 ∧ k ≤ (b : Int)) ∨ o = p + 2) M M') (hT : ∀ j, 0 ≤ j → j ≤ n → nn_ri M' (p + 2) j = if j ≤ f then nn_ri M (p + 2) j else nn_ri M (p + 2) j - (nn_ri M (p + 2) (f + 1) - k)) (hE : ∀ i, 0 ≤ i → i < nn_ri M (p + 2) n - (nn_ri M (p + 2) (f + 1) - k) → nn_ri M' (p + 1) i = if i < k then nn_ri M (p + 1) i else nn_ri M (p + 1) (i + (nn_ri M (p + 2) (f + 1) - k))) : pl_ M' p n (stP_ f x g) := by
  have h' := h
  obtain ⟨⟨a1, a2, a3⟩, ⟨b1, b2⟩, c, d⟩ := h
  have q0 := pm_le h' (show 0 ≤ f + 1 by omega) (show f + 1 ≤ n by omega) (Int.le_refl n)
  have qf := pm_le h' hf.1 (show f ≤ f + 1 by omega) (by omega)
  refine ⟨⟨(fr_rf u (by omega)).trans a1, a2, a3⟩, ⟨by rw [hT 0 (by omega) (by omega), if_pos hf.1]; exact b1, by rw [hT n a2 (Int.le_refl _), if_neg (by omega)]; omega⟩, fun r r0 r1 => ?_, fun r r0 r1 _ => ?_⟩
  · obtain ⟨x1, x2, x3, x4⟩ := c r r0 r1
    have t1 := hT r r0 (by omega)
    have t2 := hT (r + 1) (by omega) (by omega)
    have lab : (stP_ f x g r).1 = (g r).1 ∧ (stP_ f x g r).2.2.1 = (g r).2.2.1 ∧ (stP_ f x g r).2.2.2.1 = (g r).2.2.2.1 := by
      unfold stP_
      by_cases z : r = f
      · rw [if_pos z, z]; exact ⟨hx1, hx2, hx3⟩
      · rw [if_neg z]; exact ⟨rfl, rfl, rfl⟩
    refine ⟨by rw [lab.1, fr_ri u (by omega)]; exact x1, by rw [lab.2.1, fr_ri u (by omega)]; exact x2, by rw [lab.2.2, fr_ri u (by omega)]; exact x3, ?_⟩
    rw [t1, t2]
    by_cases z : r < f
    · rw [if_pos (by omega), if_pos (by omega)]; exact x4
    · by_cases y : r = f
      · subst y
        rw [if_pos (Int.le_refl _), if_neg (by omega)]
        omega
      · rw [if_neg (by omega), if_neg (by omega)]; omega
  · rw [hT r r0 (by omega), hT (r + 1) (by omega) (by omega)]
    have gr := pm_le h' r0 (show r ≤ r + 1 by omega) (by omega)
    by_cases z : r < f
    · have e : stP_ f x g r = g r := if_neg (by omega)
      have g1 := pm_le h' (show 0 ≤ r + 1 by omega) (show r + 1 ≤ f by omega) (by omega)
      rw [if_pos (by omega), if_pos (by omega), e]
      exact rs_cg (fun i i0 i1 => by rw [hE i (by omega) (by omega), if_pos (by omega)]) (d r r0 r1 (by omega))
    · by_cases y : r = f
      · subst y
        have e : stP_ r x g r = x := if_pos rfl
        rw [if_pos (Int.le_refl _), if_neg (by omega), e, show nn_ri M (p + 2) (r + 1) - (nn_ri M (p + 2) (r + 1) - k) = k by omega]
        exact rs_cg (fun i i0 i1 => by rw [hE i (by omega) (by omega), if_pos (by omega)]) hS
      · have e : stP_ f x g r = g r := if_neg y
        have g1 := pm_le h' (show 0 ≤ f + 1 by omega) (show f + 1 ≤ r by omega) (by omega)
        have g2 := pm_le h' (show 0 ≤ r + 1 by omega) (show r + 1 ≤ n by omega) (Int.le_refl n)
        rw [if_neg (by omega), if_neg (by omega), e]
        obtain ⟨s1, s2⟩ := d r r0 r1 y
        generalize hgap : nn_ri M (p + 2) (f + 1) - k = gap at hE ⊢
        have hE2 : ∀ i, nn_ri M (p + 2) r - gap ≤ i → i < nn_ri M (p + 2) (r + 1) - gap → nn_ri M' (p + 1) i = nn_ri M (p + 1) (i + gap) := fun i i0 i1 => by rw [hE i (by omega) (by omega), if_neg (by omega)]
        refine ⟨fun i j i0 i1 i2 => ?_, fun w => ?_⟩
        · rw [hE2 i i0 (by omega), hE2 j (by omega) i2]
          exact s1 (i + gap) (j + gap) (by omega) (by omega) (by omega)
        · rw [← s2 w]
          constructor
          · rintro ⟨i, i0, i1, i2⟩
            exact ⟨i + gap, by omega, by omega, by rw [← hE2 i i0 i1]; exact i2⟩
          · rintro ⟨i, i0, i1, i2⟩
            exact ⟨i - gap, by omega, by omega, by rw [hE2 (i - gap) (by omega) (by omega), show i - gap + gap = i by omega]; exact i2⟩
/-- the labels of run f are written -/
theorem pl_lab {M M' : mm_M} {p : Nat} {n f : Int} {g : Int → ab_P} {x : ab_P} (h : pl_ M p n g) (hf : 0 ≤ f ∧ f < n) (hS : x.2.2.2.2 = (g f).2.2.2.2) (u : fr_ (fun o b => (o < p ∨ p + 6 ≤ o) ∨ (b = f.toNat ∧ (o = p + 3 ∨ o = p + 4 ∨ o = p + 5))) M M') (h1 : nn_ri M' (p + 5) f = x.1) (h2 : nn_ri M' (p + 3) f = x.2.2.1) (h3 : nn_ri M' (p + 4) f = x.2.2.2.1) : pl_ M' p n (stP_ f x g) := by
  obtain ⟨⟨a1, a2, a3⟩, ⟨b1, b2⟩, c, d⟩ := h
  have hT : ∀ j, nn_ri M' (p + 2) j = nn_ri M (p + 2) j := fun j => fr_ri u (by omega)
  refine ⟨⟨(fr_rf u (by omega)).trans a1, a2, a3⟩, ⟨by rw [hT]; exact b1, by rw [hT]; exact b2⟩, fun r r0 r1 => ?_, fun r r0 r1 hr => ?_⟩
  · obtain ⟨x1, x2, x3, x4⟩ := c r r0 r1
    by_cases z : r = f
    · have e : stP_ f x g r = x := if_pos z
      rw [e]
      refine ⟨by rw [z]; exact h1, by rw [z]; exact h2, by rw [z]; exact h3, by rw [hT, hT]; exact x4⟩
    · have e : stP_ f x g r = g r := if_neg z
      rw [e]
      refine ⟨(fr_ri u (by omega)).trans x1, (fr_ri u (by omega)).trans x2, (fr_ri u (by omega)).trans x3, by rw [hT, hT]; exact x4⟩
  · rw [hT, hT]
    have e : (stP_ f x g r).2.2.2.2 = (g r).2.2.2.2 := by
      unfold stP_
      by_cases z : r = f
      · rw [if_pos z, z, hS]
      · rw [if_neg z]
    rw [e]
    exact rs_cg (fun i i0 i1 => fr_ri u (by omega)) (d r r0 r1 hr)
theorem pl_fr {P : Nat → Nat → Prop} {M M' : mm_M} (h : fr_ P M M') {p : Nat} {n : Int} {g : Int → ab_P} (hv : ∀ o b, p ≤ o → o < p + 6 → ¬ P o b) (k : pl_ M p n g) : pl_ M' p n g := by
  obtain ⟨⟨a1, a2, a3⟩, ⟨b1, b2⟩, c, d⟩ := k
  have hT : ∀ j, nn_ri M' (p + 2) j = nn_ri M (p + 2) j := fun j => fr_ri h (hv _ _ (by omega) (by omega))
  refine ⟨⟨(fr_rf h (hv _ _ (by omega) (by omega))).trans a1, a2, a3⟩, ⟨by rw [hT]; exact b1, by rw [hT]; exact b2⟩, fun r r0 r1 => ?_, fun r r0 r1 hr => ?_⟩
  · obtain ⟨x1, x2, x3, x4⟩ := c r r0 r1
    exact ⟨(fr_ri h (hv _ _ (by omega) (by omega))).trans x1, (fr_ri h (hv _ _ (by omega) (by omega))).trans x2, (fr_ri h (hv _ _ (by omega) (by omega))).trans x3, by rw [hT, hT]; exact x4⟩
  · rw [hT, hT]
    exact rs_cg (fun i i0 i1 => fr_ri h (hv _ _ (by omega) (by omega))) (d r r0 r1 hr)
/-- an empty run goes -/
theorem ct_P_dropEmpty {p : Nat} {f n : Int} {M : mm_M} {R : mm_M → Prop} {g : Int → ab_P} (k : pl_ M p n g) (hf : 0 ≤ f ∧ f < n)
    (h1 : (∃ x, (g f).2.2.2.2 x) → R M) (h2 : (¬ ∃ x, (g f).2.2.2.2 x) → ∀ M', fr_ (po_ p) M M' → pl_ M' p (n - 1) (cuP_ f 1 g) → R M') : nr_Pile_dropEmpty p f M R := by
  obtain ⟨⟨a1, a2, a3⟩, ⟨b1, b2⟩, c, d⟩ := id k
  refine ng_Pile_dropEmpty _ _ _ _ ?_
  rw [mm_w_id (x := f + 1) (by omega)]
  have hle := (c f hf.1 hf.2).2.2.2
  obtain ⟨s1, s2⟩ := d f hf.1 hf.2 (by omega)
  refine ⟨by omega, by omega, fun z => ?_, fun z => ?_⟩
  · exact h1 ⟨_, (s2 _).mp ⟨nn_ri M (p + 2) f, Int.le_refl _, by omega, rfl⟩⟩
  · have hne : ¬ ∃ x, (g f).2.2.2.2 x := by
      rintro ⟨x, hx⟩
      obtain ⟨i, i0, i1, _⟩ := (s2 x).mpr hx
      omega
    refine ct_P_takeOut a1 hf.1 (by omega) (by omega) a3 (fun M' f1 e1 g1 g2 => ?_)
    refine h2 hne M' f1 ⟨⟨e1, by omega, by omega⟩, ⟨?_, ?_⟩, fun r r0 r1 => ?_, fun r r0 r1 _ => ?_⟩
    · rw [g1 0 (by omega) (by omega)]
      unfold cuI_
      by_cases y : (0 : Int) < f
      · rw [if_pos y]; exact b1
      · rw [if_neg y, show (0 : Int) + 1 = f + 1 by omega, ← z, show f = 0 by omega]; exact b1
    · rw [g1 (n - 1) (by omega) (by omega)]
      unfold cuI_
      rw [if_neg (by omega), show n - 1 + 1 = n by omega]
      exact b2
    · have t1 := g1 r r0 (by omega)
      have t2 := g1 (r + 1) (by omega) (by omega)
      obtain ⟨y1, y2, y3⟩ := g2 r r0 r1
      unfold cuI_ at t1 t2 y1 y2 y3
      unfold cuP_
      by_cases y : r < f
      · rw [if_pos y] at t1 y1 y2 y3 ⊢
        obtain ⟨x1, x2, x3, x4⟩ := c r r0 (by omega)
        refine ⟨y3.trans x1, y1.trans x2, y2.trans x3, ?_⟩
        rw [t1, t2]
        by_cases w : r + 1 < f
        · rw [if_pos w]; exact x4
        · rw [if_neg w, show r + 1 + 1 = f + 1 by omega, ← z, show f = r + 1 by omega]; exact x4
      · rw [if_neg y] at t1 y1 y2 y3 ⊢
        obtain ⟨x1, x2, x3, x4⟩ := c (r + 1) (by omega) (by omega)
        refine ⟨y3.trans x1, y1.trans x2, y2.trans x3, ?_⟩
        rw [t1, t2, if_neg (by omega)]
        exact x4
    · have t1 := g1 r r0 (by omega)
      have t2 := g1 (r + 1) (by omega) (by omega)
      have eE : ∀ i, nn_ri M' (p + 1) i = nn_ri M (p + 1) i := fun i => fr_ri f1 (fun z => by unfold po_ at z; omega)
      unfold cuI_ at t1 t2
      unfold cuP_
      rw [t1, t2]
      by_cases y : r < f
      · rw [if_pos y, if_pos y]
        have := d r r0 (by omega) (by omega)
        by_cases w : r + 1 < f
        · rw [if_pos w]; exact rs_cg (fun i _ _ => eE i) this
        · rw [if_neg w, show r + 1 + 1 = f + 1 by omega, ← z, show f = r + 1 by omega]; exact rs_cg (fun i _ _ => eE i) this
      · rw [if_neg y, if_neg y, if_neg (by omega)]
        exact rs_cg (fun i _ _ => eE i) (d (r + 1) (by omega) (by omega) (by omega))
