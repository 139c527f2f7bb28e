/-! the abstract state of an index: how, unique, mends, begun, along; the rule; the set in MEMORY; the set kept aside; how many; the runs -/
abbrev ab_X : Type := (Int × Int × Int × Int × Int) × ab_U × (Int → Prop) × (Int → Prop) × Int × Int × (Int → ab_P)
abbrev xh_ (X : ab_X) : Int := X.1.1
abbrev xq_ (X : ab_X) : Int := X.1.2.1
abbrev xm_ (X : ab_X) : Int := X.1.2.2.1
abbrev xb_ (X : ab_X) : Int := X.1.2.2.2.1
abbrev xl_ (X : ab_X) : Int := X.1.2.2.2.2
abbrev xu_ (X : ab_X) : ab_U := X.2.1
abbrev xA_ (X : ab_X) : Int → Prop := X.2.2.1
abbrev xK_ (X : ab_X) : Int → Prop := X.2.2.2.1
abbrev xj_ (X : ab_X) : Int := X.2.2.2.2.1
abbrev xn_ (X : ab_X) : Int := X.2.2.2.2.2.1
abbrev xg_ (X : ab_X) : Int → ab_P := X.2.2.2.2.2.2
/-- the class's index at x shows X -/
def cX_ (M : mm_M) (x : Nat) (lat : ab_V) (X : ab_X) : Prop := nn_rf M x 5 = xh_ X ∧ nn_ri M (x + 10) 0 = 0 ∧ (xh_ X ≠ 0 → (nn_rf M x 6 = xq_ X ∧ nn_rf M x 7 = xm_ X ∧ nn_rf M x 8 = xb_ X ∧ nn_rf M x 9 = xl_ X) ∧ rl_ M (x + 1) (xu_ X) ∧ es_ M (x + 4) (xA_ X) ∧ (es_ M (x + 6) (xK_ X) ∧ nn_rf M (x + 6) 1 = xj_ X) ∧ pl_ M (x + 8) (xn_ X) (xg_ X) ∧ ∀ k, 0 ≤ k → k < 32 → nn_ri M (x + 14) k = vk_ (xu_ X) (lat k.toNat))
theorem cX_fr {P : Nat → Nat → Prop} {M M' : mm_M} (h : fr_ P M M') {x : Nat} {lat : ab_V} {X : ab_X} (hv : ∀ o b, x ≤ o → o < x + 15 → ¬ P o b) (k : cX_ M x lat X) : cX_ M' x lat X := by
  obtain ⟨h0, hs, h1⟩ := k
  have rf : ∀ o b, x ≤ o → o < x + 15 → nn_rf M' o b = nn_rf M o b := fun o b z z2 => fr_rf h (hv o b z z2)
  refine ⟨(rf _ _ (by omega) (by omega)).trans h0, (fr_ri h (hv _ _ (by omega) (by omega))).trans hs, fun hh => ?_⟩
  obtain ⟨⟨a1, a2, a3, a4⟩, b, c, ⟨d, e⟩, f, g⟩ := h1 hh
  refine ⟨⟨(rf _ _ (by omega) (by omega)).trans a1, (rf _ _ (by omega) (by omega)).trans a2, (rf _ _ (by omega) (by omega)).trans a3, (rf _ _ (by omega) (by omega)).trans a4⟩, rl_fr h (fun o b h1 h2 => hv o b (by omega) (by omega)) b, es_fr h (fun o b z => hv o b (by have := z.1; omega) (by have := z.2; omega)) c, ⟨es_fr h (fun o b z => hv o b (by have := z.1; omega) (by have := z.2; omega)) d, (rf _ _ (by omega) (by omega)).trans e⟩, pl_fr h (fun o b h1 h2 => hv o b (by omega) (by omega)) f, fun k k0 k1 => (fr_ri h (hv _ _ (by omega) (by omega))).trans (g k k0 k1)⟩
/-- what is kept aside, as the Model has it: by keys -/
def kL_ (M : mm_M) (x j : Int) (K : Int → Prop) : Prop := ∃ e : Int → Int, (∀ i, 0 ≤ i → i < j → ve_ (e i) ∧ nn_ri M 408 (x + 47 + 3 * i) = ev_ (e i) ∧ nn_ri M 408 (x + 47 + 3 * i + 1) = ek_ (e i) ∧ nn_ri M 408 (x + 47 + 3 * i + 2) = et_ (e i)) ∧ (∀ i k, 0 ≤ i → i < k → k < j → ek_ (e i) < ek_ (e k)) ∧ ∀ y, K y ↔ ∃ i, 0 ≤ i ∧ i < j ∧ e i = y
/-- the Model's index at x shows X -/
def mX_ (M : mm_M) (x : Int) (X : ab_X) : Prop := nn_ri M 408 x = xh_ X ∧ (xh_ X ≠ 0 → (nn_ri M 408 (x + 1) = xq_ X ∧ nn_ri M 408 (x + 2) = xm_ X ∧ nn_ri M 408 (x + 3) = xb_ X ∧ (xh_ X = 1 → nn_ri M 408 (x + 4) = xl_ X) ∧ nn_ri M 408 (x + 7) = xj_ X ∧ 0 ≤ xj_ X ∧ xj_ X ≤ 32) ∧ rlM_ M x (xu_ X) ∧ kL_ M x (xj_ X) (xK_ X) ∧ hM_ M x (xn_ X) (xg_ X) ∧ ∃ k E, eM_ M x k E ∧ iE_ k E (xn_ X) (xg_ X) (xA_ X))
theorem kL_cg {M M' : mm_M} {x j : Int} {K : Int → Prop} (h : ∀ i, x + 47 ≤ i → i < x + 143 → nn_ri M' 408 i = nn_ri M 408 i) (hj : j ≤ 32) (k : kL_ M x j K) : kL_ M' x j K := by
  obtain ⟨e, h1, h2, h3⟩ := k
  refine ⟨e, fun i i0 i1 => ?_, h2, h3⟩
  obtain ⟨v, a, b, c⟩ := h1 i i0 i1
  exact ⟨v, (h _ (by omega) (by omega)).trans a, (h _ (by omega) (by omega)).trans b, (h _ (by omega) (by omega)).trans c⟩
theorem rlM_cg {M M' : mm_M} {x : Int} {u : ab_U} (h : ∀ i, x + 8 ≤ i → i < x + 47 → nn_ri M' 408 i = nn_ri M 408 i) (k : rlM_ M x u) : rlM_ M' x u := by
  obtain ⟨h1, h2, h3, h4⟩ := k
  have hu := h1.1
  have fo : ∀ f, 0 ≤ f → f ≤ 2 * u.2.2 → 9 ≤ fo_ f ∧ fo_ f + 5 ≤ 47 := by
    intro f f0 f1
    unfold fo_
    split
    · omega
    · split <;> omega
  refine ⟨h1, (h _ (by omega) (by omega)).trans h2, fun f f0 f1 => ?_, fun a a0 a1 => ?_⟩
  · have := fo f f0 f1
    obtain ⟨p, q⟩ := h3 f f0 f1
    exact ⟨(h _ (by omega) (by omega)).trans p, fun c c0 c1 => (h _ (by omega) (by omega)).trans (q c c0 c1)⟩
  · rw [h _ (by omega) (by omega)]
    exact h4 a a0 a1
theorem hM_cg {M M' : mm_M} {x n : Int} {g : Int → ab_P} (h : ∀ i, x + 143 ≤ i → i < x + 215 → nn_ri M' 408 i = nn_ri M 408 i) (h5 : nn_ri M' 408 (x + 5) = nn_ri M 408 (x + 5)) (k : hM_ M x n g) : hM_ M' x n g := by
  obtain ⟨h1, h2, h3, h4⟩ := k
  refine ⟨h5.trans h1, h2, h3, fun r r0 r1 => ?_⟩
  rw [h _ (by omega) (by omega), h _ (by omega) (by omega), h _ (by omega) (by omega)]
  exact h4 r r0 r1
theorem eM_cg {M M' : mm_M} {x m : Int} {E : Int → Int} (h : ∀ i, x + 215 ≤ i → i < x + 855 → nn_ri M' 408 i = nn_ri M 408 i) (h6 : nn_ri M' 408 (x + 6) = nn_ri M 408 (x + 6)) (k : eM_ M x m E) : eM_ M' x m E := by
  obtain ⟨h1, h2, h3, h4⟩ := k
  refine ⟨h6.trans h1, h2, h3, fun e e0 e1 => ?_⟩
  exact e4_cg (h4 e e0 e1) (h _ (by omega) (by omega)) (h _ (by omega) (by omega)) (h _ (by omega) (by omega)) (h _ (by omega) (by omega))
theorem mX_cg {M M' : mm_M} {x : Int} {X : ab_X} (h : ∀ i, x ≤ i → i < x + 855 → nn_ri M' 408 i = nn_ri M 408 i) (k : mX_ M x X) : mX_ M' x X := by
  obtain ⟨h0, h1⟩ := k
  refine ⟨(h _ (by omega) (by omega)).trans h0, fun hh => ?_⟩
  obtain ⟨⟨a1, a2, a3, a4, a5, a6, a7⟩, b, c, d, k, E, e, f⟩ := h1 hh
  exact ⟨⟨(h _ (by omega) (by omega)).trans a1, (h _ (by omega) (by omega)).trans a2, (h _ (by omega) (by omega)).trans a3, fun z => (h _ (by omega) (by omega)).trans (a4 z), (h _ (by omega) (by omega)).trans a5, a6, a7⟩, rlM_cg (fun i i0 i1 => h i (by omega) (by omega)) b, kL_cg (fun i i0 i1 => h i (by omega) (by omega)) a7 c, hM_cg (fun i i0 i1 => h i (by omega) (by omega)) (h _ (by omega) (by omega)) d, k, E, eM_cg (fun i i0 i1 => h i (by omega) (by omega)) (h _ (by omega) (by omega)) e, f⟩
theorem mX_fr {P : Nat → Nat → Prop} {M M' : mm_M} (h : fr_ P M M') {x : Int} {X : ab_X} (hx : 0 ≤ x) (hv : ∀ c : Nat, x ≤ (c : Int) → (c : Int) < x + 855 → ¬ P 408 c) (k : mX_ M x X) : mX_ M' x X := mX_cg (fun i i0 i1 => fr_ri h (hv _ (by omega) (by omega))) k
/-! counting -/
noncomputable def ven_ : Nat := Classical.choose (⟨4503599627370496, rfl⟩ : ∃ n : Nat, n = 4503599627370496)
theorem ven_eq : ven_ = 4503599627370496 := Classical.choose_spec (⟨4503599627370496, rfl⟩ : ∃ n : Nat, n = 4503599627370496)
noncomputable def pb2_ (S : Int → Prop) (k : Nat) : Bool := @decide (S (k : Int)) (Classical.propDecidable _)
theorem pb2_t {S : Int → Prop} {k : Nat} : pb2_ S k = true ↔ S (k : Int) := @decide_eq_true_iff _ (Classical.propDecidable _)
noncomputable def cz_ (S : Int → Prop) : Int := (cn_ (pb2_ S) ven_ : Nat)
theorem cn_mono {p q : Nat → Bool} : ∀ {n : Nat}, (∀ k, k < n → p k = true → q k = true) → cn_ p n ≤ cn_ q n
  | 0, _ => Nat.le_refl _
  | n + 1, h => by
    unfold cn_
    have h1 := cn_mono (p := p) (q := q) (n := n) (fun k hk => h k (Nat.lt_succ_of_lt hk))
    by_cases z : p n = true
    · rw [if_pos z, if_pos (h n (Nat.lt_succ_self n) z)]
      omega
    · rw [if_neg z]
      omega
theorem cn_or {p q r : Nat → Bool} : ∀ {n : Nat}, (∀ k, k < n → p k = true → q k = true ∨ r k = true) → cn_ p n ≤ cn_ q n + cn_ r n
  | 0, _ => Nat.zero_le _
  | n + 1, h => by
    unfold cn_
    have h1 := cn_or (p := p) (q := q) (r := r) (n := n) (fun k hk => h k (Nat.lt_succ_of_lt hk))
    by_cases z : p n = true
    · rw [if_pos z]
      rcases h n (Nat.lt_succ_self n) z with y | y
      · rw [if_pos y]; omega
      · rw [if_pos y]; omega
    · rw [if_neg z]
      omega
theorem cn_no {p : Nat → Bool} : ∀ {n : Nat}, (∀ k, k < n → p k = false) → cn_ p n = 0
  | 0, _ => rfl
  | n + 1, h => by
    unfold cn_
    rw [cn_no (fun k hk => h k (Nat.lt_succ_of_lt hk)), h n (Nat.lt_succ_self n)]
    rfl
theorem cn_single {p : Nat → Bool} {a : Nat} : ∀ {n : Nat}, (∀ k, k < n → p k = true → k = a) → cn_ p n ≤ 1
  | 0, _ => Nat.zero_le _
  | n + 1, h => by
    unfold cn_
    by_cases z : p n = true
    · rw [if_pos z, cn_no (n := n) (fun k hk => ?_)]
      · omega
      · cases y : p k with
        | false => rfl
        | true =>
          have h1 := h k (Nat.lt_succ_of_lt hk) y
          have h2 := h n (Nat.lt_succ_self n) z
          omega
    · rw [if_neg z]
      have := cn_single (p := p) (a := a) (n := n) (fun k hk => h k (Nat.lt_succ_of_lt hk))
      omega
theorem cn_add {p : Nat → Bool} (a : Nat) : ∀ b : Nat, cn_ p (a + b) = cn_ p a + cn_ (fun k => p (a + k)) b
  | 0 => rfl
  | b + 1 => by
    have := cn_add (p := p) a b
    show cn_ p (a + b) + (if p (a + b) = true then 1 else 0) = cn_ p a + (cn_ (fun k => p (a + k)) b + (if p (a + b) = true then 1 else 0))
    omega
theorem rp_cn {S : Int → Prop} {e : Int → Int} : ∀ {N : Nat} {m : Int}, 0 ≤ m → rp_ m e S → (∀ x, S x → 0 ≤ x ∧ x < (N : Int)) → m = (cn_ (pb2_ S) N : Nat)
  | 0, m, hm, h, hs => by
    by_cases z : 0 < m
    · have := hs _ (h.1 0 (by omega) z)
      omega
    · have : m = 0 := by omega
      rw [this]; rfl
  | N + 1, m, hm, h, hs => by
    have cut : ∀ T : Int → Prop, (∀ x, T x ↔ (S x ∧ x < (N : Int))) → cn_ (pb2_ S) N = cn_ (pb2_ T) N := by
      intro T hT
      refine cn_cg (fun k hk => ?_)
      have : pb2_ S k = true ↔ pb2_ T k = true := by rw [pb2_t, pb2_t, hT]; constructor <;> intro z <;> first | exact ⟨z, by omega⟩ | exact z.1
      cases h1 : pb2_ S k <;> cases h2 : pb2_ T k <;> simp [h1, h2] at this ⊢
    show m = ((cn_ (pb2_ S) N + (if pb2_ S N = true then 1 else 0) : Nat) : Int)
    by_cases z : S (N : Int)
    · rw [if_pos (pb2_t.mpr z)]
      obtain ⟨i, i0, i1, ie⟩ := h.2.1 _ z
      have il : i = m - 1 := by
        by_cases y : i = m - 1
        · exact y
        · have h1 := h.2.2 i (m - 1) i0 (by omega) (by omega)
          have h2 := hs _ (h.1 (m - 1) (by omega) (by omega))
          omega
      have k : rp_ (m - 1) e (fun x => S x ∧ x < (N : Int)) := by
        refine ⟨fun j j0 j1 => ⟨h.1 j j0 (by omega), ?_⟩, fun x hx => ?_, fun a b a0 a1 a2 => h.2.2 a b a0 a1 (by omega)⟩
        · have := h.2.2 j i j0 (by omega) (by omega)
          omega
        · obtain ⟨j, j0, j1, je⟩ := h.2.1 x hx.1
          refine ⟨j, j0, ?_, je⟩
          by_cases y : j = m - 1
          · have hx2 := hx.2
            rw [← je, y, ← il, ie] at hx2
            omega
          · omega
      have := rp_cn (N := N) (m := m - 1) (by omega) k (fun x hx => ⟨(hs x hx.1).1, hx.2⟩)
      rw [cut _ (fun x => Iff.rfl)]
      omega
    · rw [if_neg (fun q => z (pb2_t.mp q))]
      have hs2 : ∀ x, S x → 0 ≤ x ∧ x < (N : Int) := by
        intro x hx
        have := hs x hx
        by_cases y : x = (N : Int)
        · exact absurd (y ▸ hx) z
        · omega
      have := rp_cn (N := N) hm h hs2
      omega
theorem ve_rng {S : Int → Prop} (h : ∀ y, S y → ve_ y) : ∀ x, S x → 0 ≤ x ∧ x < (ven_ : Int) := fun x hx => ⟨(h x hx).1, by rw [ven_eq]; exact (h x hx).2.1⟩
theorem es_cz {M : mm_M} {v : Nat} {S : Int → Prop} (h : es_ M v S) (hv : ∀ y, S y → ve_ y) : nn_rf M v 1 = cz_ S := rp_cn h.1 h.2.2 (ve_rng hv)
theorem cz_nn (S : Int → Prop) : 0 ≤ cz_ S := Int.natCast_nonneg _
theorem cz_mono {S T : Int → Prop} (h : ∀ y, S y → T y) : cz_ S ≤ cz_ T := Int.ofNat_le.mpr (cn_mono (fun _ _ z => pb2_t.mpr (h _ (pb2_t.mp z))))
theorem cz_or {S T U : Int → Prop} (h : ∀ y, S y → T y ∨ U y) : cz_ S ≤ cz_ T + cz_ U := by
  have := cn_or (p := pb2_ S) (q := pb2_ T) (r := pb2_ U) (n := ven_) (fun k _ z => (h _ (pb2_t.mp z)).imp pb2_t.mpr pb2_t.mpr)
  unfold cz_
  omega
theorem cz_one {S : Int → Prop} {a : Int} (h : ∀ y, S y → y = a) : cz_ S ≤ 1 := by
  have := cn_single (p := pb2_ S) (a := a.toNat) (n := ven_) (fun k _ z => by have := h _ (pb2_t.mp z); omega)
  unfold cz_
  omega
theorem cz_no {S : Int → Prop} (h : ∀ y, ¬ S y) : cz_ S = 0 := by
  have := cn_no (p := pb2_ S) (n := ven_) (fun k _ => by
    cases y : pb2_ S k with
    | false => rfl
    | true => exact absurd (pb2_t.mp y) (h _))
  unfold cz_
  omega
theorem cz_cg {S T : Int → Prop} (h : ∀ y, S y ↔ T y) : cz_ S = cz_ T := Int.le_antisymm (cz_mono (fun y => (h y).mp)) (cz_mono (fun y => (h y).mpr))
/-- how many entries the runs of a pile have -/
noncomputable def pz_ (g : Int → ab_P) (n : Int) : Int := sm_ (fun r => cz_ (g r).2.2.2.2) n.toNat
theorem sm_nn {st : Int → Int} : ∀ {n : Nat}, (∀ r : Int, 0 ≤ r → r < n → 0 ≤ st r) → 0 ≤ sm_ st n
  | 0, _ => Int.le_refl _
  | n + 1, h => by
    unfold sm_
    have := sm_nn (st := st) (n := n) (fun r r0 r1 => h r r0 (by omega))
    have := h n (by omega) (by omega)
    omega
theorem pz_nn (g : Int → ab_P) (n : Int) : 0 ≤ pz_ g n := sm_nn (fun r _ _ => cz_nn _)
theorem rs_cz {E : Int → Int} {s e : Int} {S : Int → Prop} (h : rs_ E s e S) (hse : s ≤ e) (hv : ∀ y, S y → ve_ y) : e - s = cz_ S := by
  refine rp_cn (e := fun i => E (s + i)) (m := e - s) (by omega) ?_ (ve_rng hv)
  refine ⟨fun i i0 i1 => (h.2 _).mp ⟨s + i, by omega, by omega, rfl⟩, fun x hx => ?_, fun a b a0 a1 a2 => h.1 _ _ (by omega) (by omega) (by omega)⟩
  obtain ⟨i, i0, i1, ie⟩ := (h.2 x).mpr hx
  exact ⟨i - s, by omega, by omega, by show E (s + (i - s)) = x; rw [show s + (i - s) = i by omega]; exact ie⟩
theorem pl_cz {M : mm_M} {p : Nat} {n : Int} {g : Int → ab_P} (k : pl_ M p n g) (hv : vl_ n g) : ∀ t : Nat, (t : Int) ≤ n → nn_ri M (p + 2) t = sm_ (fun r => cz_ (g r).2.2.2.2) t
  | 0, _ => k.2.1.1
  | t + 1, ht => by
    have ih := pl_cz k hv t (by omega)
    have h1 := pm_le k (a := (t : Int)) (b := ((t + 1 : Nat) : Int)) (by omega) (by omega) ht
    have h2 := rs_cz (k.2.2.2 (t : Int) (by omega) (by omega) (by omega)) h1.2.1 (hv t (by omega) (by omega))
    unfold sm_
    rw [← ih]
    have : ((t + 1 : Nat) : Int) = (t : Int) + 1 := by omega
    rw [this]
    omega
theorem pl_pz {M : mm_M} {p : Nat} {n : Int} {g : Int → ab_P} (k : pl_ M p n g) (hv : vl_ n g) : nn_ri M (p + 2) n = pz_ g n := by
  have := pl_cz k hv n.toNat (by have := k.1.2.1; omega)
  rw [show ((n.toNat : Nat) : Int) = n by have := k.1.2.1; omega] at this
  exact this
