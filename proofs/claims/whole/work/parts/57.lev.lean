/-! which runs are alike; the highest level; merges by levels, of the class's Table -/
def alk_ (lv : Int → Int) (fan a : Int) : Prop := ∀ j, 0 ≤ j → j < fan → lv (a + j) = lv a
def ak_ (lv : Int → Int) (n fan r : Int) : Prop := (r = -1 ∧ ∀ a, 0 ≤ a → a + fan ≤ n → ¬ alk_ lv fan a) ∨ (0 ≤ r ∧ r + fan ≤ n ∧ alk_ lv fan r ∧ ∀ a, 0 ≤ a → a < r → ¬ alk_ lv fan a)
theorem ak_one {lv : Int → Int} {n fan r s : Int} (h : ak_ lv n fan r) (k : ak_ lv n fan s) : r = s := by
  rcases h with ⟨h1, h2⟩ | ⟨h1, h2, h3, h4⟩
  · rcases k with ⟨k1, k2⟩ | ⟨k1, k2, k3, k4⟩
    · omega
    · exact absurd k3 (h2 s k1 k2)
  · rcases k with ⟨k1, k2⟩ | ⟨k1, k2, k3, k4⟩
    · exact absurd h3 (k2 r h1 h2)
    · by_cases z : r < s
      · exact absurd h3 (k4 r h1 z)
      · by_cases y : s < r
        · exact absurd k3 (h4 s k1 y)
        · omega
theorem ak_cg {lv lw : Int → Int} {n fan r : Int} (hf : 0 < fan) (he : ∀ i, 0 ≤ i → i < n → lv i = lw i) (h : ak_ lv n fan r) : ak_ lw n fan r := by
  have key : ∀ a, 0 ≤ a → a + fan ≤ n → (alk_ lv fan a ↔ alk_ lw fan a) := by
    intro a h0 h1
    unfold alk_
    constructor
    · intro g j j0 j1
      rw [← he (a + j) (by omega) (by omega), ← he a h0 (by omega)]
      exact g j j0 j1
    · intro g j j0 j1
      rw [he (a + j) (by omega) (by omega), he a h0 (by omega)]
      exact g j j0 j1
  rcases h with ⟨h1, h2⟩ | ⟨h1, h2, h3, h4⟩
  · exact Or.inl ⟨h1, fun a a0 a1 z => h2 a a0 a1 ((key a a0 a1).mpr z)⟩
  · exact Or.inr ⟨h1, h2, (key r h1 h2).mp h3, fun a a0 a1 z => h4 a a0 a1 ((key a a0 (by omega)).mpr z)⟩
theorem ct_alike {o : Nat} {n fan : Int} {M : mm_M} {R : Int → mm_M → Prop} (hn : 0 ≤ n ∧ n ≤ ((mm_kd o).2 : Int)) (hs : n ≤ 1000) (hf : 2 ≤ fan ∧ fan ≤ 100) (h : ∀ r, ak_ (nn_ri M o) n fan r → R r M) : nr_LI_alike o n fan M R := by
  refine ng_LI_alike _ _ _ _ _ ?_
  have L : ∀ i : Int, i ≤ n → 0 ≤ i → ∀ same : Int, 0 ≤ same → same < fan → same ≤ i → (0 < i → 1 ≤ same) → (∀ j, i - same ≤ j → j < i → nn_ri M o j = nn_ri M o (i - 1)) → (same < i → nn_ri M o (i - same - 1) ≠ nn_ri M o (i - 1)) → (∀ a, 0 ≤ a → a + fan ≤ i → ¬ alk_ (nn_ri M o) fan a) → nk_LI_alike_5 o n fan same i M R := by
    refine lp_up (fun i hi ih h0 same s0 s1 s2 s3 s4 s5 s6 => ?_)
    refine ng_LI_alike_5 _ _ _ _ _ _ _ ⟨fun c => ?_, fun c => ?_⟩
    · have : i = n := by omega
      subst this
      exact h _ (Or.inl ⟨rfl, s6⟩)
    rw [mm_w_id (x := i + 1) (by omega), mm_w_id (x := i - fan) (by omega), mm_w_id (x := i - fan + 1) (by omega), mm_w_id (x := i - 1) (by omega), mm_w_id (x := same + 1) (by omega)]
    -- going on with so many the same
    have go : ∀ s : Int, 1 ≤ s → s < fan → s ≤ i + 1 → (∀ j, i + 1 - s ≤ j → j < i + 1 → nn_ri M o j = nn_ri M o i) → (s < i + 1 → nn_ri M o (i - s) ≠ nn_ri M o i) → nk_LI_alike_5 o n fan s (i + 1) M R := by
      intro s g1 g2 g3 g4 g5
      refine ih c (by omega) s (by omega) g2 g3 (fun _ => g1) ?_ ?_ ?_
      · rw [show i + 1 - 1 = i by omega]; exact g4
      · intro g
        rw [show i + 1 - 1 = i by omega, show i + 1 - s - 1 = i - s by omega]
        exact g5 g
      · intro a a0 a1 al
        by_cases z : a + fan ≤ i
        · exact s6 a a0 z al
        · have e : a = i + 1 - fan := by omega
          have x1 := al (i - s - a) (by omega) (by omega)
          have x2 := al (i - a) (by omega) (by omega)
          rw [show a + (i - s - a) = i - s by omega] at x1
          rw [show a + (i - a) = i by omega] at x2
          exact g5 (by omega) (x1.trans x2.symm)
    refine ⟨fun c0 => ⟨fun _ => ?_, fun e => by omega⟩, fun c0 => ⟨by omega, by omega, fun d => ⟨fun _ => ?_, fun e => by omega⟩, fun d => ⟨fun e => ?_, fun e => ?_⟩⟩⟩
    · refine go 1 (by omega) (by omega) (by omega) (fun j j0 j1 => by rw [show j = i by omega]) (fun z => by omega)
    · refine go 1 (by omega) (by omega) (by omega) (fun j j0 j1 => by rw [show j = i by omega]) (fun _ z => d z.symm)
    · refine go (same + 1) (by omega) (by omega) (by omega) (fun j j0 j1 => ?_) (fun z => ?_)
      · by_cases y : j = i
        · rw [y]
        · rw [s4 j (by omega) (by omega), d]
      · have := s5 (by omega)
        rw [show i - (same + 1) = i - same - 1 by omega, d]
        exact this
    · refine h _ (Or.inr ⟨by omega, by omega, fun j j0 j1 => ?_, fun a a0 a1 => s6 a a0 (by omega)⟩)
      have all : ∀ j, i - fan + 1 ≤ j → j ≤ i → nn_ri M o j = nn_ri M o i := by
        intro j j0 j1
        by_cases y : j = i
        · rw [y]
        · rw [s4 j (by omega) (by omega), d]
      rw [all _ (by omega) (by omega), all (i - fan + 1) (by omega) (by omega)]
  exact L 0 hn.1 (by omega) 0 (by omega) (by omega) (by omega) (fun z => by omega) (fun j j0 j1 => by omega) (fun z => by omega) (fun a a0 a1 => by omega)
def hi_ (lv : Int → Int) (f : Int) : Nat → Int
  | 0 => -1
  | m + 1 => max (hi_ lv f m) (lv (f + m))
theorem hi_cg {lv lw : Int → Int} {f : Int} : ∀ {m : Nat}, (∀ i, f ≤ i → i < f + m → lv i = lw i) → hi_ lv f m = hi_ lw f m
  | 0, _ => rfl
  | m + 1, h => by
    unfold hi_
    rw [hi_cg (m := m) (fun i i0 i1 => h i i0 (by omega)), h (f + m) (by omega) (by omega)]
theorem ct_highest {o : Nat} {f m : Int} {M : mm_M} {R : Int → mm_M → Prop} (hf : 0 ≤ f) (hm : 0 ≤ m) (hn : f + m ≤ ((mm_kd o).2 : Int)) (hs : f + m ≤ 1000) (h : R (hi_ (nn_ri M o) f m.toNat) M) : nr_LI_highest o f m M R := by
  refine ng_LI_highest _ _ _ _ _ ?_
  have L : ∀ i : Int, i ≤ f + m → f ≤ i → nk_LI_highest_5 o f m (hi_ (nn_ri M o) f (i - f).toNat) i M R := by
    refine lp_up (fun i hi ih h0 => ?_)
    refine ng_LI_highest_5 _ _ _ _ _ _ _ ?_
    rw [mm_w_id (x := f + m) (by omega), mm_w_id (x := i + 1) (by omega)]
    refine ⟨fun c => ?_, fun c => ⟨by omega, ?_⟩⟩
    · rw [show (i - f).toNat = m.toNat by omega]; exact h
    · have := ih c (by omega)
      rw [show (i + 1 - f).toNat = (i - f).toNat + 1 by omega] at this
      unfold hi_ at this
      rw [show f + ((i - f).toNat : Int) = i by omega] at this
      cases hq : (i - f).toNat with
      | zero => rw [hq] at this; exact this
      | succ k => rw [hq] at this; exact this
  have := L f (by omega) (Int.le_refl _)
  rw [show (f - f).toNat = 0 by omega] at this
  exact this
/-- which are alike, reckoned -/
def ff_ (p : Int → Bool) : Nat → Int → Int
  | 0, _ => -1
  | k + 1, a => if p a = true then a else ff_ p k (a + 1)
def alb_ (lv : Int → Int) (n fan a : Int) : Bool := decide (a + fan ≤ n) && (List.range fan.toNat).all (fun j => lv (a + (j : Int)) == lv a)
theorem alb_iff {lv : Int → Int} {n fan a : Int} : alb_ lv n fan a = true ↔ a + fan ≤ n ∧ alk_ lv fan a := by
  unfold alb_ alk_
  rw [Bool.and_eq_true, decide_eq_true_eq, List.all_eq_true]
  constructor
  · rintro ⟨h1, h2⟩
    refine ⟨h1, fun j j0 j1 => ?_⟩
    have := h2 j.toNat (List.mem_range.mpr (by omega))
    rw [beq_iff_eq, show ((j.toNat : Nat) : Int) = j by omega] at this
    exact this
  · rintro ⟨h1, h2⟩
    refine ⟨h1, fun j hj => ?_⟩
    rw [beq_iff_eq]
    exact h2 j (by omega) (by have := List.mem_range.mp hj; omega)
def akc_ (lv : Int → Int) (n fan : Int) : Int := ff_ (alb_ lv n fan) n.toNat 0
theorem ff_spec (p : Int → Bool) : ∀ (k : Nat) (a : Int), 0 ≤ a → (ff_ p k a = -1 ∧ ∀ b, a ≤ b → b < a + k → p b = false) ∨ (a ≤ ff_ p k a ∧ ff_ p k a < a + k ∧ p (ff_ p k a) = true ∧ ∀ b, a ≤ b → b < ff_ p k a → p b = false)
  | 0, a, _ => Or.inl ⟨rfl, fun b h1 h2 => by omega⟩
  | k + 1, a, h0 => by
    unfold ff_
    by_cases hp : p a = true
    · rw [if_pos hp]
      exact Or.inr ⟨by omega, by omega, hp, fun b h1 h2 => by omega⟩
    · rw [if_neg hp]
      have hf : p a = false := by simpa using hp
      rcases ff_spec p k (a + 1) (by omega) with ⟨e, g⟩ | ⟨g1, g2, g3, g4⟩
      · refine Or.inl ⟨e, fun b h1 h2 => ?_⟩
        by_cases z : b = a
        · rw [z]; exact hf
        · exact g b (by omega) (by omega)
      · refine Or.inr ⟨by omega, by omega, g3, fun b h1 h2 => ?_⟩
        by_cases z : b = a
        · rw [z]; exact hf
        · exact g4 b (by omega) h2
theorem akc_ak {lv : Int → Int} {n fan : Int} (hf : 0 < fan) : ak_ lv n fan (akc_ lv n fan) := by
  unfold akc_
  rcases ff_spec (alb_ lv n fan) n.toNat 0 (by omega) with ⟨e, g⟩ | ⟨g1, g2, g3, g4⟩
  · refine Or.inl ⟨e, fun a a0 a1 z => ?_⟩
    have := g a a0 (by omega)
    rw [alb_iff.mpr ⟨a1, z⟩] at this
    cases this
  · have g5 := alb_iff.mp g3
    refine Or.inr ⟨g1, g5.1, g5.2, fun a a0 a1 z => ?_⟩
    have := g4 a a0 a1
    rw [alb_iff.mpr ⟨by omega, z⟩] at this
    cases this
/-- merges by levels, reckoned: how many, the ids, LATEST, the runs -/
abbrev ab_S : Type := Int × Int × Int × ab_V × Int × (Int → ab_R)
def lvl_ (q : Int → ab_R) : Int → Int := fun i => (q i).2.2.1
def tm1_ (f many level sure : Int) (s : ab_S) : ab_S := (s.1 + 1, s.2.1 + 1, s.2.2.1 + 1, mgl_ s.2.2.2.2.2 f many s.2.2.2.2.1 sure s.2.2.2.1, mgn_ s.2.2.2.2.2 f many s.2.2.2.2.1 sure, mgq_ s.2.2.2.2.2 f many s.2.2.2.2.1 sure level (s.2.1 + 1) (s.2.2.1 + 1))
def tml_ (fan sure : Int) : Nat → ab_S → ab_S
  | 0, s => s
  | k + 1, s => if akc_ (lvl_ s.2.2.2.2.2) s.2.2.2.2.1 fan = -1 then s else tml_ fan sure k (tm1_ (akc_ (lvl_ s.2.2.2.2.2) s.2.2.2.2.1 fan) fan (lvl_ s.2.2.2.2.2 (akc_ (lvl_ s.2.2.2.2.2) s.2.2.2.2.1 fan) + 1) sure s)
def tmz_ (sure : Int) (s : ab_S) : ab_S := if 20 < s.2.2.2.2.1 then tm1_ 0 s.2.2.2.2.1 (hi_ (lvl_ s.2.2.2.2.2) 0 s.2.2.2.2.1.toNat + 1) sure s else s
def tmf_ (fan sure : Int) (s : ab_S) : ab_S := tmz_ sure (tml_ fan sure s.2.2.2.2.1.toNat s)
theorem mgk_in (q : Int → ab_R) (f many n sure : Int) : 0 ≤ mgk_ q f many n sure ∧ mgk_ q f many n sure ≤ 1 := by
  unfold mgk_
  split <;> omega
theorem kd_lev {t n : Nat} (N : nn_N n) (C : nn_C 10 t n) : mm_kd (t + 8) = (20, 24) := na_10_3 N C
/-- the state of a Table, as the class has it, with the Model's ids beside -/
def ts_ (M : mm_M) (t : Nat) (mem : ab_V) (s : ab_S) : Prop := tb_ M t mem s.2.2.2.1 s.2.2.2.2.1 s.2.2.2.2.2 ∧ nn_rf M t 8 = s.2.1
theorem ts_lv {M : mm_M} {t : Nat} {mem : ab_V} {s : ab_S} (k : ts_ M t mem s) : ∀ i, 0 ≤ i → i < s.2.2.2.2.1 → nn_ri M (t + 8) i = lvl_ s.2.2.2.2.2 i := fun i h0 h1 => (k.1.2.2.2.2 i h0 h1).2.1
/-- levels and ids stay small -/
def lb_ (s : ab_S) (b : Int) : Prop := ∀ i, 0 ≤ i → i < s.2.2.2.2.1 → -1 ≤ lvl_ s.2.2.2.2.2 i ∧ lvl_ s.2.2.2.2.2 i ≤ b
theorem hi_le {lv : Int → Int} {f b : Int} (hb : -1 ≤ b) : ∀ {m : Nat}, (∀ i, f ≤ i → i < f + m → lv i ≤ b) → -1 ≤ hi_ lv f m ∧ hi_ lv f m ≤ b
  | 0, _ => ⟨Int.le_refl _, hb⟩
  | m + 1, h => by
    have := hi_le (lv := lv) (f := f) hb (m := m) (fun i i0 i1 => h i i0 (by omega))
    have h2 := h (f + m) (by omega) (by omega)
    unfold hi_
    omega
theorem lb_tm1 {f many level sure b : Int} {s : ab_S} (hf : 0 ≤ f) (hm : 1 ≤ many) (hn : f + many ≤ s.2.2.2.2.1) (k : lb_ s b) (hl : -1 ≤ level ∧ level ≤ b + 1) : lb_ (tm1_ f many level sure s) (b + 1) := by
  intro i i0 i1
  have hk := mgk_in s.2.2.2.2.2 f many s.2.2.2.2.1 sure
  have hi1 : i < s.2.2.2.2.1 - (many - mgk_ s.2.2.2.2.2 f many s.2.2.2.2.1 sure) := i1
  show -1 ≤ (mgq_ s.2.2.2.2.2 f many s.2.2.2.2.1 sure level (s.2.1 + 1) (s.2.2.1 + 1) i).2.2.1 ∧ (mgq_ s.2.2.2.2.2 f many s.2.2.2.2.1 sure level (s.2.1 + 1) (s.2.2.1 + 1) i).2.2.1 ≤ b + 1
  have key : ∀ j, 0 ≤ j → j < s.2.2.2.2.1 → -1 ≤ (st_ f (mgr_ s.2.2.2.2.2 f many s.2.2.2.2.1 sure level (s.2.1 + 1) (s.2.2.1 + 1)) s.2.2.2.2.2 j).2.2.1 ∧ (st_ f (mgr_ s.2.2.2.2.2 f many s.2.2.2.2.1 sure level (s.2.1 + 1) (s.2.2.1 + 1)) s.2.2.2.2.2 j).2.2.1 ≤ b + 1 := by
    intro j j0 j1
    unfold st_
    by_cases z : j = f
    · rw [if_pos z]; exact hl
    · rw [if_neg z]
      have := k j j0 j1
      unfold lvl_ at this
      omega
  unfold mgq_ cu_
  by_cases z : i < f + mgk_ s.2.2.2.2.2 f many s.2.2.2.2.1 sure
  · rw [if_pos z]; exact key i i0 (by omega)
  · rw [if_neg z]; exact key _ (by omega) (by omega)
theorem ct_T_mergeLevels {t : Nat} {fan sure b : Int} {M : mm_M} {R : Int → mm_M → Prop} {mem : ab_V} {s : ab_S} (hk8 : mm_kd (t + 8) = (20, 24)) (hfan : 2 ≤ fan ∧ fan ≤ 4) (k : ts_ M t mem s) (h1 : s.1 = 0) (hb : lb_ s b ∧ 0 ≤ b ∧ b < 1000000000) (hc : 0 ≤ s.2.1 ∧ s.2.1 < 1000000000)
    (h : ∀ M', fr_ (tw_ t) M M' → ts_ M' t mem (tmf_ fan sure s) → R (tmf_ fan sure s).1 M') : nr_Table_mergeLevels t fan sure M R := by
  obtain ⟨n0, n24⟩ := k.1.2.2.1.2
  have fin : ∀ M1 (s1 : ab_S) (b1 : Int), fr_ (tw_ t) M M1 → ts_ M1 t mem s1 → lb_ s1 b1 → 0 ≤ b1 → b1 < 1000000100 → 0 ≤ s1.1 → s1.1 ≤ 100 → 0 ≤ s1.2.1 → s1.2.1 < 1000000100 → tmz_ sure s1 = tmf_ fan sure s → ((nn_rf M1 t 5 ≤ 20 → R s1.1 M1) ∧ (20 < nn_rf M1 t 5 → nr_LI_highest (t + 8) 0 (nn_rf M1 t 5) M1 (fun r97 M97 => nr_Table_mergeRuns t 0 (nn_rf M1 t 5) (mm_w (r97 + 1)) sure M97 (fun M103 => R (mm_w (s1.1 + 1)) M103)))) := by
    intro M1 s1 b1 f1 k1 l1 hb0 hb1 ha0 ha1 hd0 hd1 he
    obtain ⟨x0, x1, x2⟩ := k1.1.2.2.1
    rw [x0]
    refine ⟨fun c => ?_, fun c => ?_⟩
    · have e : tmz_ sure s1 = s1 := if_neg (by omega)
      rw [e] at he
      have := h M1 f1 (he ▸ k1)
      rw [he]
      exact this
    · refine ct_highest (by omega) (by omega) (by rw [hk8]; show _ ≤ (24 : Int); omega) (by omega) ?_
      have hh : hi_ (nn_ri M1 (t + 8)) 0 s1.2.2.2.2.1.toNat = hi_ (lvl_ s1.2.2.2.2.2) 0 s1.2.2.2.2.1.toNat := hi_cg (fun i i0 i1 => ts_lv k1 i i0 (by omega))
      have hl := hi_le (lv := lvl_ s1.2.2.2.2.2) (f := 0) (b := b1) (by omega) (m := s1.2.2.2.2.1.toNat) (fun i i0 i1 => (l1 i i0 (by omega)).2)
      rw [hh, mm_w_id (x := hi_ (lvl_ s1.2.2.2.2.2) 0 s1.2.2.2.2.1.toNat + 1) (by omega), mm_w_id (x := s1.1 + 1) (by omega)]
      refine ct_T_mergeRuns (s1.2.2.1 + 1) (by omega) (by omega) (by omega) k1.1 (by rw [k1.2]; omega) (fun M2 f2 g2 k2 => ?_)
      have e : tmz_ sure s1 = tm1_ 0 s1.2.2.2.2.1 (hi_ (lvl_ s1.2.2.2.2.2) 0 s1.2.2.2.2.1.toNat + 1) sure s1 := if_pos c
      rw [e] at he
      rw [k1.2] at k2 g2
      have := h M2 (fr_trans f1 f2) (by rw [← he]; exact ⟨k2, g2⟩)
      rw [← he] at this
      exact this
  have L : ∀ fuel : Nat, fuel ≤ 24 → ∀ M1 (s1 : ab_S) (b1 : Int), fr_ (tw_ t) M M1 → ts_ M1 t mem s1 → lb_ s1 b1 → 0 ≤ b1 → b1 + fuel < 1000000030 → 0 ≤ s1.1 → s1.1 + fuel ≤ 24 → 0 ≤ s1.2.1 → s1.2.1 + fuel < 1000000030 → tmz_ sure (tml_ fan sure fuel s1) = tmf_ fan sure s → ∀ a, ak_ (nn_ri M1 (t + 8)) s1.2.2.2.2.1 fan a → nk_Table_mergeLevels_22 t fan sure s1.1 a fuel M1 R := by
    intro fuel
    induction fuel with
    | zero =>
      intro _ M1 s1 b1 f1 k1 l1 hb0 hb1 ha0 ha1 hd0 hd1 he a ha
      refine ng_Table_mergeLevels_22 _ _ _ _ _ _ _ _ ⟨fun _ => ?_, fun c => absurd c (by decide)⟩
      exact fin M1 s1 b1 f1 k1 l1 hb0 (by omega) ha0 (by omega) hd0 (by omega) he
    | succ fuel ih =>
      intro hfu M1 s1 b1 f1 k1 l1 hb0 hb1 ha0 ha1 hd0 hd1 he a ha
      refine ng_Table_mergeLevels_22 _ _ _ _ _ _ _ _ ⟨fun c => by omega, fun _ => ?_⟩
      obtain ⟨x0, x1, x2⟩ := k1.1.2.2.1
      have ha2 : a = akc_ (lvl_ s1.2.2.2.2.2) s1.2.2.2.2.1 fan := ak_one (ak_cg (by omega) (fun i i0 i1 => ts_lv k1 i i0 i1) ha) (akc_ak (by omega))
      refine ⟨fun c => ?_, fun c => ?_⟩
      · have e : tml_ fan sure (fuel + 1) s1 = s1 := by
          unfold tml_
          exact if_pos (by rw [← ha2]; exact c)
        rw [e] at he
        exact fin M1 s1 b1 f1 k1 l1 hb0 (by omega) ha0 (by omega) hd0 (by omega) he
      · have hr : 0 ≤ a ∧ a + fan ≤ s1.2.2.2.2.1 := by
          rcases ha with ⟨z, _⟩ | ⟨z1, z2, _⟩
          · exact absurd z c
          · exact ⟨z1, z2⟩
        have hlv := ts_lv k1 a hr.1 (by omega)
        have hl1 := l1 a hr.1 (by omega)
        refine ⟨by omega, ?_⟩
        rw [hlv, mm_w_id (x := lvl_ s1.2.2.2.2.2 a + 1) (by omega), mm_w_id (x := s1.1 + 1) (by omega), mm_w_id (x := ((fuel + 1 : Nat) : Int) + -1) (by omega)]
        refine ct_T_mergeRuns (s1.2.2.1 + 1) hr.1 (by omega) hr.2 k1.1 (by rw [k1.2]; omega) (fun M2 f2 g2 k2 => ?_)
        rw [k1.2] at k2 g2
        have e : tml_ fan sure (fuel + 1) s1 = tml_ fan sure fuel (tm1_ a fan (lvl_ s1.2.2.2.2.2 a + 1) sure s1) := by
          show (if akc_ (lvl_ s1.2.2.2.2.2) s1.2.2.2.2.1 fan = -1 then s1 else tml_ fan sure fuel (tm1_ (akc_ (lvl_ s1.2.2.2.2.2) s1.2.2.2.2.1 fan) fan (lvl_ s1.2.2.2.2.2 (akc_ (lvl_ s1.2.2.2.2.2) s1.2.2.2.2.1 fan) + 1) sure s1)) = _
          rw [← ha2, if_neg c]
        rw [e] at he
        have k3 : ts_ M2 t mem (tm1_ a fan (lvl_ s1.2.2.2.2.2 a + 1) sure s1) := ⟨k2, g2⟩
        obtain ⟨y0, y1, y2⟩ := k3.1.2.2.1
        refine ct_alike ⟨by rw [y0]; exact y1, by rw [hk8, y0]; exact y2⟩ (by rw [y0]; omega) ⟨by omega, by omega⟩ (fun r hr2 => ?_)
        rw [show ((fuel + 1 : Nat) : Int) + -1 = (fuel : Int) by omega]
        rw [y0] at hr2
        exact ih (by omega) M2 (tm1_ a fan (lvl_ s1.2.2.2.2.2 a + 1) sure s1) (b1 + 1) (fr_trans f1 f2) k3 (lb_tm1 hr.1 (by omega) hr.2 l1 (by omega)) (by omega) (by omega) (show 0 ≤ s1.1 + 1 by omega) (show s1.1 + 1 + (fuel : Int) ≤ 24 by omega) (show 0 ≤ s1.2.1 + 1 by omega) (show s1.2.1 + 1 + (fuel : Int) < 1000000030 by omega) he r hr2
  refine ng_Table_mergeLevels _ _ _ _ _ ?_
  obtain ⟨x0, x1, x2⟩ := k.1.2.2.1
  rw [x0]
  refine ct_alike ⟨x1, by rw [hk8]; exact x2⟩ (by omega) ⟨by omega, by omega⟩ (fun r hr => ?_)
  rw [x0]
  have := L s.2.2.2.2.1.toNat (by omega) M s b (fr_refl M) k hb.1 hb.2.1 (by omega) (by omega) (by omega) hc.1 (by omega) rfl r hr
  rw [h1, show ((s.2.2.2.2.1.toNat : Nat) : Int) = s.2.2.2.2.1 by omega] at this
  exact this
