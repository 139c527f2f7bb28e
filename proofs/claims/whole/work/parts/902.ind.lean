/-! what all merges keep, if each one keeps it -/
theorem akc_in {lv : Int → Int} {n fan : Int} (hf : 0 < fan) (h : akc_ lv n fan ≠ -1) : 0 ≤ akc_ lv n fan ∧ akc_ lv n fan + fan ≤ n := by
  rcases akc_ak (lv := lv) (n := n) hf with ⟨e, _⟩ | ⟨a, b, _⟩
  · exact absurd e h
  · exact ⟨a, b⟩
theorem pmf_ind {fan mends stamp : Int} {lat : ab_V} {w : ab_W} {P : Nat → ab_W → Prop} (hfan : 2 ≤ fan) (h0 : P 0 w) (h : ∀ k w1 f m level, P k w1 → 0 ≤ f → 2 ≤ m → f + m ≤ w1.1 → (∀ b, -1 ≤ b → lbP_ w1 b → -1 ≤ level ∧ level ≤ b + 1) → P (k + 1) (pm1_ mends stamp lat f m level w1)) : ∃ k, k ≤ w.1.toNat + 1 ∧ P k (pmf_ fan mends stamp lat w) := by
  have L : ∀ fuel : Nat, ∀ (k : Nat) (w1 : ab_W), P k w1 → ∃ k2, k2 ≤ k + fuel ∧ P k2 (pml_ fan mends stamp lat fuel w1) := by
    intro fuel
    induction fuel with
    | zero => intro k w1 hp; exact ⟨k, Nat.le_refl _, hp⟩
    | succ fuel ih =>
      intro k w1 hp
      unfold pml_
      by_cases z : akc_ (plv_ w1.2.2.2) w1.1 fan = -1
      · rw [if_pos z]; exact ⟨k, by omega, hp⟩
      · rw [if_neg z]
        have ha := akc_in (by omega) z
        obtain ⟨k2, e, hk⟩ := ih (k + 1) _ (h k w1 _ fan (plv_ w1.2.2.2 (akc_ (plv_ w1.2.2.2) w1.1 fan) + 1) hp ha.1 hfan ha.2 (fun b hb hl => by have := hl _ ha.1 (by omega); omega))
        exact ⟨k2, by omega, hk⟩
  obtain ⟨k, e, hk⟩ := L w.1.toNat 0 w h0
  unfold pmf_ pmz_
  generalize pml_ fan mends stamp lat w.1.toNat w = w2 at hk ⊢
  by_cases z : 20 < w2.1
  · rw [if_pos z]
    refine ⟨k + 1, by omega, h k w2 0 w2.1 _ hk (by omega) (by omega) (by omega) (fun b hb hl => ?_)⟩
    have := hi_le (lv := plv_ w2.2.2.2) (f := 0) hb (m := w2.1.toNat) (fun i i0 i1 => (hl i i0 (by omega)).2)
    omega
  · rw [if_neg z]
    exact ⟨k, by omega, hk⟩
theorem pm1_n {mends stamp f m level : Int} {lat : ab_V} {w : ab_W} : (pm1_ mends stamp lat f m level w).1 ≤ w.1 - (m - 1) ∧ w.1 - m ≤ (pm1_ mends stamp lat f m level w).1 := by
  have := pkS_in (mgS_ w.2.2.2 f m mends lat)
  show w.1 - (m - pk_ (mgS_ w.2.2.2 f m mends lat)) ≤ w.1 - (m - 1) ∧ w.1 - m ≤ w.1 - (m - pk_ (mgS_ w.2.2.2 f m mends lat))
  omega
theorem pmf_n {fan mends stamp : Int} {lat : ab_V} {w : ab_W} : (pmf_ fan mends stamp lat w).1 ≤ 20 := by
  unfold pmf_ pmz_
  generalize pml_ fan mends stamp lat w.1.toNat w = w2
  by_cases z : 20 < w2.1
  · rw [if_pos z]
    have := (pm1_n (mends := mends) (stamp := stamp) (f := 0) (m := w2.1) (level := hi_ (plv_ w2.2.2.2) 0 w2.1.toNat + 1) (lat := lat) (w := w2)).1
    omega
  · rw [if_neg z]; omega
/-- ids, levels, how many -/
theorem lbP_pm1' {mends stamp f m level b1 : Int} {lat : ab_V} {w1 : ab_W} (hf : 0 ≤ f) (hm : 1 ≤ m) (hn : f + m ≤ w1.1) (l1 : lbP_ w1 b1) (hl0 : -1 ≤ level) (hl1 : level ≤ b1 + 1) : lbP_ (pm1_ mends stamp lat f m level w1) (b1 + 1) := by
  refine mpg_all (P := fun q => -1 ≤ q.2.2.1 ∧ q.2.2.1 ≤ b1 + 1) hf hm hn ⟨hl0, hl1⟩ (fun r r0 r1 => ?_)
  have := l1 r r0 r1
  unfold plv_ at this
  omega
theorem pmf_bd {fan mends stamp b : Int} {lat : ab_V} {w : ab_W} (hfan : 2 ≤ fan) (hb : -1 ≤ b) (hn : 0 ≤ w.1 ∧ w.1 ≤ 24) (hl : lbP_ w b) : 0 ≤ (pmf_ fan mends stamp lat w).1 ∧ (pmf_ fan mends stamp lat w).1 ≤ w.1 ∧ (w.2.1 ≤ (pmf_ fan mends stamp lat w).2.1 ∧ (pmf_ fan mends stamp lat w).2.1 ≤ w.2.1 + 25) ∧ (w.2.2.1 ≤ (pmf_ fan mends stamp lat w).2.2.1 ∧ (pmf_ fan mends stamp lat w).2.2.1 ≤ w.2.2.1 + 25) ∧ lbP_ (pmf_ fan mends stamp lat w) (b + 25) := by
  obtain ⟨k, hk, h1, h2, h3, h4, h5⟩ := pmf_ind (fan := fan) (mends := mends) (stamp := stamp) (lat := lat) (w := w) (P := fun k w1 => 0 ≤ w1.1 ∧ w1.1 ≤ w.1 ∧ w1.2.1 = w.2.1 + k ∧ w1.2.2.1 = w.2.2.1 + k ∧ lbP_ w1 (b + k)) hfan ⟨hn.1, Int.le_refl _, by omega, by omega, by rw [show b + ((0 : Nat) : Int) = b by omega]; exact hl⟩ (fun k w1 f m level hp hf hm hfm hlv => by
    obtain ⟨p1, p2, p3, p4, p5⟩ := hp
    have := hlv _ (by omega) p5
    have hh := pm1_n (mends := mends) (stamp := stamp) (f := f) (m := m) (level := level) (lat := lat) (w := w1)
    refine ⟨by omega, by omega, ?_, ?_, ?_⟩
    · show w1.2.1 + 1 = _; omega
    · show w1.2.2.1 + 1 = _; omega
    · have := lbP_pm1' (mends := mends) (stamp := stamp) (lat := lat) hf (by omega) hfm p5 this.1 this.2
      rw [show b + ((k + 1 : Nat) : Int) = b + (k : Int) + 1 by omega]
      exact this)
  refine ⟨h1, h2, by omega, by omega, fun r r0 r1 => ?_⟩
  have := h5 r r0 r1
  omega
theorem tmf_ind {fan sure : Int} {s : ab_S} {P : Nat → ab_S → Prop} (hfan : 2 ≤ fan) (h0 : P 0 s) (h : ∀ k s1 f m level, P k s1 → 0 ≤ f → 2 ≤ m → f + m ≤ s1.2.2.2.2.1 → (∀ b, -1 ≤ b → lb_ s1 b → -1 ≤ level ∧ level ≤ b + 1) → P (k + 1) (tm1_ f m level sure s1)) : ∃ k, k ≤ s.2.2.2.2.1.toNat + 1 ∧ P k (tmf_ fan sure s) := by
  have L : ∀ fuel : Nat, ∀ (k : Nat) (s1 : ab_S), P k s1 → ∃ k2, k2 ≤ k + fuel ∧ P k2 (tml_ fan sure fuel s1) := by
    intro fuel
    induction fuel with
    | zero => intro k s1 hp; exact ⟨k, Nat.le_refl _, hp⟩
    | succ fuel ih =>
      intro k s1 hp
      unfold tml_
      by_cases z : akc_ (lvl_ s1.2.2.2.2.2) s1.2.2.2.2.1 fan = -1
      · rw [if_pos z]; exact ⟨k, by omega, hp⟩
      · rw [if_neg z]
        have ha := akc_in (by omega) z
        obtain ⟨k2, e, hk⟩ := ih (k + 1) _ (h k s1 _ fan (lvl_ s1.2.2.2.2.2 (akc_ (lvl_ s1.2.2.2.2.2) s1.2.2.2.2.1 fan) + 1) hp ha.1 hfan ha.2 (fun b hb hl => by have := hl _ ha.1 (by omega); omega))
        exact ⟨k2, by omega, hk⟩
  obtain ⟨k, e, hk⟩ := L s.2.2.2.2.1.toNat 0 s h0
  unfold tmf_ tmz_
  generalize tml_ fan sure s.2.2.2.2.1.toNat s = s2 at hk ⊢
  by_cases z : 20 < s2.2.2.2.2.1
  · rw [if_pos z]
    refine ⟨k + 1, by omega, h k s2 0 s2.2.2.2.2.1 _ hk (by omega) (by omega) (by omega) (fun b hb hl => ?_)⟩
    have := hi_le (lv := lvl_ s2.2.2.2.2.2) (f := 0) hb (m := s2.2.2.2.2.1.toNat) (fun i i0 i1 => (hl i i0 (by omega)).2)
    omega
  · rw [if_neg z]
    exact ⟨k, by omega, hk⟩
theorem tm1_n {f m level sure : Int} {s : ab_S} : (tm1_ f m level sure s).2.2.2.2.1 ≤ s.2.2.2.2.1 - (m - 1) ∧ s.2.2.2.2.1 - m ≤ (tm1_ f m level sure s).2.2.2.2.1 := by
  have := mgk_in s.2.2.2.2.2 f m s.2.2.2.2.1 sure
  show s.2.2.2.2.1 - (m - mgk_ s.2.2.2.2.2 f m s.2.2.2.2.1 sure) ≤ s.2.2.2.2.1 - (m - 1) ∧ s.2.2.2.2.1 - m ≤ s.2.2.2.2.1 - (m - mgk_ s.2.2.2.2.2 f m s.2.2.2.2.1 sure)
  omega
theorem tmf_n {fan sure : Int} {s : ab_S} : (tmf_ fan sure s).2.2.2.2.1 ≤ 20 := by
  unfold tmf_ tmz_
  generalize tml_ fan sure s.2.2.2.2.1.toNat s = s2
  by_cases z : 20 < s2.2.2.2.2.1
  · rw [if_pos z]
    have := (tm1_n (f := 0) (m := s2.2.2.2.2.1) (level := hi_ (lvl_ s2.2.2.2.2.2) 0 s2.2.2.2.2.1.toNat + 1) (sure := sure) (s := s2)).1
    omega
  · rw [if_neg z]; omega
theorem tmf_bd {fan sure b : Int} {s : ab_S} (hfan : 2 ≤ fan) (hb : -1 ≤ b) (hn : 0 ≤ s.2.2.2.2.1 ∧ s.2.2.2.2.1 ≤ 24) (hl : lb_ s b) : 0 ≤ (tmf_ fan sure s).2.2.2.2.1 ∧ (tmf_ fan sure s).2.2.2.2.1 ≤ s.2.2.2.2.1 ∧ (s.1 ≤ (tmf_ fan sure s).1 ∧ (tmf_ fan sure s).1 ≤ s.1 + 25) ∧ (s.2.1 ≤ (tmf_ fan sure s).2.1 ∧ (tmf_ fan sure s).2.1 ≤ s.2.1 + 25) ∧ (s.2.2.1 ≤ (tmf_ fan sure s).2.2.1 ∧ (tmf_ fan sure s).2.2.1 ≤ s.2.2.1 + 25) ∧ lb_ (tmf_ fan sure s) (b + 25) := by
  obtain ⟨k, hk, h1, h2, h6, h3, h4, h5⟩ := tmf_ind (fan := fan) (sure := sure) (s := s) (P := fun k s1 => 0 ≤ s1.2.2.2.2.1 ∧ s1.2.2.2.2.1 ≤ s.2.2.2.2.1 ∧ s1.1 = s.1 + k ∧ s1.2.1 = s.2.1 + k ∧ s1.2.2.1 = s.2.2.1 + k ∧ lb_ s1 (b + k)) hfan ⟨hn.1, Int.le_refl _, by omega, by omega, by omega, by rw [show b + ((0 : Nat) : Int) = b by omega]; exact hl⟩ (fun k s1 f m level hp hf hm hfm hlv => by
    obtain ⟨p1, p2, p6, p3, p4, p5⟩ := hp
    have := hlv _ (by omega) p5
    have hh := tm1_n (f := f) (m := m) (level := level) (sure := sure) (s := s1)
    refine ⟨by omega, by omega, ?_, ?_, ?_, ?_⟩
    · show s1.1 + 1 = _; omega
    · show s1.2.1 + 1 = _; omega
    · show s1.2.2.1 + 1 = _; omega
    · have := lb_tm1 (sure := sure) hf (by omega) hfm p5 this
      rw [show b + ((k + 1 : Nat) : Int) = b + (k : Int) + 1 by omega]
      exact this)
  refine ⟨h1, h2, by omega, by omega, by omega, fun r r0 r1 => ?_⟩
  have := h5 r r0 r1
  omega
