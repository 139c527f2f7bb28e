/-! ids: what each step keeps of them -/
theorem gd_sub {c c' : Int × Int} {S S' : Int × Int → Prop} (g : gd_ c S) (h : ∀ p, S' p → S p) (h1 : c.1 ≤ c'.1) (h2 : c.2 ≤ c'.2) : gd_ c' S' :=
  ⟨fun p hp => by have := g.1 p (h p hp); omega, fun p p' hp hp' => g.2 p p' (h p hp) (h p' hp')⟩
theorem gd_new {c : Int × Int} {S S' : Int × Int → Prop} (g : gd_ c S) (h : ∀ p, S' p → S p ∨ p = (c.1 + 1, c.2 + 1)) : gd_ (c.1 + 1, c.2 + 1) S' := by
  obtain ⟨g1, g2⟩ := g
  refine ⟨fun p hp => ?_, fun p p' hp hp' => ?_⟩
  · rcases h p hp with w | w
    · have := g1 p w
      show p.1 ≤ c.1 + 1 ∧ p.2 ≤ c.2 + 1
      omega
    · rw [w]; exact ⟨Int.le_refl _, Int.le_refl _⟩
  · rcases h p hp with w | w
    · have b1 := g1 p w
      rcases h p' hp' with y | y
      · exact g2 p p' w y
      · rw [y]
        show p.1 = c.1 + 1 ↔ p.2 = c.2 + 1
        omega
    · rcases h p' hp' with y | y
      · have b1 := g1 p' y
        rw [w]
        show c.1 + 1 = p'.1 ↔ c.2 + 1 = p'.2
        omega
      · rw [w, y]
        exact ⟨fun _ => rfl, fun _ => rfl⟩
def alP_ (n : Int) (g : Int → ab_P) (p : Int × Int) : Prop := ∃ r, 0 ≤ r ∧ r < n ∧ p = ((g r).1, (g r).2.1)
theorem pm1_gd {U : Int × Int → Prop} {mends stamp f m level : Int} {lat : ab_V} {w : ab_W} (hf : 0 ≤ f) (hm : 1 ≤ m) (hn : f + m ≤ w.1) (h : gd_ (w.2.1, w.2.2.1) (fun p => U p ∨ alP_ w.1 w.2.2.2 p)) : gd_ ((pm1_ mends stamp lat f m level w).2.1, (pm1_ mends stamp lat f m level w).2.2.1) (fun p => U p ∨ alP_ (pm1_ mends stamp lat f m level w).1 (pm1_ mends stamp lat f m level w).2.2.2 p) := by
  refine gd_new h (fun p hp => ?_)
  rcases hp with hp | ⟨r, r0, r1, hr⟩
  · exact Or.inl (Or.inl hp)
  · rw [hr]
    exact mpg_all (P := fun x => (U (x.1, x.2.1) ∨ alP_ w.1 w.2.2.2 (x.1, x.2.1)) ∨ (x.1, x.2.1) = (w.2.1 + 1, w.2.2.1 + 1)) hf hm hn (Or.inr rfl) (fun r r0 r1 => Or.inl (Or.inr ⟨r, r0, r1, rfl⟩)) r r0 r1
theorem pmf_gd {U : Int × Int → Prop} {fan mends stamp : Int} {lat : ab_V} {w : ab_W} (hfan : 2 ≤ fan) (h : gd_ (w.2.1, w.2.2.1) (fun p => U p ∨ alP_ w.1 w.2.2.2 p)) : gd_ ((pmf_ fan mends stamp lat w).2.1, (pmf_ fan mends stamp lat w).2.2.1) (fun p => U p ∨ alP_ (pmf_ fan mends stamp lat w).1 (pmf_ fan mends stamp lat w).2.2.2 p) := by
  obtain ⟨k, _, hk⟩ := pmf_ind (fan := fan) (mends := mends) (stamp := stamp) (lat := lat) (w := w) (P := fun _ w1 => gd_ (w1.2.1, w1.2.2.1) (fun p => U p ∨ alP_ w1.1 w1.2.2.2 p)) hfan h (fun k w1 f m level hp hf hm hfm _ => pm1_gd hf (by omega) hfm hp)
  exact hk
theorem rp1_gd {U : Int × Int → Prop} {lat : ab_V} {st r : Int} {w : ab_W} (hr : 0 ≤ r ∧ r < w.1) (h : gd_ (w.2.1, w.2.2.1) (fun p => U p ∨ alP_ w.1 w.2.2.2 p)) : gd_ ((rp1_ lat st r w).2.1, (rp1_ lat st r w).2.2.1) (fun p => U p ∨ alP_ (rp1_ lat st r w).1 (rp1_ lat st r w).2.2.2 p) := by
  refine gd_new h (fun p hp => ?_)
  rcases hp with hp | ⟨j, j0, j1, hj⟩
  · exact Or.inl (Or.inl hp)
  · rw [hj]
    rcases rp1_from (lat := lat) (st := st) hr j0 j1 with ⟨_, _, e⟩ | ⟨i, i0, i1, _, e, _⟩
    · rw [e]; exact Or.inr rfl
    · rw [e]; exact Or.inl (Or.inr ⟨i, i0, i1, rfl⟩)
theorem rpn_gd {U : Int × Int → Prop} {lat : ab_V} {st : Int} (k : Nat) (w : ab_W) (hk : (k : Int) ≤ w.1) (h : gd_ (w.2.1, w.2.2.1) (fun p => U p ∨ alP_ w.1 w.2.2.2 p)) : gd_ ((rpn_ lat st k w).2.1, (rpn_ lat st k w).2.2.1) (fun p => U p ∨ alP_ (rpn_ lat st k w).1 (rpn_ lat st k w).2.2.2 p) := by
  have := rpn_ind (lat := lat) (st := st) (P := fun k w => (k : Int) ≤ w.1 ∧ gd_ (w.2.1, w.2.2.1) (fun p => U p ∨ alP_ w.1 w.2.2.2 p)) (fun k w hp => by
    obtain ⟨h1, h2⟩ := hp
    have h3 := (rp1_n (lat := lat) (st := st) (r := (k : Int)) (w := w)).1
    exact ⟨by omega, rp1_gd ⟨by omega, by omega⟩ h2⟩) k w ⟨hk, h⟩
  exact this.2
/-- of an index -/
theorem alX_of {X : ab_X} (h : xh_ X ≠ 0) (p : Int × Int) : alX_ X p ↔ alP_ (xn_ X) (xg_ X) p := ⟨fun w => w.2, fun w => ⟨h, w⟩⟩
def Fid_ (J : ab_X → Prop) (F : Int × Int → ab_X → (Int × Int) × ab_X) : Prop := ∀ c X (U : Int × Int → Prop), J X → gd_ c (fun p => U p ∨ alX_ X p) → gd_ (F c X).1 (fun p => U p ∨ alX_ (F c X).2 p)
theorem Fid_mrg {fan st : Int} {lat : ab_V} (hfan : 2 ≤ fan) (J : ab_X → Prop) : Fid_ J (mrg_ fan st lat) := by
  intro c X U _ h
  unfold mrg_
  by_cases z : xh_ X = 0
  · rw [if_pos z]; exact h
  · rw [if_neg z]
    have h2 := pmf_gd (U := U) (fan := fan) (mends := xm_ X) (stamp := st) (lat := lat) (w := (xn_ X, c.1, c.2, xg_ X)) hfan (gd_sub h (fun p hp => hp.imp (fun y => y) (alX_of z p).mpr) (Int.le_refl _) (Int.le_refl _))
    exact gd_sub h2 (fun p hp => hp.imp (fun y => y) (fun w => w.2)) (Int.le_refl _) (Int.le_refl _)
theorem Fid_lay {st : Int} {mem : ab_V} (J : ab_X → Prop) : Fid_ J (lay_ st mem) := by
  intro c X U _ h
  unfold lay_
  by_cases z : xh_ X = 0
  · rw [if_pos z]; exact h
  · rw [if_neg z]
    by_cases y : ∃ y, xA_ X y ∧ fs_ mem y = true
    · rw [if_pos y]
      refine gd_new h (fun p hp => ?_)
      rcases hp with hp | ⟨_, r, r0, r1, hr⟩
      · exact Or.inl (Or.inl hp)
      · have r1 : r < xn_ X + 1 := r1
        have hr : p = ((inP_ 0 (c.1 + 1, c.2 + 1, 0, st, fun y => xA_ X y ∧ fs_ mem y = true) (xg_ X) r).1, (inP_ 0 (c.1 + 1, c.2 + 1, 0, st, fun y => xA_ X y ∧ fs_ mem y = true) (xg_ X) r).2.1) := hr
        rw [hr]
        rcases in0_from (c.1 + 1, c.2 + 1, 0, st, fun y => xA_ X y ∧ fs_ mem y = true) (xg_ X) r0 r1 with ⟨_, e⟩ | ⟨e0, e1, e⟩
        · rw [e]; exact Or.inr rfl
        · rw [e]; exact Or.inl (Or.inr ⟨z, r - 1, e0, e1, rfl⟩)
    · rw [if_neg y]
      exact gd_sub h (fun p hp => hp) (by show c.1 ≤ c.1 + 1; omega) (Int.le_refl _)
theorem Fid_tk2 {key row st : Int} (J : ab_X → Prop) : Fid_ J (tk2_ key row st) := by
  intro c X U _ h
  unfold tk2_
  split
  · exact h
  · exact h
theorem Fid_rpX {st : Int} {lat : ab_V} : Fid_ (fun X => xh_ X ≠ 0 ∧ 0 ≤ xn_ X) (rpX_ st lat) := by
  intro c X U hJ h
  have h2 := rpn_gd (U := U) (lat := lat) (st := st) (xn_ X).toNat (xn_ X, c.1, c.2, xg_ X) (by show (((xn_ X).toNat : Nat) : Int) ≤ xn_ X; omega) (gd_sub h (fun p hp => hp.imp (fun y => y) (alX_of hJ.1 p).mpr) (Int.le_refl _) (Int.le_refl _))
  exact gd_sub h2 (fun p hp => hp.imp (fun y => y) (fun w => w.2)) (Int.le_refl _) (Int.le_refl _)
theorem Fid_rep2 {st : Int} {lat : ab_V} : Fid_ (fun X => xh_ X ≠ 0 → 0 ≤ xn_ X) (rep2_ st lat) := by
  intro c X U hJ h
  unfold rep2_
  by_cases z : xh_ X = 0 ∨ sz_ X ≤ 96
  · rw [if_pos z]; exact h
  · rw [if_neg z]
    have z0 : xh_ X ≠ 0 := fun w => z (Or.inl w)
    exact Fid_rpX c X U ⟨z0, hJ z0⟩ h
theorem Fid_pmX {f m st : Int} {lat : ab_V} : Fid_ (fun X => xh_ X ≠ 0 ∧ 0 ≤ f ∧ 2 ≤ m ∧ f + m ≤ xn_ X) (pmX_ f m st lat) := by
  intro c X U hJ h
  have h2 := pm1_gd (U := U) (mends := xm_ X) (stamp := st) (lat := lat) (level := hi_ (plv_ (xg_ X)) f m.toNat + 1) (w := (xn_ X, c.1, c.2, xg_ X)) hJ.2.1 (by omega) hJ.2.2.2 (gd_sub h (fun p hp => hp.imp (fun y => y) (alX_of hJ.1 p).mpr) (Int.le_refl _) (Int.le_refl _))
  exact gd_sub h2 (fun p hp => hp.imp (fun y => y) (fun w => w.2)) (Int.le_refl _) (Int.le_refl _)
theorem Fid_fin : Fid_ (fun X => xh_ X ≠ 0) fin_ := by
  intro c X U z h
  unfold fin_
  by_cases y : ∃ y, xK_ X y
  · rw [if_pos y]
    refine gd_new h (fun p hp => ?_)
    rcases hp with hp | ⟨_, r, r0, r1, hr⟩
    · exact Or.inl (Or.inl hp)
    · have r1 : r < xn_ X + 1 := r1
      have hr : p = ((inP_ (xn_ X) (c.1 + 1, c.2 + 1, hi_ (plv_ (xg_ X)) 0 (xn_ X).toNat + 1, xb_ X, xK_ X) (xg_ X) r).1, (inP_ (xn_ X) (c.1 + 1, c.2 + 1, hi_ (plv_ (xg_ X)) 0 (xn_ X).toNat + 1, xb_ X, xK_ X) (xg_ X) r).2.1) := hr
      rw [hr]
      unfold inP_
      by_cases v : r < xn_ X
      · rw [if_pos v]; exact Or.inl (Or.inr ⟨z, r, r0, v, rfl⟩)
      · rw [if_neg v, if_pos (by omega)]; exact Or.inr rfl
  · rw [if_neg y]
    refine gd_sub h (fun p hp => ?_) (by show c.1 ≤ c.1 + 1; omega) (Int.le_refl _)
    rcases hp with hp | ⟨_, r, r0, r1, hr⟩
    · exact Or.inl hp
    · exact Or.inr ⟨z, r, r0, r1, hr⟩
/-- one index of four -/
theorem gd_set {J : ab_X → Prop} {F : Int × Int → ab_X → (Int × Int) × ab_X} (hF : Fid_ J F) {c : Int × Int} {Xs : Int → ab_X} {U : Int × Int → Prop} {i : Int} (hi : 0 ≤ i ∧ i < 4) (hJ : J (Xs i)) (h : gd_ c (fun p => U p ∨ ∃ j, 0 ≤ j ∧ j < 4 ∧ alX_ (Xs j) p)) : gd_ (F c (Xs i)).1 (fun p => U p ∨ ∃ j, 0 ≤ j ∧ j < 4 ∧ alX_ (if j = i then (F c (Xs i)).2 else Xs j) p) := by
  have h1 := hF c (Xs i) (fun p => U p ∨ ∃ j, (0 ≤ j ∧ j < 4 ∧ alX_ (Xs j) p) ∧ j ≠ i) hJ (gd_sub h (fun p hp => ?_) (Int.le_refl _) (Int.le_refl _))
  · refine gd_sub h1 (fun p hp => ?_) (Int.le_refl _) (Int.le_refl _)
    rcases hp with hp | ⟨j, j0, j1, hj⟩
    · exact Or.inl (Or.inl hp)
    · by_cases z : j = i
      · rw [if_pos z] at hj; exact Or.inr hj
      · rw [if_neg z] at hj; exact Or.inl (Or.inr ⟨j, ⟨j0, j1, hj⟩, z⟩)
  · rcases hp with (hp | ⟨j, hj, _⟩) | hp
    · exact Or.inl hp
    · exact Or.inr ⟨j, hj⟩
    · exact Or.inr ⟨i, hi.1, hi.2, hp⟩
theorem gd_fd {J : ab_X → Prop} {F : Int × Int → ab_X → (Int × Int) × ab_X} (hF : Fid_ J F) {c : Int × Int} {Xs : Int → ab_X} {U : Int × Int → Prop} (hJ : ∀ i, 0 ≤ i → i < 4 → J (Xs i)) (h : gd_ c (fun p => U p ∨ ∃ j, 0 ≤ j ∧ j < 4 ∧ alX_ (Xs j) p)) : gd_ (fd_ F (c, Xs) 4).1 (fun p => U p ∨ ∃ j, 0 ≤ j ∧ j < 4 ∧ alX_ ((fd_ F (c, Xs) 4).2 j) p) := by
  have key : ∀ k : Nat, k ≤ 4 → gd_ (fd_ F (c, Xs) k).1 (fun p => U p ∨ ∃ j, 0 ≤ j ∧ j < 4 ∧ alX_ ((fd_ F (c, Xs) k).2 j) p) := by
    intro k
    induction k with
    | zero => intro _; exact h
    | succ k ih =>
      intro hk
      have ih := ih (by omega)
      refine gd_set (i := (k : Int)) hF ⟨by omega, by omega⟩ ?_ ih
      rw [fd_ge _ _ k _ (Int.le_refl _)]
      exact hJ _ (by omega) (by omega)
  exact key 4 (Nat.le_refl _)
/-- of the table -/
theorem tm1_gd {U : Int × Int → Prop} {f m level sure : Int} {s : ab_S} (hf : 0 ≤ f) (hm : 1 ≤ m) (hn : f + m ≤ s.2.2.2.2.1) (h : gd_ (s.2.1, s.2.2.1) (fun p => U p ∨ alQ_ s.2.2.2.2.1 s.2.2.2.2.2 p)) : gd_ ((tm1_ f m level sure s).2.1, (tm1_ f m level sure s).2.2.1) (fun p => U p ∨ alQ_ (tm1_ f m level sure s).2.2.2.2.1 (tm1_ f m level sure s).2.2.2.2.2 p) := by
  refine gd_new h (fun p hp => ?_)
  rcases hp with hp | ⟨r, r0, r1, hr⟩
  · exact Or.inl (Or.inl hp)
  · rw [hr]
    rcases mgq_from (level := level) (cid := s.2.1 + 1) (mid := s.2.2.1 + 1) hf hm hn r0 r1 with ⟨_, _, e⟩ | ⟨r', r0', r1', e, _⟩
    · have e : (tm1_ f m level sure s).2.2.2.2.2 r = mgr_ s.2.2.2.2.2 f m s.2.2.2.2.1 sure level (s.2.1 + 1) (s.2.2.1 + 1) := e
      rw [e]; exact Or.inr rfl
    · have e : (tm1_ f m level sure s).2.2.2.2.2 r = s.2.2.2.2.2 r' := e
      rw [e]; exact Or.inl (Or.inr ⟨r', r0', r1', rfl⟩)
theorem tmf_gd {U : Int × Int → Prop} {fan sure : Int} {s : ab_S} (hfan : 2 ≤ fan) (h : gd_ (s.2.1, s.2.2.1) (fun p => U p ∨ alQ_ s.2.2.2.2.1 s.2.2.2.2.2 p)) : gd_ ((tmf_ fan sure s).2.1, (tmf_ fan sure s).2.2.1) (fun p => U p ∨ alQ_ (tmf_ fan sure s).2.2.2.2.1 (tmf_ fan sure s).2.2.2.2.2 p) := by
  obtain ⟨k, _, hk⟩ := tmf_ind (fan := fan) (sure := sure) (s := s) (P := fun _ s1 => gd_ (s1.2.1, s1.2.2.1) (fun p => U p ∨ alQ_ s1.2.2.2.2.1 s1.2.2.2.2.2 p)) hfan h (fun k s1 f m level hp hf hm hfm _ => tm1_gd hf (by omega) hfm hp)
  exact hk
/-- of the core -/
def gT_ (U : Int × Int → Prop) (T : ab_T) : Prop := gd_ (aTc_ T) (fun p => U p ∨ alQ_ (aTn_ T) (aTq_ T) p ∨ ∃ i, 0 ≤ i ∧ i < 4 ∧ alX_ (aTX_ T i) p)
theorem gT_jI {Z : ab_Z} : jI_ Z ↔ gT_ (alC_ (zC_ Z)) (zT_ Z) := Iff.rfl
theorem gd_as {c : Int × Int} {A B C : Int × Int → Prop} (h : gd_ c (fun p => A p ∨ B p ∨ C p)) : gd_ c (fun p => (A p ∨ B p) ∨ C p) := gd_sub h (fun p hp => by
  rcases hp with (w | w) | w
  · exact Or.inl w
  · exact Or.inr (Or.inl w)
  · exact Or.inr (Or.inr w)) (Int.le_refl _) (Int.le_refl _)
theorem gd_sa {c : Int × Int} {A B C : Int × Int → Prop} (h : gd_ c (fun p => (A p ∨ B p) ∨ C p)) : gd_ c (fun p => A p ∨ B p ∨ C p) := gd_sub h (fun p hp => by
  rcases hp with w | w | w
  · exact Or.inl (Or.inl w)
  · exact Or.inl (Or.inr w)
  · exact Or.inr w) (Int.le_refl _) (Int.le_refl _)
theorem gT_fd {J : ab_X → Prop} {F : Int × Int → ab_X → (Int × Int) × ab_X} (hF : Fid_ J F) {U : Int × Int → Prop} {T : ab_T} (hJ : ∀ i, 0 ≤ i → i < 4 → J (aTX_ T i)) (h : gT_ U T) : gd_ (fd_ F (aTc_ T, aTX_ T) 4).1 (fun p => U p ∨ alQ_ (aTn_ T) (aTq_ T) p ∨ ∃ i, 0 ≤ i ∧ i < 4 ∧ alX_ ((fd_ F (aTc_ T, aTX_ T) 4).2 i) p) := gd_sa (gd_fd hF hJ (gd_as h))
theorem gT_tk3 {U : Int × Int → Prop} {key row : Int} {T : ab_T} (h : gT_ U T) : gT_ U (tk3_ key row T) := by
  have h1 := gT_fd (F := tk2_ key row (aTs_ T + 1)) (Fid_tk2 (fun _ => True)) (fun _ _ _ => trivial) h
  rw [fd_c1 (fun _ _ => tk2_c) 4] at h1
  exact h1
theorem gT_rp3 {U : Int × Int → Prop} {T : ab_T} (hJ : ∀ i, 0 ≤ i → i < 4 → xh_ (aTX_ T i) ≠ 0 → 0 ≤ xn_ (aTX_ T i)) (h : gT_ U T) : gT_ U (rp3_ T) := gT_fd (F := rep2_ (aTs_ T) (aTl_ T)) Fid_rep2 hJ h
theorem gT_fl2 {U : Int × Int → Prop} {fan : Int} {T : ab_T} (hfan : 2 ≤ fan) (hn : 0 ≤ aTn_ T) (h : gT_ U T) : gT_ U (fl2_ fan T) := by
  have h1 := gT_fd (F := lay_ (aTs_ T) (aTm_ T)) (Fid_lay (fun _ => True)) (fun _ _ _ => trivial) h
  have h2 : gd_ ((flL_ (aTs_ T) (aTm_ T) (aTc_ T) (aTX_ T)).1.1 + 1, (flL_ (aTs_ T) (aTm_ T) (aTc_ T) (aTX_ T)).1.2 + 1) (fun p => (U p ∨ ∃ i, 0 ≤ i ∧ i < 4 ∧ alX_ ((flL_ (aTs_ T) (aTm_ T) (aTc_ T) (aTX_ T)).2 i) p) ∨ alQ_ (aTn_ T + 1) (sh_ ((flL_ (aTs_ T) (aTm_ T) (aTc_ T) (aTX_ T)).1.1 + 1, (flL_ (aTs_ T) (aTm_ T) (aTc_ T) (aTX_ T)).1.2 + 1, 0, aTs_ T - aTi_ T + 1, aTs_ T, aTm_ T) (aTq_ T)) p) := by
    refine gd_new h1 (fun p hp => ?_)
    rcases hp with (hp | hp) | ⟨r, r0, r1, hr⟩
    · exact Or.inl (Or.inl hp)
    · exact Or.inl (Or.inr (Or.inr hp))
    · rw [hr]
      unfold sh_
      by_cases z : r = 0
      · rw [if_pos z]; exact Or.inr rfl
      · rw [if_neg z]; exact Or.inl (Or.inr (Or.inl ⟨r - 1, by omega, by omega, rfl⟩))
  have h3 := tmf_gd (U := fun p => U p ∨ ∃ i, 0 ≤ i ∧ i < 4 ∧ alX_ ((flL_ (aTs_ T) (aTm_ T) (aTc_ T) (aTX_ T)).2 i) p) (fan := fan) (sure := sur_ (flL_ (aTs_ T) (aTm_ T) (aTc_ T) (aTX_ T)).2) (s := flS_ (aTs_ T) (aTi_ T) (aTm_ T) (aTn_ T) (aTq_ T) (aTc_ T) (aTX_ T)) hfan h2
  have h4 := gd_fd (F := mrg_ fan (aTs_ T) (lk_ nov_ (flT_ (aTs_ T) (aTi_ T) fan (aTm_ T) (aTn_ T) (aTq_ T) (aTc_ T) (aTX_ T)).2.2.2.2.1 (flT_ (aTs_ T) (aTi_ T) fan (aTm_ T) (aTn_ T) (aTq_ T) (aTc_ T) (aTX_ T)).2.2.2.2.2)) (c := ((flT_ (aTs_ T) (aTi_ T) fan (aTm_ T) (aTn_ T) (aTq_ T) (aTc_ T) (aTX_ T)).2.1, (flT_ (aTs_ T) (aTi_ T) fan (aTm_ T) (aTn_ T) (aTq_ T) (aTc_ T) (aTX_ T)).2.2.1)) (Xs := (flL_ (aTs_ T) (aTm_ T) (aTc_ T) (aTX_ T)).2) (U := fun p => U p ∨ alQ_ (flT_ (aTs_ T) (aTi_ T) fan (aTm_ T) (aTn_ T) (aTq_ T) (aTc_ T) (aTX_ T)).2.2.2.2.1 (flT_ (aTs_ T) (aTi_ T) fan (aTm_ T) (aTn_ T) (aTq_ T) (aTc_ T) (aTX_ T)).2.2.2.2.2 p) (Fid_mrg hfan (fun _ => True)) (fun _ _ _ => trivial) (gd_sub h3 (fun p hp => by
    rcases hp with (w | w) | w
    · exact Or.inl (Or.inl w)
    · exact Or.inr w
    · exact Or.inl (Or.inr w)) (Int.le_refl _) (Int.le_refl _))
  exact gd_sa h4
theorem gT_wr {U : Int × Int → Prop} {bd room fan key row : Int} {T : ab_T} (hk : 0 ≤ key ∧ key < 32) (hrow : row = -1 ∨ (0 ≤ row ∧ row < 65536)) (hfan : 2 ≤ fan) (hbd : bd < 900000000) (k : jT_ bd 64 11 T) (h : gT_ U T) : gT_ U (wr_ room fan key row T) := by
  have k1 := jT_tk3 hk hrow (by omega) k
  have h1 : gT_ U (tk3_ key row T) := gT_tk3 h
  have nX : ∀ {bd sb si : Int} {T : ab_T}, jT_ bd sb si T → ∀ i, 0 ≤ i → i < 4 → xh_ (aTX_ T i) ≠ 0 → 0 ≤ xn_ (aTX_ T i) := fun k i i0 i1 hz => (k.2.2.2.2 i i0 i1 hz).2.2.1.1.1
  unfold wr_ wr1_
  by_cases z : aTi_ (tk3_ key row T) < room
  · rw [if_pos z]
    exact gT_rp3 (nX k1) h1
  · rw [if_neg z]
    exact gT_rp3 (nX (jT_fl2 hfan (by omega) (by omega) k1)) (gT_fl2 hfan k1.2.1.1 h1)
theorem jI_pt {bd which key row : Int} {Z : ab_Z} (hk : 0 ≤ key ∧ key < 32) (hrow : 0 ≤ row ∧ row < 65536) (hbd : bd < 900000000) (j : jZ_ bd Z) (h : jI_ Z) : jI_ (pt_ which key row Z) := by
  unfold pt_
  split
  · exact gT_wr hk (Or.inr hrow) j.2.1.2.1.1 hbd j.1 h
  · exact h
theorem jI_rm {bd key : Int} {Z : ab_Z} (hk : 0 ≤ key ∧ key < 32) (hbd : bd < 900000000) (j : jZ_ bd Z) (h : jI_ Z) : jI_ (rm_ key Z) := gT_wr hk (Or.inl rfl) j.2.1.2.1.1 hbd j.1 h
theorem jI_fls {Z : ab_Z} {bd : Int} (j : jZ_ bd Z) (h : jI_ Z) : jI_ (fls_ Z) := by
  unfold fls_
  split
  · exact h
  · exact gT_fl2 j.2.1.2.1.1 j.1.2.1.1 h
theorem jI_cg {bd key col num : Int} {Z : ab_Z} (hk : 0 ≤ key ∧ key < 32) (hc : 0 ≤ col ∧ col < 4) (hn : 0 ≤ num ∧ num < 16) (hbd : bd < 900000000) (j : jZ_ bd Z) (h : jI_ Z) : jI_ (cg_ key col num Z) := by
  have hr := lk_rows j.1.1 key.toNat
  cases hp : aTl_ (zT_ Z) key.toNat with
  | none => rw [(cg_no (Or.inl hp)).1]; exact h
  | some p =>
    by_cases z : p.2 = -1
    · have e : p = (p.1, -1) := Prod.ext rfl z
      rw [(cg_no (Or.inr ⟨p.1, hp.trans (congrArg some e)⟩)).1]
      exact h
    · rw [(cg_yes hp z).1]
      have := (hr p hp).1.resolve_left z
      exact jI_pt hk (chg_in this hc hn) hbd j h
theorem jI_ld1 {bd : Int} {o : ab_O} (hbd : bd < 900000000) (j : jZ_ bd o.2) (h : jI_ o.2) : jI_ (ld1_ o).2 := by
  unfold ld1_
  by_cases h0 : dn_ (dr_ o.1) 8 = 0
  · rw [if_pos h0]; exact jI_rm (dn_in (by decide)) hbd j h
  · rw [if_neg h0]
    by_cases h1 : dn_ (dr_ o.1) 8 = 1
    · rw [if_pos h1]; exact jI_cg (dn_in (by decide)) (dn_in (by decide)) (dn_in (by decide)) hbd j h
    · rw [if_neg h1]; exact jI_pt (dn_in (by decide)) (rw_in (dn_in (by decide)) (dn_in (by decide)) (dn_in (by decide)) (dn_in (by decide))) hbd j h
theorem jI_ldn {bd : Int} {o : ab_O} (hbd : bd < 800000000) (j : jZ_ bd o.2) (h : jI_ o.2) : ∀ n : Nat, n ≤ 20 → jI_ (ldn_ n o).2
  | 0, _ => h
  | n + 1, hn => jI_ld1 (bd := bd + 400 * n) (by omega) (jZ_ldn hbd j n (by omega)) (jI_ldn hbd j h n (by omega))
