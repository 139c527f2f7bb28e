/-! the next merges: as many on both sides -/
def sl_p (a p : Int) : Prop := a = -1 ∨ p ≤ a
theorem ls_sl {a b p : Int} (ha : -1 ≤ a) (hb : -1 ≤ b) : (sl_p (ls_ a b) p ↔ sl_p a p ∧ sl_p b p) ∧ -1 ≤ ls_ a b := by
  unfold sl_p ls_
  by_cases z : a = -1
  · rw [if_pos z]; omega
  · rw [if_neg z]
    by_cases y : b = -1
    · rw [if_pos y]; omega
    · rw [if_neg y]; omega
theorem lr_sl {rep : Int → Int} {f p : Int} : ∀ {m : Nat}, (∀ i, f ≤ i → i < f + m → -1 ≤ rep i) → -1 ≤ lr_ rep f m ∧ (sl_p (lr_ rep f m) p ↔ ∀ i, f ≤ i → i < f + m → sl_p (rep i) p)
  | 0, _ => ⟨Int.le_refl _, fun _ i i0 i1 => by omega, fun _ => Or.inl rfl⟩
  | m + 1, h => by
    obtain ⟨h1, h2⟩ := lr_sl (rep := rep) (f := f) (p := p) (m := m) (fun i i0 i1 => h i i0 (by omega))
    have hr := h (f + m) (by omega) (by omega)
    have e : lr_ rep f (m + 1) = ls_ (lr_ rep f m) (rep (f + m)) := rfl
    obtain ⟨g1, g2⟩ := ls_sl (p := p) h1 hr
    rw [e]
    refine ⟨g2, ?_⟩
    rw [g1, h2]
    constructor
    · rintro ⟨w1, w2⟩ i i0 i1
      by_cases z : i = f + m
      · rw [z]; exact w2
      · exact w1 i i0 (by omega)
    · intro w
      exact ⟨fun i i0 i1 => w i i0 (by omega), w (f + m) (by omega) (by omega)⟩
theorem sr_sl {o : Int → Int} {p : Int} : ∀ {m : Nat}, (∀ i : Int, 0 ≤ i → i < m → -1 ≤ o i) → -1 ≤ sr_ o m ∧ (sl_p (sr_ o m) p ↔ ∀ i : Int, 0 ≤ i → i < m → sl_p (o i) p)
  | 0, _ => ⟨Int.le_refl _, fun _ i i0 i1 => by omega, fun _ => Or.inl rfl⟩
  | m + 1, h => by
    obtain ⟨h1, h2⟩ := sr_sl (o := o) (p := p) (m := m) (fun i i0 i1 => h i i0 (by omega))
    have hr := h (m : Int) (by omega) (by omega)
    have e : sr_ o (m + 1) = ls_ (sr_ o m) (o m) := rfl
    obtain ⟨g1, g2⟩ := ls_sl (p := p) h1 hr
    rw [e]
    refine ⟨g2, ?_⟩
    rw [g1, h2]
    constructor
    · rintro ⟨w1, w2⟩ i i0 i1
      by_cases z : i = m
      · rw [z]; exact w2
      · exact w1 i i0 (by omega)
    · intro w
      exact ⟨fun i i0 i1 => w i i0 (by omega), w (m : Int) (by omega) (by omega)⟩
/-- what SURE asks of one index -/
theorem osx_sl {st since lvb sb nb p : Int} {mem lat : ab_V} {X : ab_X} (j : jX_ st since lvb sb nb mem lat X) : -1 ≤ osx_ X ∧ (sl_p (osx_ X) p ↔ (xh_ X ≠ 0 → (∀ r, 0 ≤ r → r < xn_ X → sl_p (xg_ X r).2.2.2.1 p) ∧ (xh_ X = 1 → sl_p (xb_ X) p))) := by
  by_cases z : xh_ X = 0
  · rw [osx_0 z]
    exact ⟨Int.le_refl _, fun _ w => absurd z w, fun _ => Or.inl rfl⟩
  · rw [osx_1 z]
    obtain ⟨⟨_, _, _, a4, _⟩, _, ⟨b1, b2⟩, _⟩ := j z
    unfold os_
    obtain ⟨h1, h2⟩ := lr_sl (rep := fun r => (xg_ X r).2.2.2.1) (f := 0) (p := p) (m := (xn_ X).toNat) (fun i i0 i1 => by have := (b2 i i0 (by omega)).1.1; show -1 ≤ (xg_ X i).2.2.2.1; omega)
    have hb : -1 ≤ (if xh_ X = 1 then xb_ X else -1) := by split <;> omega
    obtain ⟨g1, g2⟩ := ls_sl (p := p) h1 hb
    refine ⟨g2, ?_⟩
    rw [g1, h2]
    constructor
    · rintro ⟨w1, w2⟩ _
      refine ⟨fun r r0 r1 => w1 r r0 (by omega), fun y => ?_⟩
      rw [if_pos y] at w2; exact w2
    · intro w
      obtain ⟨w1, w2⟩ := w z
      refine ⟨fun r r0 r1 => w1 r r0 (by omega), ?_⟩
      by_cases y : xh_ X = 1
      · rw [if_pos y]; exact w2 y
      · rw [if_neg y]; exact Or.inl rfl
theorem sur_sl {st since lvb sb nb p : Int} {mem lat : ab_V} {Xs : Int → ab_X} (j : ∀ i, 0 ≤ i → i < 4 → jX_ st since lvb sb nb mem lat (Xs i)) : sl_p (sur_ Xs) p ↔ ∀ i, 0 ≤ i → i < 4 → sl_p (osx_ (Xs i)) p := by
  have e : sur_ Xs = sr_ (fun i => osx_ (Xs i)) 4 := rfl
  rw [e]
  have := (sr_sl (o := fun i => osx_ (Xs i)) (p := p) (m := 4) (fun i i0 i1 => (osx_sl (p := p) (j i i0 (by omega))).1)).2
  rw [this]
  exact ⟨fun w i i0 i1 => w i i0 (by omega), fun w i i0 i1 => w i i0 (by omega)⟩
/-- a flush of an index leaves it so, up to the stamp -/
theorem lay_sl {st since lvb sb nb p : Int} {mem lat : ab_V} {c : Int × Int} {X : ab_X} (j : jX_ st since lvb sb nb mem lat X) (j' : jX_ st 0 lvb sb (nb + 1) nov_ lat (lay_ st mem c X).2) (hp : p ≤ st) : sl_p (osx_ (lay_ st mem c X).2) p ↔ sl_p (osx_ X) p := by
  rw [(osx_sl j).2, (osx_sl j').2]
  unfold lay_
  by_cases z : xh_ X = 0
  · rw [if_pos z]
  · rw [if_neg z]
    by_cases y : ∃ y, xA_ X y ∧ fs_ mem y = true
    · rw [if_pos y]
      obtain ⟨_, _, ⟨b1, _⟩, _⟩ := j z
      constructor
      · intro w hz
        obtain ⟨w1, w2⟩ := w hz
        refine ⟨fun r r0 r1 => ?_, w2⟩
        have := w1 (r + 1) (by omega) (by show r + 1 < xn_ X + 1; omega)
        have e : (inP_ 0 (c.1 + 1, c.2 + 1, 0, st, fun y => xA_ X y ∧ fs_ mem y = true) (xg_ X)) (r + 1) = xg_ X r := by
          unfold inP_
          rw [if_neg (by omega), if_neg (by omega), show r + 1 - 1 = r by omega]
        have this : sl_p ((inP_ 0 (c.1 + 1, c.2 + 1, 0, st, fun y => xA_ X y ∧ fs_ mem y = true) (xg_ X)) (r + 1)).2.2.2.1 p := this
        rw [e] at this
        exact this
      · intro w hz
        obtain ⟨w1, w2⟩ := w hz
        refine ⟨fun r r0 r1 => ?_, w2⟩
        have r1 : r < xn_ X + 1 := r1
        show sl_p ((inP_ 0 (c.1 + 1, c.2 + 1, 0, st, fun y => xA_ X y ∧ fs_ mem y = true) (xg_ X)) r).2.2.2.1 p
        unfold inP_
        by_cases v : r = 0
        · rw [if_neg (by omega), if_pos v]
          exact Or.inr hp
        · rw [if_neg (by omega), if_neg v]
          exact w1 (r - 1) (by omega) (by omega)
    · rw [if_neg y]
/-- two tables that differ in ids alone, merged by two SURES that are one below the stamp -/
def sim_ (s s' : ab_S) : Prop := s.1 = s'.1 ∧ s.2.2.2.2.1 = s'.2.2.2.2.1 ∧ ∀ r, (s.2.2.2.2.2 r).2.2 = (s'.2.2.2.2.2 r).2.2
theorem fg_eq {st a b : Int} (he : ∀ p, p ≤ st → (sl_p a p ↔ sl_p b p)) {x : Option (Int × Int)} (hx : ∀ p, x = some p → p.1 ≤ st) : fg_ a x = fg_ b x := by
  cases x with
  | none => rfl
  | some p =>
    have h := he p.1 (hx p rfl)
    unfold sl_p at h
    unfold fg_
    dsimp only
    by_cases z : p.2 = -1 ∧ (a = -1 ∨ p.1 ≤ a)
    · rw [if_pos z, if_pos ⟨z.1, h.mp z.2⟩]
    · rw [if_neg z, if_neg (fun w => z ⟨w.1, h.mpr w.2⟩)]
theorem mgv_sim {q q' : Int → ab_R} {f : Int} (h : ∀ r, (q r).2.2 = (q' r).2.2) : ∀ m : Nat, mgv_ q f m = mgv_ q' f m
  | 0 => by
    show (q f).2.2.2.2.2 = (q' f).2.2.2.2.2
    rw [h f]
  | m + 1 => by
    show (fun k => or_ (mgv_ q f m k) ((q (f + m + 1)).2.2.2.2.2 k)) = fun k => or_ (mgv_ q' f m k) ((q' (f + m + 1)).2.2.2.2.2 k)
    rw [mgv_sim h m, h (f + m + 1)]
theorem mgf_sim {q q' : Int → ab_R} {f : Int} (h : ∀ r, (q r).2.2 = (q' r).2.2) : ∀ m : Nat, mgf_ q f m = mgf_ q' f m ∧ mgt_ q f m = mgt_ q' f m
  | 0 => by
    refine ⟨?_, ?_⟩
    · show (q f).2.2.2.1 = (q' f).2.2.2.1
      rw [h f]
    · show (q f).2.2.2.2.1 = (q' f).2.2.2.2.1
      rw [h f]
  | m + 1 => by
    obtain ⟨h1, h2⟩ := mgf_sim (f := f) h m
    refine ⟨?_, ?_⟩
    · show min (mgf_ q f m) ((q (f + m + 1)).2.2.2.1) = min (mgf_ q' f m) ((q' (f + m + 1)).2.2.2.1)
      rw [h1, h (f + m + 1)]
    · show max (mgt_ q f m) ((q (f + m + 1)).2.2.2.2.1) = max (mgt_ q' f m) ((q' (f + m + 1)).2.2.2.2.1)
      rw [h2, h (f + m + 1)]
theorem cu_sim {q q' : Int → ab_R} {x x' : ab_R} {f m g : Int} (h : ∀ r, (q r).2.2 = (q' r).2.2) (hx : x.2.2 = x'.2.2) (r : Int) : (cu_ f m (st_ g x q) r).2.2 = (cu_ f m (st_ g x' q') r).2.2 := by
  unfold cu_ st_
  split
  · split
    · exact hx
    · exact h _
  · split
    · exact hx
    · exact h _
theorem tm1_sim {st a b f m level : Int} {mem : ab_V} {s s' : ab_S} (he : ∀ p, p ≤ st → (sl_p a p ↔ sl_p b p)) (hf : 0 ≤ f) (hm : 1 ≤ m) (hn : f + m ≤ s.2.2.2.2.1) (d : dT_ st mem s.2.2.2.2.1 s.2.2.2.2.2) (h : sim_ s s') : sim_ (tm1_ f m level a s) (tm1_ f m level b s') := by
  obtain ⟨h1, h2, h3⟩ := h
  have e1 : mg1_ s.2.2.2.2.2 f m s.2.2.2.2.1 a = mg1_ s'.2.2.2.2.2 f m s'.2.2.2.2.1 b := by
    unfold mg1_
    rw [mgv_sim h3, ← h2]
    by_cases z : f + m = s.2.2.2.2.1
    · rw [if_pos z, if_pos z]
      funext k
      refine fg_eq he (fun p hp => ?_)
      rw [← mgv_sim h3] at hp
      obtain ⟨r, r0, r1, hr⟩ := mgv_some hp
      exact ((d.2.1 r (by omega) (by omega)).1 k p hr).2.2
    · rw [if_neg z, if_neg z]
  have e2 : mgk_ s.2.2.2.2.2 f m s.2.2.2.2.1 a = mgk_ s'.2.2.2.2.2 f m s'.2.2.2.2.1 b := by
    unfold mgk_
    rw [e1]
  refine ⟨?_, ?_, fun r => ?_⟩
  · show s.1 + 1 = s'.1 + 1
    rw [h1]
  · show s.2.2.2.2.1 - (m - mgk_ s.2.2.2.2.2 f m s.2.2.2.2.1 a) = s'.2.2.2.2.1 - (m - mgk_ s'.2.2.2.2.2 f m s'.2.2.2.2.1 b)
    rw [e2, h2]
  · show (mgq_ s.2.2.2.2.2 f m s.2.2.2.2.1 a level (s.2.1 + 1) (s.2.2.1 + 1) r).2.2 = (mgq_ s'.2.2.2.2.2 f m s'.2.2.2.2.1 b level (s'.2.1 + 1) (s'.2.2.1 + 1) r).2.2
    unfold mgq_
    rw [e2]
    refine cu_sim h3 ?_ r
    unfold mgr_
    dsimp only
    rw [e1, (mgf_sim h3 _).1, (mgf_sim h3 _).2]
theorem lvl_sim {q q' : Int → ab_R} (h : ∀ r, (q r).2.2 = (q' r).2.2) : lvl_ q = lvl_ q' := by
  funext r
  show (q r).2.2.1 = (q' r).2.2.1
  rw [h r]
theorem tml_sim {st a b fan : Int} {mem : ab_V} (hfan : 2 ≤ fan) (he : ∀ p, p ≤ st → (sl_p a p ↔ sl_p b p)) : ∀ (k : Nat) (s s' : ab_S), dT_ st mem s.2.2.2.2.1 s.2.2.2.2.2 → sim_ s s' → sim_ (tml_ fan a k s) (tml_ fan b k s') ∧ dT_ st mem (tml_ fan a k s).2.2.2.2.1 (tml_ fan a k s).2.2.2.2.2
  | 0, s, s', d, h => ⟨h, d⟩
  | k + 1, s, s', d, h => by
    have e : akc_ (lvl_ s'.2.2.2.2.2) s'.2.2.2.2.1 fan = akc_ (lvl_ s.2.2.2.2.2) s.2.2.2.2.1 fan := by rw [← lvl_sim h.2.2, ← h.2.1]
    unfold tml_
    rw [e]
    by_cases z : akc_ (lvl_ s.2.2.2.2.2) s.2.2.2.2.1 fan = -1
    · rw [if_pos z, if_pos z]; exact ⟨h, d⟩
    · rw [if_neg z, if_neg z]
      have ha := akc_in (by omega) z
      rw [← lvl_sim h.2.2]
      exact tml_sim hfan he k _ _ (dT_tm1 ha.1 (by omega) ha.2 d) (tm1_sim he ha.1 (by omega) ha.2 d h)
theorem tmf_sim {st a b fan : Int} {mem : ab_V} {s s' : ab_S} (hfan : 2 ≤ fan) (he : ∀ p, p ≤ st → (sl_p a p ↔ sl_p b p)) (d : dT_ st mem s.2.2.2.2.1 s.2.2.2.2.2) (h : sim_ s s') : (tmf_ fan a s).1 = (tmf_ fan b s').1 := by
  obtain ⟨h1, d1⟩ := tml_sim hfan he s.2.2.2.2.1.toNat s s' d h
  unfold tmf_ tmz_
  rw [← h.2.1]
  generalize tml_ fan a s.2.2.2.2.1.toNat s = s1 at *
  generalize tml_ fan b s.2.2.2.2.1.toNat s' = s2 at *
  rw [← h1.2.1, ← lvl_sim h1.2.2]
  by_cases z : 20 < s1.2.2.2.2.1
  · rw [if_pos z, if_pos z]
    exact (tm1_sim he (by omega) (by omega) (by omega) d1 h1).1
  · rw [if_neg z, if_neg z]; exact h1.1
noncomputable def nxm_ (Z : ab_Z) : Int := if aTi_ (zT_ Z) = 0 then 0 else (flT_ (aTs_ (zT_ Z)) (aTi_ (zT_ Z)) (zs_ Z 4) (aTm_ (zT_ Z)) (aTn_ (zT_ Z)) (aTq_ (zT_ Z)) (aTc_ (zT_ Z)) (aTX_ (zT_ Z))).1
theorem nxm_eq {bd : Int} {Z : ab_Z} (j : jZ_ bd Z) (h0 : aTi_ (zT_ Z) ≠ 0) : (tmf_ (zs_ Z 4) (sur_ (aTX_ (zT_ Z))) (0, (aTc_ (zT_ Z)).1 + 1, 0, aTl_ (zT_ Z), aTn_ (zT_ Z) + 1, sh_ ((aTc_ (zT_ Z)).1 + 1, 0, 0, aTs_ (zT_ Z) - aTi_ (zT_ Z) + 1, aTs_ (zT_ Z), aTm_ (zT_ Z)) (aTq_ (zT_ Z)))).1 = nxm_ Z := by
  obtain ⟨⟨dd, b, ⟨c1, c2, c3, c4⟩, d, e⟩, j2, j3⟩ := j
  unfold nxm_
  rw [if_neg h0]
  unfold flT_
  have w1 : ∀ i, 0 ≤ i → i < 4 → jX_ (aTs_ (zT_ Z)) 0 bd 64 20 nov_ (aTl_ (zT_ Z)) ((flL_ (aTs_ (zT_ Z)) (aTm_ (zT_ Z)) (aTc_ (zT_ Z)) (aTX_ (zT_ Z))).2 i) := fd_all (F := lay_ (aTs_ (zT_ Z)) (aTm_ (zT_ Z))) (s := (aTc_ (zT_ Z), aTX_ (zT_ Z))) (P := jX_ (aTs_ (zT_ Z)) (aTi_ (zT_ Z)) bd 64 19 (aTm_ (zT_ Z)) (aTl_ (zT_ Z))) (Q := jX_ (aTs_ (zT_ Z)) 0 bd 64 20 nov_ (aTl_ (zT_ Z))) (fun c X hX => jX_lay c1.1 (by omega) hX) e
  have w2 : ∀ p, p ≤ aTs_ (zT_ Z) → ∀ i, 0 ≤ i → i < 4 → (sl_p (osx_ ((flL_ (aTs_ (zT_ Z)) (aTm_ (zT_ Z)) (aTc_ (zT_ Z)) (aTX_ (zT_ Z))).2 i)) p ↔ sl_p (osx_ (aTX_ (zT_ Z) i)) p) := by
    intro p hp
    have key : ∀ k : Nat, k ≤ 4 → ∀ i : Int, 0 ≤ i → i < 4 → (sl_p (osx_ ((fd_ (lay_ (aTs_ (zT_ Z)) (aTm_ (zT_ Z))) (aTc_ (zT_ Z), aTX_ (zT_ Z)) k).2 i)) p ↔ sl_p (osx_ (aTX_ (zT_ Z) i)) p) := by
      intro k
      induction k with
      | zero => intro _ i i0 i1; exact Iff.rfl
      | succ k ih =>
        intro hk i i0 i1
        have ih := ih (by omega) i i0 i1
        have eq : (fd_ (lay_ (aTs_ (zT_ Z)) (aTm_ (zT_ Z))) (aTc_ (zT_ Z), aTX_ (zT_ Z)) (k + 1)).2 i = if i = (k : Int) then (lay_ (aTs_ (zT_ Z)) (aTm_ (zT_ Z)) (fd_ (lay_ (aTs_ (zT_ Z)) (aTm_ (zT_ Z))) (aTc_ (zT_ Z), aTX_ (zT_ Z)) k).1 ((fd_ (lay_ (aTs_ (zT_ Z)) (aTm_ (zT_ Z))) (aTc_ (zT_ Z), aTX_ (zT_ Z)) k).2 k)).2 else (fd_ (lay_ (aTs_ (zT_ Z)) (aTm_ (zT_ Z))) (aTc_ (zT_ Z), aTX_ (zT_ Z)) k).2 i := rfl
        rw [eq]
        by_cases z : i = (k : Int)
        · rw [if_pos z, fd_ge _ _ k _ (Int.le_refl _), z]
          have hX := e (k : Int) (by omega) (by omega)
          exact lay_sl hX (jX_lay c1.1 (by omega) hX) hp
        · rw [if_neg z]; exact ih
    exact key 4 (Nat.le_refl _)
  refine tmf_sim (st := aTs_ (zT_ Z)) (mem := nov_) (by omega) (fun p hp => ?_) (dT_sh dd rfl (Int.le_refl _)) ⟨rfl, rfl, fun r => ?_⟩
  · rw [sur_sl e, sur_sl w1]
    exact ⟨fun w i i0 i1 => (w2 p hp i i0 i1).mpr (w i i0 i1), fun w i i0 i1 => (w2 p hp i i0 i1).mp (w i i0 i1)⟩
  · show (sh_ ((aTc_ (zT_ Z)).1 + 1, 0, 0, aTs_ (zT_ Z) - aTi_ (zT_ Z) + 1, aTs_ (zT_ Z), aTm_ (zT_ Z)) (aTq_ (zT_ Z)) r).2.2 = (sh_ ((flL_ (aTs_ (zT_ Z)) (aTm_ (zT_ Z)) (aTc_ (zT_ Z)) (aTX_ (zT_ Z))).1.1 + 1, (flL_ (aTs_ (zT_ Z)) (aTm_ (zT_ Z)) (aTc_ (zT_ Z)) (aTX_ (zT_ Z))).1.2 + 1, 0, aTs_ (zT_ Z) - aTi_ (zT_ Z) + 1, aTs_ (zT_ Z), aTm_ (zT_ Z)) (aTq_ (zT_ Z)) r).2.2
    unfold sh_
    split <;> rfl
theorem ct_S_nextMerges {s : Nat} {bd : Int} {Z : ab_Z} {M : mm_M} {R : Int → mm_M → Prop} (hs : s = 2 ∨ s = 161) (hbd : 0 ≤ bd ∧ bd < 900000000) (k : cZ_ M s Z) (j : jZ_ bd Z) (hsl : sl_ M 320)
    (h : ∀ M', fr_ (tr_ 320) M M' → sl_ M' 320 → R (nxm_ Z) M') : nr_Store_nextMerges s 320 M R := by
  have hs' : sk_ s := by unfold sk_; omega
  have ne := nxm_eq j
  obtain ⟨kt, ⟨k6, k7, k8⟩, kX⟩ := k.1
  have jj := j
  obtain ⟨⟨dd, b, ⟨c1, c2, c3, c4⟩, d, e⟩, j2, j3⟩ := j
  refine ng_Store_nextMerges _ _ _ _ ?_
  rw [k7]
  refine ⟨fun z => ?_, fun z => ?_⟩
  · have ne := ne z
    refine ct_T_copy (by omega) kt hsl (fun M1 f1 t1 a6 a7 a8 => ?_)
    rw [k6] at a6
    rw [k7] at a7
    rw [k8] at a8
    refine ct_T_layDown 0 t1 (by omega) (by rw [a6]; omega) (by rw [a7]; omega) (by rw [a8]; omega) (fun M2 f2 b8 b7 t2 => ?_)
    rw [a6, a7, a8] at t2
    rw [a8] at b8
    have F2 : fr_ (tr_ 320) M M2 := fr_trans f1 (fr_mono f2 (fun o b y => y.1))
    have k2 : cZ_ M2 s Z := cZ_far F2 (fun o b y y2 => by unfold tr_; omega) k
    refine ct_S_sure k2.1.2.2 ?_
    rw [k2.2.1.2.1]
    refine ct_T_mergeLevels (t := 320) (b := bd) (mem := nov_) (s := (0, (aTc_ (zT_ Z)).1 + 1, 0, aTl_ (zT_ Z), aTn_ (zT_ Z) + 1, sh_ ((aTc_ (zT_ Z)).1 + 1, 0, 0, aTs_ (zT_ Z) - aTi_ (zT_ Z) + 1, aTs_ (zT_ Z), aTm_ (zT_ Z)) (aTq_ (zT_ Z)))) (by rfl) j2.2.1 ⟨t2, b8⟩ rfl ⟨lb_sh _ _ _ _ rfl hbd.1 d, hbd.1, by omega⟩ ⟨by show 0 ≤ (aTc_ (zT_ Z)).1 + 1; omega, by show (aTc_ (zT_ Z)).1 + 1 < 1000000000; omega⟩ (fun M3 f3 t3 => ?_)
    rw [ne]
    exact h M3 (fr_trans F2 (fr_mono f3 (fun o b y => y.1))) t3.1.2.2.2.1
  · have e0 : nxm_ Z = 0 := if_pos z
    rw [← e0]
    exact h M (fr_refl M) hsl
theorem ct_M_merging {b bd : Int} {Z : ab_Z} {M : mm_M} {R : Int → mm_M → Prop} (hb : b = 0 ∨ b = 5474) (hbd : 0 ≤ bd ∧ bd < 800000000) (k : mY_ bd M b Z) (j : jZ_ bd Z)
    (h : ∀ M', fr_ (mz_ 10948) M M' → R (nxm_ Z) M') : nr_M_merging b M R := by
  have hb' : bk_ b := by unfold bk_; omega
  have hF : bk_ 10948 := by unfold bk_; omega
  refine ng_M_merging _ _ _ ?_
  refine ct_M_copies hb' hF (by omega) (fun M1 f1 s1 => ?_)
  have k1 := mY_sh s1 j k
  intro M2 e2
  have f2 : fr_ (fun o q => o = 408 ∧ (q : Int) = 10971) M1 M2 := by rw [e2]; exact fr_ui (fr_refl M1) ⟨rfl, by omega⟩
  have F2 : fr_ (mz_ 10948) M M2 := fr_trans f1 (fr_mono f2 (fun o q y => ⟨y.1, by have := y.2; omega⟩))
  have kT : mT_ M2 10948 (zT_ Z) := mT_fr f2 hF (fun q z y => by have := y.2; unfold mcore_ at z; omega) k1.1.1
  have h4 : nn_ri M2 408 (10948 + 4) = zs_ Z 4 := by
    rw [fr_ri f2 (by omega)]
    exact k1.1.2.1 4 (by unfold hd_; omega)
  have h23 : nn_ri M2 408 (10948 + 23) = 0 := by rw [e2, rd_ii, if_pos ⟨rfl, by omega⟩]
  refine ct_M_flush hF j.2.1.2.1 h4 (by omega) (by omega) (by rw [h23]; omega) kT j.1 (fun z => ?_) (fun z M' f u k' => ?_)
  · have e0 : nxm_ Z = 0 := if_pos z
    refine ⟨fun _ => ?_, fun w => absurd rfl w⟩
    rw [← e0]
    exact h M2 F2
  · refine ⟨fun w => absurd w (by decide), fun _ => ?_⟩
    have u2 : nn_ri M' 408 10971 = nxm_ Z := by
      have e0 : nxm_ Z = (flT_ (aTs_ (zT_ Z)) (aTi_ (zT_ Z)) (zs_ Z 4) (aTm_ (zT_ Z)) (aTn_ (zT_ Z)) (aTq_ (zT_ Z)) (aTc_ (zT_ Z)) (aTX_ (zT_ Z))).1 := if_neg z
      rw [e0]
      rw [h23] at u
      have u : nn_ri M' 408 10971 = 0 + (flT_ (aTs_ (zT_ Z)) (aTi_ (zT_ Z)) (zs_ Z 4) (aTm_ (zT_ Z)) (aTn_ (zT_ Z)) (aTq_ (zT_ Z)) (aTc_ (zT_ Z)) (aTX_ (zT_ Z))).1 := u
      omega
    rw [u2]
    exact h M' (fr_trans F2 (fr_mono f (fun o q y => ⟨y.1, by have := y.2; omega⟩)))
