/-! the class's Store: a flush whole -/
def nov_ : ab_V := fun _ => none
noncomputable def flL_ (st : Int) (mem : ab_V) (c : Int × Int) (Xs : Int → ab_X) : (Int × Int) × (Int → ab_X) := fd_ (lay_ st mem) (c, Xs) 4
noncomputable def flS_ (st since : Int) (mem : ab_V) (n : Int) (q : Int → ab_R) (c : Int × Int) (Xs : Int → ab_X) : ab_S := (0, (flL_ st mem c Xs).1.1 + 1, (flL_ st mem c Xs).1.2 + 1, lk_ mem n q, n + 1, sh_ ((flL_ st mem c Xs).1.1 + 1, (flL_ st mem c Xs).1.2 + 1, 0, st - since + 1, st, mem) q)
noncomputable def flT_ (st since fan : Int) (mem : ab_V) (n : Int) (q : Int → ab_R) (c : Int × Int) (Xs : Int → ab_X) : ab_S := tmf_ fan (sur_ (flL_ st mem c Xs).2) (flS_ st since mem n q c Xs)
noncomputable def flG_ (st since fan : Int) (mem : ab_V) (n : Int) (q : Int → ab_R) (c : Int × Int) (Xs : Int → ab_X) : (Int × Int) × (Int → ab_X) := fd_ (mrg_ fan st (lk_ nov_ (flT_ st since fan mem n q c Xs).2.2.2.2.1 (flT_ st since fan mem n q c Xs).2.2.2.2.2)) (((flT_ st since fan mem n q c Xs).2.1, (flT_ st since fan mem n q c Xs).2.2.1), (flL_ st mem c Xs).2) 4
theorem lk_sh {mem : ab_V} {n : Int} {q : Int → ab_R} {x : ab_R} (hn : 0 ≤ n) (hx : x.2.2.2.2.2 = mem) : lk_ nov_ (n + 1) (sh_ x q) = lk_ mem n q := by
  funext k
  unfold lk_
  rw [show (n + 1).toNat = n.toNat + 1 by omega]
  show or_ none (or_ ((sh_ x q 0).2.2.2.2.2 k) (lkr_ (sh_ x q) k n.toNat (0 + 1))) = _
  have e : sh_ x q 0 = x := if_pos rfl
  rw [e, hx, lkr_cg (q' := q) (i' := 0) (fun j j0 j1 => ?_)]
  · rfl
  · unfold sh_
    rw [if_neg (by omega), show 0 + 1 + j - 1 = 0 + j by omega]
theorem dT_sh {st : Int} {mem : ab_V} {n : Int} {q : Int → ab_R} {x : ab_R} (d : dT_ st mem n q) (hx : x.2.2.2.2.2 = mem) (ht : x.2.2.2.2.1 ≤ st) : dT_ st nov_ (n + 1) (sh_ x q) := by
  obtain ⟨d1, d2, d3⟩ := d
  refine ⟨fun k p h => (by cases h), fun r r0 r1 => ?_, fun r r' r0 rr r1 => ?_⟩
  · unfold sh_
    by_cases z : r = 0
    · rw [if_pos z, hx]
      exact ⟨d1, ht, fun k p p' h => (by cases h)⟩
    · rw [if_neg z]
      exact ⟨(d2 (r - 1) (by omega) (by omega)).1, (d2 (r - 1) (by omega) (by omega)).2.1, fun k p p' h => (by cases h)⟩
  · unfold sh_
    rw [if_neg (c := r' = 0) (by omega)]
    by_cases z : r = 0
    · rw [if_pos z, hx]
      exact (d2 (r' - 1) (by omega) (by omega)).2.2
    · rw [if_neg z]
      exact d3 (r - 1) (r' - 1) (by omega) (by omega) (by omega)
theorem tb_out {M : mm_M} {t : Nat} {mem lat : ab_V} {n : Int} {q : Int → ab_R} (k : tb_ M t mem lat n q) {j : Nat} (hj : 32 ≤ j) : mem j = none ∧ lat j = none ∧ ∀ r, 0 ≤ r → r < n → (q r).2.2.2.2.2 j = none := by
  refine ⟨by rw [← k.1.1]; exact cv_out hj, by rw [← k.2.1.1]; exact cv_out hj, fun r r0 r1 => ?_⟩
  rw [← (k.2.2.2.2 r r0 r1).2.2.2.2.1]
  exact cv_out hj
theorem tb_lk {M : mm_M} {t : Nat} {mem lat : ab_V} {n : Int} {q : Int → ab_R} (k : tb_ M t mem lat n q) (h : ∀ j, j < 32 → lat j = lk_ mem n q j) : lat = lk_ mem n q := by
  funext j
  by_cases z : j < 32
  · exact h j z
  · obtain ⟨a, b, c⟩ := tb_out k (j := j) (by omega)
    rw [b, lk_out a c]
theorem tmf_lat {st fan sure : Int} {mem : ab_V} {s : ab_S} (hfan : 2 ≤ fan) (d : dT_ st mem s.2.2.2.2.1 s.2.2.2.2.2) (hl : ∀ j, j < 32 → s.2.2.2.1 j = lk_ mem s.2.2.2.2.1 s.2.2.2.2.2 j) : dT_ st mem (tmf_ fan sure s).2.2.2.2.1 (tmf_ fan sure s).2.2.2.2.2 ∧ (∀ j, j < 32 → (tmf_ fan sure s).2.2.2.1 j = lk_ mem (tmf_ fan sure s).2.2.2.2.1 (tmf_ fan sure s).2.2.2.2.2 j) ∧ ∀ j, j < 32 → lz_ (lk_ mem s.2.2.2.2.1 s.2.2.2.2.2 j) (lk_ mem (tmf_ fan sure s).2.2.2.2.1 (tmf_ fan sure s).2.2.2.2.2 j) := by
  obtain ⟨k, _, h1, h2, h3⟩ := tmf_ind (fan := fan) (sure := sure) (s := s) (P := fun _ s1 => dT_ st mem s1.2.2.2.2.1 s1.2.2.2.2.2 ∧ (∀ j, j < 32 → s1.2.2.2.1 j = lk_ mem s1.2.2.2.2.1 s1.2.2.2.2.2 j) ∧ ∀ j, j < 32 → lz_ (lk_ mem s.2.2.2.2.1 s.2.2.2.2.2 j) (lk_ mem s1.2.2.2.2.1 s1.2.2.2.2.2 j)) hfan ⟨d, hl, fun _ _ => Or.inl rfl⟩ (fun k s1 f m level hp hf hm hfm _ => by
    obtain ⟨p1, p2, p3⟩ := hp
    have e : ∀ j, j < 32 → mgl_ s1.2.2.2.2.2 f m s1.2.2.2.2.1 sure s1.2.2.2.1 j = mgl_ s1.2.2.2.2.2 f m s1.2.2.2.2.1 sure (lk_ mem s1.2.2.2.2.1 s1.2.2.2.2.2) j := by
      intro j hj
      unfold mgl_
      by_cases z : f + m = s1.2.2.2.2.1
      · rw [if_pos z, if_pos z]
        show lg_ _ _ (s1.2.2.2.1 j) = lg_ _ _ (lk_ _ _ _ j)
        rw [p2 j hj]
      · rw [if_neg z, if_neg z]
        exact p2 j hj
    have g : ∀ j, j < 32 → mgl_ s1.2.2.2.2.2 f m s1.2.2.2.2.1 sure (lk_ mem s1.2.2.2.2.1 s1.2.2.2.2.2) j = lk_ mem (tm1_ f m level sure s1).2.2.2.2.1 (tm1_ f m level sure s1).2.2.2.2.2 j := fun j hj => mgl_lk hf (by omega) hfm p1 j hj
    refine ⟨dT_tm1 hf (by omega) hfm p1, fun j hj => (e j hj).trans (g j hj), fun j hj => lz_trans (p3 j hj) ?_⟩
    rw [← g j hj]
    exact mgl_lz hf (by omega) hfm p1 j)
  exact ⟨h1, h2, h3⟩
theorem lb_sh {x : ab_R} {q : Int → ab_R} {n b : Int} (a1 a2 a3 : Int) (l : ab_V) (hx : x.2.2.1 = 0) (hb : 0 ≤ b) (h : ∀ r, 0 ≤ r → r < n → -1 ≤ lvl_ q r ∧ lvl_ q r ≤ b) : lb_ (a1, a2, a3, l, n + 1, sh_ x q) b := by
  intro r r0 r1
  have r1 : r < n + 1 := r1
  show -1 ≤ (sh_ x q r).2.2.1 ∧ (sh_ x q r).2.2.1 ≤ b
  unfold sh_
  by_cases z : r = 0
  · rw [if_pos z, hx]; omega
  · rw [if_neg z]; exact h (r - 1) (by omega) (by omega)
theorem cXs_fr {P : Nat → Nat → Prop} {M M' : mm_M} (h : fr_ P M M') {s : Nat} {lat : ab_V} {Xs : Int → ab_X} (hv : ∀ o b, s + 90 ≤ o → o < s + 150 → ¬ P o b) (k : cXs_ M s lat Xs) : cXs_ M' s lat Xs := fun i i0 i1 => cX_fr h (fun o b h1 h2 => hv o b (by omega) (by omega)) (k i i0 i1)
theorem ct_S_flushed {s : Nat} {st since fan bd n : Int} {mem : ab_V} {q : Int → ab_R} {c : Int × Int} {Xs : Int → ab_X} {M : mm_M} {R : mm_M → Prop} (hs : sk_ s) (hfan : 2 ≤ fan ∧ fan ≤ 4) (hf : nn_rf M s 8 = fan) (t : tb_ M (s + 3) mem (lk_ mem n q) n q) (h6 : nn_rf M (s + 3) 6 = st) (h7 : nn_rf M (s + 3) 7 = since) (h8 : nn_rf M (s + 3) 8 = c.1) (kX : cXs_ M s (lk_ mem n q) Xs) (w : ∀ i, 0 ≤ i → i < 4 → wX_ 21 bd (Xs i)) (hbd : 0 ≤ bd ∧ bd < 900000000) (hn : n ≤ 20) (hst : 0 ≤ st ∧ st < 2147483647) (hsi : 0 ≤ since ∧ since < 2147483647) (hc : 0 ≤ c.1 ∧ c.1 < 900000000) (d : dT_ st mem n q) (lv : ∀ r, 0 ≤ r → r < n → -1 ≤ lvl_ q r ∧ lvl_ q r ≤ bd)
    (h : ∀ M', fr_ (sf_ s) M M' → nn_rf M' (s + 3) 6 = st → nn_rf M' (s + 3) 7 = 0 → nn_rf M' (s + 3) 8 = (flG_ st since fan mem n q c Xs).1.1 → tb_ M' (s + 3) nov_ (lk_ nov_ (flT_ st since fan mem n q c Xs).2.2.2.2.1 (flT_ st since fan mem n q c Xs).2.2.2.2.2) (flT_ st since fan mem n q c Xs).2.2.2.2.1 (flT_ st since fan mem n q c Xs).2.2.2.2.2 → cXs_ M' s (lk_ nov_ (flT_ st since fan mem n q c Xs).2.2.2.2.1 (flT_ st since fan mem n q c Xs).2.2.2.2.2) (flG_ st since fan mem n q c Xs).2 → R M') : nr_Store_flushed s M R := by
  have n0 : 0 ≤ n := t.2.2.1.2.1
  have lc := fd_c (F := lay_ st mem) (s := (c, Xs)) (a := 1) (P := fun _ => True) (fun _ _ _ => trivial) (fun c X _ => lay_c)
  refine ng_Store_flushed _ _ _ ?_
  -- the second loop
  have L2 : ∀ M2, fr_ (sf_ s) M M2 → nn_rf M2 (s + 3) 6 = st → nn_rf M2 (s + 3) 7 = 0 → nn_rf M2 s 8 = fan → nn_rf M2 (s + 3) 8 = (flT_ st since fan mem n q c Xs).2.1 → tb_ M2 (s + 3) nov_ (lk_ nov_ (flT_ st since fan mem n q c Xs).2.2.2.2.1 (flT_ st since fan mem n q c Xs).2.2.2.2.2) (flT_ st since fan mem n q c Xs).2.2.2.2.1 (flT_ st since fan mem n q c Xs).2.2.2.2.2 → cXs_ M2 s (lk_ nov_ (flT_ st since fan mem n q c Xs).2.2.2.2.1 (flT_ st since fan mem n q c Xs).2.2.2.2.2) (flL_ st mem c Xs).2 → nk_Store_flushed_63 s 0 M2 R := by
    intro M2 f2 g6 g7 g9 g8 gt gX
    have hlb := lb_sh (x := ((flL_ st mem c Xs).1.1 + 1, (flL_ st mem c Xs).1.2 + 1, 0, st - since + 1, st, mem)) 0 ((flL_ st mem c Xs).1.1 + 1) ((flL_ st mem c Xs).1.2 + 1) (lk_ mem n q) rfl hbd.1 lv
    have tc := tmf_bd (fan := fan) (sure := sur_ (flL_ st mem c Xs).2) (s := flS_ st since mem n q c Xs) (b := bd) hfan.1 (by omega) ⟨show 0 ≤ n + 1 by omega, show n + 1 ≤ 24 by omega⟩ hlb
    have tc2 : (flL_ st mem c Xs).1.1 + 1 ≤ (flT_ st since fan mem n q c Xs).2.1 ∧ (flT_ st since fan mem n q c Xs).2.1 ≤ (flL_ st mem c Xs).1.1 + 1 + 25 := tc.2.2.2.1
    have lc4 : c.1 ≤ (flL_ st mem c Xs).1.1 ∧ (flL_ st mem c Xs).1.1 ≤ c.1 + 1 * ((4 : Nat) : Int) ∧ c.2 ≤ (flL_ st mem c Xs).1.2 ∧ (flL_ st mem c Xs).1.2 ≤ c.2 + 1 * ((4 : Nat) : Int) := lc 4 (Nat.le_refl _)
    have w2 : ∀ i, 0 ≤ i → i < 4 → wX_ 22 bd ((flL_ st mem c Xs).2 i) := fd_all (F := lay_ st mem) (s := (c, Xs)) (P := wX_ 21 bd) (Q := wX_ 22 bd) (fun c X hX => wX_lay hbd.1 hX) w
    have mc := fd_c (F := mrg_ fan st (lk_ nov_ (flT_ st since fan mem n q c Xs).2.2.2.2.1 (flT_ st since fan mem n q c Xs).2.2.2.2.2)) (s := (((flT_ st since fan mem n q c Xs).2.1, (flT_ st since fan mem n q c Xs).2.2.1), (flL_ st mem c Xs).2)) (a := 25) (P := wX_ 22 bd) w2 (fun c X hX => mrg_c (bd := bd) hfan.1 (by omega) (fun z => ⟨(hX z).2.2.1.1, by have := (hX z).2.2.1.2; omega⟩) (fun z => (hX z).2.2.2.2))
    have L : ∀ i : Int, i ≤ 4 → 0 ≤ i → ∀ M3, fr_ (sf_ s) M M3 → nn_rf M3 (s + 3) 6 = st → nn_rf M3 (s + 3) 7 = 0 → nn_rf M3 s 8 = fan → nn_rf M3 (s + 3) 8 = (fd_ (mrg_ fan st (lk_ nov_ (flT_ st since fan mem n q c Xs).2.2.2.2.1 (flT_ st since fan mem n q c Xs).2.2.2.2.2)) (((flT_ st since fan mem n q c Xs).2.1, (flT_ st since fan mem n q c Xs).2.2.1), (flL_ st mem c Xs).2) i.toNat).1.1 → tb_ M3 (s + 3) nov_ (lk_ nov_ (flT_ st since fan mem n q c Xs).2.2.2.2.1 (flT_ st since fan mem n q c Xs).2.2.2.2.2) (flT_ st since fan mem n q c Xs).2.2.2.2.1 (flT_ st since fan mem n q c Xs).2.2.2.2.2 → cXs_ M3 s (lk_ nov_ (flT_ st since fan mem n q c Xs).2.2.2.2.1 (flT_ st since fan mem n q c Xs).2.2.2.2.2) (fd_ (mrg_ fan st (lk_ nov_ (flT_ st since fan mem n q c Xs).2.2.2.2.1 (flT_ st since fan mem n q c Xs).2.2.2.2.2)) (((flT_ st since fan mem n q c Xs).2.1, (flT_ st since fan mem n q c Xs).2.2.1), (flL_ st mem c Xs).2) i.toNat).2 → nk_Store_flushed_63 s i M3 R := by
      generalize hlat : lk_ nov_ (flT_ st since fan mem n q c Xs).2.2.2.2.1 (flT_ st since fan mem n q c Xs).2.2.2.2.2 = lat at *
      generalize hT : (((flT_ st since fan mem n q c Xs).2.1, (flT_ st since fan mem n q c Xs).2.2.1), (flL_ st mem c Xs).2) = T at *
      refine lp_up (fun i hi ih h0 M3 f3 a6 a7 a9 a8 at' aX => ?_)
      refine ng_Store_flushed_63 _ _ _ _ ⟨fun z => ?_, fun z => ⟨⟨h0, z⟩, ?_⟩⟩
      · have e4 : i.toNat = 4 := by omega
        rw [e4] at a8 aX
        have hG : flG_ st since fan mem n q c Xs = fd_ (mrg_ fan st lat) T 4 := by
          unfold flG_
          rw [hlat, hT]
        rw [hG] at h
        exact h M3 f3 a6 a7 a8 at' aX
      have nx := ih z (by omega)
      rw [show (i + 1).toNat = i.toNat + 1 by omega] at nx
      have ei : ((i.toNat : Nat) : Int) = i := by omega
      have eX : (fd_ (mrg_ fan st lat) T i.toNat).2 i = T.2 i := fd_ge _ _ _ _ (by omega)
      have kx := aX i h0 z
      rw [eX] at kx
      have wi : wX_ 22 bd (T.2 i) := by rw [← hT]; exact w2 i h0 z
      have eF : (fd_ (mrg_ fan st lat) T (i.toNat + 1)) = ((mrg_ fan st lat (fd_ (mrg_ fan st lat) T i.toNat).1 (T.2 i)).1, fun j => if j = i then (mrg_ fan st lat (fd_ (mrg_ fan st lat) T i.toNat).1 (T.2 i)).2 else (fd_ (mrg_ fan st lat) T i.toNat).2 j) := by
        show ((mrg_ fan st lat (fd_ (mrg_ fan st lat) T i.toNat).1 ((fd_ (mrg_ fan st lat) T i.toNat).2 (i.toNat : Int))).1, fun j => if j = (i.toNat : Int) then (mrg_ fan st lat (fd_ (mrg_ fan st lat) T i.toNat).1 ((fd_ (mrg_ fan st lat) T i.toNat).2 (i.toNat : Int))).2 else (fd_ (mrg_ fan st lat) T i.toNat).2 j) = _
        rw [ei, eX]
      rw [eF] at nx
      have mci := mc i.toNat (by omega)
      have eT1 : T.1.1 = (flT_ st since fan mem n q c Xs).2.1 := by rw [← hT]
      rw [mm_w_id (x := i + 1) (by omega)]
      refine ⟨fun hz => ?_, fun hz => ⟨⟨h0, z⟩, ⟨h0, z⟩, ?_⟩⟩
      · rw [kx.1] at hz
        rw [mrg_0 hz] at nx
        refine nx M3 f3 a6 a7 a9 a8 at' (fun j j0 j1 => ?_)
        show cX_ M3 _ lat (if j = i then T.2 i else _)
        by_cases y : j = i
        · rw [if_pos y, y]; exact kx
        · rw [if_neg y]; exact aX j j0 j1
      · rw [kx.1] at hz
        rw [a9]
        obtain ⟨b1, b2, b3, b4, b5⟩ := wi hz
        refine ct_X_mrg (bd := bd) (c := (fd_ (mrg_ fan st lat) T i.toNat).1) (t := s + 3) (sk_x hs h0 z) (by omega) hfan kx hz b2 b5 ⟨hbd.1, by omega⟩ a6 a8 (at'.2.1.1) (by omega) (fun M4 f4 c8 cX => ?_)
        have f4' : fr_ (sf_ s) M3 M4 := fr_mono f4 (fun o b y => by unfold lf_ at y; unfold sf_ tr_; omega)
        have oth : ∀ o b, ¬ (lf_ (s + 3) (s + 90 + 15 * i.toNat) o b) → nn_rf M4 o b = nn_rf M3 o b := fun o b y => fr_rf f4 y
        refine nx M4 (fr_trans f3 f4') ?_ ?_ ?_ c8 (tb_fr f4 (fun o b y y2 y3 => by unfold tr_ at y; unfold lf_ at y3; omega) at') (fun j j0 j1 => ?_)
        · rw [oth _ _ (by unfold lf_; omega)]; exact a6
        · rw [oth _ _ (by unfold lf_; omega)]; exact a7
        · rw [oth _ _ (by unfold lf_; omega)]; exact a9
        · show cX_ M4 _ lat (if j = i then _ else _)
          by_cases y : j = i
          · rw [if_pos y, y]; exact cX
          · rw [if_neg y]
            exact cX_fr f4 (fun o b y1 y2 y3 => by unfold lf_ at y3; omega) (aX j j0 j1)
    exact L 0 (by omega) (Int.le_refl _) M2 f2 g6 g7 g9 g8 gt gX
  -- between
  have L1 : ∀ M1, fr_ (sf_ s) M M1 → nn_rf M1 (s + 3) 6 = st → nn_rf M1 (s + 3) 7 = since → nn_rf M1 s 8 = fan → nn_rf M1 (s + 3) 8 = (flL_ st mem c Xs).1.1 → tb_ M1 (s + 3) mem (lk_ mem n q) n q → cXs_ M1 s (lk_ mem n q) (flL_ st mem c Xs).2 → nr_Table_layDown (s + 3) M1 (fun M42 => (nr_Store_sure s M42 (fun r54 M54 => (nr_Table_mergeLevels (s + 3) (nn_rf M42 s 8) r54 M54 (fun r57 M57 => nk_Store_flushed_63 s 0 M57 R))))) := by
    intro M1 f1 g6 g7 g9 g8 gt gX
    have lc4 : c.1 ≤ (flL_ st mem c Xs).1.1 ∧ (flL_ st mem c Xs).1.1 ≤ c.1 + 1 * ((4 : Nat) : Int) ∧ c.2 ≤ (flL_ st mem c Xs).1.2 ∧ (flL_ st mem c Xs).1.2 ≤ c.2 + 1 * ((4 : Nat) : Int) := lc 4 (Nat.le_refl _)
    refine ct_T_layDown ((flL_ st mem c Xs).1.2 + 1) gt (by omega) (by omega) (by omega) (by omega) (fun M2 f2 v8 v7 vt => ?_)
    have v9 : nn_rf M2 s 8 = fan := (fr_rf f2 (fun y => by have := y.1; unfold tr_ at this; omega)).trans g9
    have v6 : nn_rf M2 (s + 3) 6 = st := (fr_rf f2 (fun y => by have := y.2 rfl; omega)).trans g6
    have vX : cXs_ M2 s (lk_ mem n q) (flL_ st mem c Xs).2 := cXs_fr f2 (fun o b y1 y2 y3 => by have := y3.1; unfold tr_ at this; omega) gX
    have f2' : fr_ (sf_ s) M1 M2 := fr_mono f2 (fun o b y => Or.inl ⟨y.1, fun z => by have := y.2 z; omega⟩)
    refine ct_S_sure vX ?_
    rw [v9]
    rw [g8, g6, g7] at vt
    rw [g8] at v8
    have ts : ts_ M2 (s + 3) nov_ (flS_ st since mem n q c Xs) := ⟨vt, v8⟩
    have hlb := lb_sh (x := ((flL_ st mem c Xs).1.1 + 1, (flL_ st mem c Xs).1.2 + 1, 0, st - since + 1, st, mem)) 0 ((flL_ st mem c Xs).1.1 + 1) ((flL_ st mem c Xs).1.2 + 1) (lk_ mem n q) rfl hbd.1 lv
    refine ct_T_mergeLevels (b := bd) (sk_t hs) hfan ts rfl ⟨hlb, hbd.1, by omega⟩ ⟨show 0 ≤ (flL_ st mem c Xs).1.1 + 1 by omega, show (flL_ st mem c Xs).1.1 + 1 < 1000000000 by omega⟩ (fun M3 f3 k3 => ?_)
    have elk : lk_ nov_ (n + 1) (sh_ ((flL_ st mem c Xs).1.1 + 1, (flL_ st mem c Xs).1.2 + 1, 0, st - since + 1, st, mem) q) = lk_ mem n q := lk_sh n0 rfl
    obtain ⟨tl1, tl2, tl3⟩ := tmf_lat (st := st) (mem := nov_) (fan := fan) (sure := sur_ (flL_ st mem c Xs).2) (s := flS_ st since mem n q c Xs) hfan.1 (dT_sh d rfl (Int.le_refl _)) (fun j _ => (congrFun elk j).symm)
    have kt := k3.1
    have elat := tb_lk kt tl2
    rw [elat] at kt
    have f3' : fr_ (sf_ s) M2 M3 := fr_mono f3 (fun o b y => Or.inl ⟨y.1, fun z => by have := y.2 z; omega⟩)
    have f3x : cXs_ M3 s (lk_ mem n q) (flL_ st mem c Xs).2 := cXs_fr f3 (fun o b y1 y2 y3 => by have := y3.1; unfold tr_ at this; omega) vX
    refine L2 M3 (fr_trans f1 (fr_trans f2' f3')) ?_ ?_ ?_ k3.2 kt (fun j j0 j1 => ?_)
    · rw [fr_rf f3 (fun y => by have := y.2 rfl; omega)]; exact v6
    · rw [fr_rf f3 (fun y => by have := y.2 rfl; omega)]; exact v7
    · rw [fr_rf f3 (fun y => by have := y.1; unfold tr_ at this; omega)]; exact v9
    · refine cX_lat (fun k hk u => ?_) (f3x j j0 j1)
      have := tl3 k hk
      rw [show lk_ nov_ (flS_ st since mem n q c Xs).2.2.2.2.1 (flS_ st since mem n q c Xs).2.2.2.2.2 k = lk_ mem n q k from congrFun elk k] at this
      exact lz_vk this u
  -- the first loop
  have L : ∀ i : Int, i ≤ 4 → 0 ≤ i → ∀ M1, fr_ (sf_ s) M M1 → nn_rf M1 (s + 3) 6 = st → nn_rf M1 (s + 3) 7 = since → nn_rf M1 s 8 = fan → nn_rf M1 (s + 3) 8 = (fd_ (lay_ st mem) (c, Xs) i.toNat).1.1 → tb_ M1 (s + 3) mem (lk_ mem n q) n q → cXs_ M1 s (lk_ mem n q) (fd_ (lay_ st mem) (c, Xs) i.toNat).2 → nk_Store_flushed_2 s i M1 R := by
    refine lp_up (fun i hi ih h0 M1 f1 a6 a7 a9 a8 at' aX => ?_)
    refine ng_Store_flushed_2 _ _ _ _ ⟨fun z => ?_, fun z => ⟨⟨h0, z⟩, ?_⟩⟩
    · have e4 : i.toNat = 4 := by omega
      rw [e4] at a8 aX
      exact L1 M1 f1 a6 a7 a9 a8 at' aX
    have nx := ih z (by omega)
    rw [show (i + 1).toNat = i.toNat + 1 by omega] at nx
    have ei : ((i.toNat : Nat) : Int) = i := by omega
    have eX : (fd_ (lay_ st mem) (c, Xs) i.toNat).2 i = Xs i := fd_ge _ _ _ _ (by omega)
    have kx := aX i h0 z
    rw [eX] at kx
    have eF : (fd_ (lay_ st mem) (c, Xs) (i.toNat + 1)) = ((lay_ st mem (fd_ (lay_ st mem) (c, Xs) i.toNat).1 (Xs i)).1, fun j => if j = i then (lay_ st mem (fd_ (lay_ st mem) (c, Xs) i.toNat).1 (Xs i)).2 else (fd_ (lay_ st mem) (c, Xs) i.toNat).2 j) := by
      show ((lay_ st mem (fd_ (lay_ st mem) (c, Xs) i.toNat).1 ((fd_ (lay_ st mem) (c, Xs) i.toNat).2 (i.toNat : Int))).1, fun j => if j = (i.toNat : Int) then (lay_ st mem (fd_ (lay_ st mem) (c, Xs) i.toNat).1 ((fd_ (lay_ st mem) (c, Xs) i.toNat).2 (i.toNat : Int))).2 else (fd_ (lay_ st mem) (c, Xs) i.toNat).2 j) = _
      rw [ei, eX]
    rw [eF] at nx
    have lci : c.1 ≤ (fd_ (lay_ st mem) (c, Xs) i.toNat).1.1 ∧ (fd_ (lay_ st mem) (c, Xs) i.toNat).1.1 ≤ c.1 + 1 * ((i.toNat : Nat) : Int) ∧ _ := lc i.toNat (by omega)
    rw [mm_w_id (x := i + 1) (by omega)]
    refine ⟨fun hz => ?_, fun hz => ⟨⟨h0, z⟩, ?_⟩⟩
    · rw [kx.1] at hz
      rw [lay_0 hz] at nx
      refine nx M1 f1 a6 a7 a9 a8 at' (fun j j0 j1 => ?_)
      show cX_ M1 _ _ (if j = i then Xs i else _)
      by_cases y : j = i
      · rw [if_pos y, y]; exact kx
      · rw [if_neg y]; exact aX j j0 j1
    · rw [kx.1] at hz
      refine ct_X_lay (nb := 21) (bd := bd) (st := st) (mem := mem) (c := (fd_ (lay_ st mem) (c, Xs) i.toNat).1) (t := s + 3) (sk_x hs h0 z) (by omega) kx hz (w i h0 z) (by omega) a6 a8 at'.1.1 (by omega) (fun M4 f4 c8 cX => ?_)
      have f4' : fr_ (sf_ s) M1 M4 := fr_mono f4 (fun o b y => by unfold lf_ at y; unfold sf_ tr_; omega)
      have oth : ∀ o b, ¬ (lf_ (s + 3) (s + 90 + 15 * i.toNat) o b) → nn_rf M4 o b = nn_rf M1 o b := fun o b y => fr_rf f4 y
      refine nx M4 (fr_trans f1 f4') ?_ ?_ ?_ c8 (tb_fr f4 (fun o b y y2 y3 => by unfold tr_ at y; unfold lf_ at y3; omega) at') (fun j j0 j1 => ?_)
      · rw [oth _ _ (by unfold lf_; omega)]; exact a6
      · rw [oth _ _ (by unfold lf_; omega)]; exact a7
      · rw [oth _ _ (by unfold lf_; omega)]; exact a9
      · show cX_ M4 _ _ (if j = i then _ else _)
        by_cases y : j = i
        · rw [if_pos y, y]; exact cX
        · rw [if_neg y]
          exact cX_fr f4 (fun o b y1 y2 y3 => by unfold lf_ at y3; omega) (aX j j0 j1)
  exact L 0 (by omega) (Int.le_refl _) M (fr_refl M) h6 h7 hf h8 t kX
