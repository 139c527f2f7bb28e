/-! atoms, the whole text, the class -/
def ub_ (u : ab_U) (a : Int) : Prop := u.2.2 = a ∧ (∀ f, 0 ≤ f → f ≤ 2 * a → vb_ (u.1 f) 400) ∧ (∀ f c, 2 * a < f → u.1 f c = 0) ∧ ∀ i, 0 ≤ i → i < a → sg3_ (u.2.1 i)
theorem ub_0 {v : Int → Int} (h : vb_ v 400) : ub_ (u0_ v) 0 := by
  refine ⟨rfl, fun f f0 f1 => ?_, fun f c f0 => ?_, fun i i0 i1 => by omega⟩
  · have e : f = 0 := by omega
    rw [e]
    have e2 : (u0_ v).1 0 = v := by
      funext c
      show (if (0 : Int) = 0 then v c else 0) = v c
      rw [if_pos rfl]
    rw [e2]; exact h
  · show (if f = 0 then v c else 0) = 0
    rw [if_neg (by omega)]
theorem at1_in {K N : Int → Int} {T t : Int} (k : kn_ K N T) (ht : 0 ≤ t ∧ t ≤ T) : (t ≤ (at1_ K N t).2.1 ∧ (at1_ K N t).2.1 ≤ T) ∧ ((at1_ K N t).1 = 0 ∨ (at1_ K N t).1 = 1 ∨ (at1_ K N t).1 = 2) ∧ ((at1_ K N t).1 = 0 → vb_ (at1_ K N t).2.2 400) := by
  obtain ⟨h1, h2, h3⟩ := rsm_in k 4 t zv_ 0 ht vb_0
  refine ⟨h1, h2, fun w => ?_⟩
  have := h3 w
  exact ⟨this.1, by have := this.2; show (rsm_ K N 4 t zv_).2.2 0 + (rsm_ K N 4 t zv_).2.2 1 + (rsm_ K N 4 t zv_).2.2 2 + (rsm_ K N 4 t zv_).2.2 3 + (rsm_ K N 4 t zv_).2.2 4 ≤ 400; omega⟩
theorem sg3_of {x : Int} (h : ¬ (x ≠ 10 ∧ x ≠ 11 ∧ x ≠ 12)) : sg3_ x := by unfold sg3_; omega
theorem ub_ua {K N : Int → Int} {T t a : Int} {u : ab_U} (k : kn_ K N T) (ht : 0 ≤ t ∧ t ≤ T) (a0 : 0 ≤ a) (hu : ub_ u a) (w1 : (at1_ K N t).1 = 0) (w2 : sg3_ (K (at1_ K N t).2.1)) (w3 : (at2_ K N t).1 = 0) : ub_ (ua_ K N a t u) (a + 1) ∧ (at1_ K N t).2.1 < T ∧ t < (at2_ K N t).2.1 ∧ (at2_ K N t).2.1 ≤ T := by
  obtain ⟨h1, h2, h3⟩ := at1_in k ht
  have l := kn_lt k h1.2 (by unfold sg3_ at w2; omega)
  obtain ⟨g1, g2, g3⟩ := at1_in k (t := (at1_ K N t).2.1 + 1) ⟨by omega, by omega⟩
  have e2 : at1_ K N ((at1_ K N t).2.1 + 1) = at2_ K N t := rfl
  rw [e2] at g1 g2 g3
  obtain ⟨u1, u2, u3, u4⟩ := hu
  refine ⟨⟨rfl, fun f f0 f1 => ?_, fun f c f0 => ?_, fun i i0 i1 => ?_⟩, l, by omega, g1.2⟩
  · by_cases z : f = 2 * a + 2
    · have e : (ua_ K N a t u).1 f = (at2_ K N t).2.2 := by
        funext c
        show (if f = 2 * a + 2 then _ else _) = _
        rw [if_pos z]
      rw [e]; exact g3 w3
    · by_cases y : f = 2 * a + 1
      · have e : (ua_ K N a t u).1 f = (at1_ K N t).2.2 := by
          funext c
          show (if f = 2 * a + 2 then _ else if f = 2 * a + 1 then _ else _) = _
          rw [if_neg z, if_pos y]
        rw [e]; exact h3 w1
      · have e : (ua_ K N a t u).1 f = u.1 f := by
          funext c
          show (if f = 2 * a + 2 then _ else if f = 2 * a + 1 then _ else _) = _
          rw [if_neg z, if_neg y]
        rw [e]; exact u2 f f0 (by omega)
  · show (if f = 2 * a + 2 then _ else if f = 2 * a + 1 then _ else u.1 f c) = 0
    rw [if_neg (by omega), if_neg (by omega)]
    exact u3 f c (by omega)
  · show sg3_ (if i = a then K (at1_ K N t).2.1 else u.2.1 i)
    by_cases z : i = a
    · rw [if_pos z]; exact w2
    · rw [if_neg z]; exact u4 i i0 (by omega)
theorem rats_in {K N : Int → Int} {T : Int} (k : kn_ K N T) : ∀ (m : Nat) (a t : Int) (u : ab_U), (m : Int) = 3 - a → 0 ≤ a → (0 ≤ t ∧ t ≤ T) → ub_ u a → (0 ≤ (rats_ K N m a t u).2.1 ∧ (rats_ K N m a t u).2.1 ≤ T) ∧ ((rats_ K N m a t u).1 = 0 ∨ (rats_ K N m a t u).1 = 1 ∨ (rats_ K N m a t u).1 = 2) ∧ ((rats_ K N m a t u).1 = 0 → ∃ a', 0 ≤ a' ∧ a' ≤ 3 ∧ ub_ (rats_ K N m a t u).2.2 a')
  | 0, a, t, u, hm, a0, ht, hu => by
    have e : rats_ K N 0 a t u = (if K t = 1 ∨ K t = 2 then 2 else 1, t, u) := rfl
    rw [e]
    refine ⟨ht, ?_, fun w => ?_⟩
    · dsimp only
      split <;> omega
    · dsimp only at w
      split at w <;> omega
  | m + 1, a, t, u, hm, a0, ht, hu => by
    obtain ⟨h1, h2, h3⟩ := at1_in k ht
    unfold rats_
    by_cases w1 : (at1_ K N t).1 ≠ 0
    · rw [if_pos w1]
      exact ⟨⟨by show 0 ≤ (at1_ K N t).2.1; omega, h1.2⟩, h2, fun w => absurd w w1⟩
    rw [if_neg w1]
    by_cases w2 : K (at1_ K N t).2.1 ≠ 10 ∧ K (at1_ K N t).2.1 ≠ 11 ∧ K (at1_ K N t).2.1 ≠ 12
    · rw [if_pos w2]
      exact ⟨⟨by show 0 ≤ (at1_ K N t).2.1; omega, h1.2⟩, Or.inr (Or.inl rfl), fun w => absurd (show (1 : Int) = 0 from w) (by decide)⟩
    rw [if_neg w2]
    have s3 := sg3_of w2
    have l := kn_lt k h1.2 (by unfold sg3_ at s3; omega)
    obtain ⟨g1, g2, g3⟩ := at1_in k (t := (at1_ K N t).2.1 + 1) ⟨by omega, by omega⟩
    have e2 : at1_ K N ((at1_ K N t).2.1 + 1) = at2_ K N t := rfl
    rw [e2] at g1 g2 g3
    by_cases w3 : (at2_ K N t).1 ≠ 0
    · rw [if_pos w3]
      exact ⟨⟨by show 0 ≤ (at2_ K N t).2.1; omega, g1.2⟩, g2, fun w => absurd w w3⟩
    rw [if_neg w3]
    obtain ⟨b1, b2, b3, b4⟩ := ub_ua k ht a0 hu (by omega) s3 (by omega)
    by_cases w4 : K (at2_ K N t).2.1 = 5
    · rw [if_pos w4]
      have l2 := kn_lt k b4 (by rw [w4]; decide)
      exact rats_in k m (a + 1) ((at2_ K N t).2.1 + 1) (ua_ K N a t u) (by omega) (by omega) ⟨by omega, by omega⟩ b1
    · rw [if_neg w4]
      exact ⟨⟨by show 0 ≤ (at2_ K N t).2.1; omega, b4⟩, Or.inl rfl, fun _ => ⟨a + 1, by omega, by omega, b1⟩⟩
/-- a rule in the making -/
def rlp_ (M : mm_M) (r : Nat) (u : ab_U) : Prop := nn_rf M r 2 = u.2.2 ∧ (∀ f c, 0 ≤ f → f < 7 → 0 ≤ c → c < 5 → nn_ri M (r + 1) (5 * f + c) = u.1 f c) ∧ ∀ i, 0 ≤ i → i < u.2.2 → nn_ri M (r + 2) i = u.2.1 i
def rac_ (r o b : Nat) : Prop := (o = 402 ∧ (b = 3 ∨ b = 4)) ∨ (o = r ∧ b = 2) ∨ o = r + 1 ∨ o = r + 2
theorem ct_Rd_atoms {K N S : Int → Int} {T t0 : Int} {r : Nat} {u0 : ab_U} {M : mm_M} {R : Int → mm_M → Prop} (hrr : r + 2 < 402) (k : kn_ K N T) (rk : rk_ M K N S T) (ht : 0 ≤ t0 ∧ t0 ≤ T) (ha : nn_rf M 402 3 = t0) (hu : ub_ u0 0) (hp : rlp_ M r u0)
    (h1 : (rats_ K N 3 0 t0 u0).1 = 0 → ∀ M', fr_ (rac_ r) M M' → nn_rf M' 402 3 = (rats_ K N 3 0 t0 u0).2.1 → rlp_ M' r (rats_ K N 3 0 t0 u0).2.2 → R 1 M')
    (h0 : (rats_ K N 3 0 t0 u0).1 ≠ 0 → ∀ M', fr_ (rac_ r) M M' → nn_rf M' 402 3 = (rats_ K N 3 0 t0 u0).2.1 → nn_rf M' 402 4 = (rats_ K N 3 0 t0 u0).1 → R 0 M') : nr_Reader_readAtoms r M R := by
  have hT := k.1
  refine ng_Reader_readAtoms _ _ _ ?_
  generalize hres : rats_ K N 3 0 t0 u0 = res at h1 h0
  have L : ∀ (m : Nat) (a t : Int) (u : ab_U) (M1 : mm_M), (m : Int) = 3 - a → 0 ≤ a → fr_ (rac_ r) M M1 → (0 ≤ t ∧ t ≤ T) → nn_rf M1 402 3 = t → ub_ u a → rlp_ M1 r u → rats_ K N m a t u = res → nk_Reader_readAtoms_2 r a M1 R := by
    intro m
    induction m with
    | zero =>
      intro a t u M1 hm a0 f1 ht a1 hu hp he
      have rk1 := rk_fr f1 (fun o b y => by unfold rac_; omega) rk
      have e0 : rats_ K N 0 a t u = (if K t = 1 ∨ K t = 2 then 2 else 1, t, u) := rfl
      rw [e0] at he
      rw [← he] at h0
      obtain ⟨n1, n2⟩ := nf_begins rk1 k ht a1
      refine ng_Reader_readAtoms_2 _ _ _ _ ⟨fun _ => ⟨n1, fun y => ?_, fun y => ?_⟩, fun y => by omega⟩
      · have hn : ¬ (K t = 1 ∨ K t = 2) := fun w => absurd y (n2.mpr w)
        rw [if_neg hn] at h0
        exact ct_Rd_fails (fun M2 f2 g2 => h0 (show (1 : Int) ≠ 0 by decide) M2 (fr_trans f1 (fr_mono f2 (fun o b y => Or.inl ⟨y.1, Or.inr y.2⟩))) ((fr_rf f2 (by omega)).trans a1) g2)
      · rw [if_pos (n2.mp y)] at h0
        exact ct_Rd_fails (fun M2 f2 g2 => h0 (show (2 : Int) ≠ 0 by decide) M2 (fr_trans f1 (fr_mono f2 (fun o b y => Or.inl ⟨y.1, Or.inr y.2⟩))) ((fr_rf f2 (by omega)).trans a1) g2)
    | succ m ih =>
      intro a t u M1 hm a0 f1 ht a1 hu hp he
      have rk1 := rk_fr f1 (fun o b y => by unfold rac_; omega) rk
      obtain ⟨p1, p2, p3⟩ := hp
      obtain ⟨u1, u2, u3, u4⟩ := id hu
      unfold rats_ at he
      obtain ⟨t1, t2, t3⟩ := at1_in k ht
      refine ng_Reader_readAtoms_2 _ _ _ _ ⟨fun y => by omega, fun _ => ?_⟩
      rw [mm_w_id (x := 2 * a) (by omega), mm_w_id (x := 2 * a + 1) (by omega), mm_w_id (x := 2 * a + 2) (by omega), mm_w_id (x := a + 1) (by omega)]
      refine ct_Rd_sum (by omega) k rk1 ht a1 ⟨by omega, by omega⟩ (fun c c0 c1 => (p2 (2 * a + 1) c (by omega) (by omega) c0 c1).trans (u3 _ _ (by omega))) (fun w M2 f2 a2 g2 => ?_) (fun w M2 f2 a2 g2 => ?_)
      · have w : (at1_ K N t).1 = 0 := w
        have a2 : nn_rf M2 402 3 = (at1_ K N t).2.1 := a2
        have g2 : ∀ c, 0 ≤ c → c < 5 → nn_ri M2 (r + 1) (5 * (2 * a + 1) + c) = (at1_ K N t).2.2 c := g2
        rw [if_neg (fun y => y w)] at he
        have f2' : fr_ (rac_ r) M1 M2 := fr_mono f2 (fun o b y => by unfold rsc_ at y; unfold rac_; omega)
        have F2 := fr_trans f1 f2'
        have rk2 := rk_fr F2 (fun o b y => by unfold rac_; omega) rk
        refine ⟨fun _ => ?_, fun y => absurd y (by decide)⟩
        rw [a2, (rk2 _ (by omega) t1.2).2.1]
        refine ⟨by omega, by omega, ?_⟩
        intro M3 e3 M4 e4
        have f4 : fr_ (fun o b => (o = r + 2 ∧ b = a.toNat) ∨ (o = r ∧ b = 2)) M2 M4 := by
          rw [e4, e3]
          exact fr_uf (fr_ui (fr_refl M2) (Or.inl ⟨rfl, rfl⟩)) (Or.inr ⟨rfl, rfl⟩)
        have F4 : fr_ (rac_ r) M M4 := fr_trans F2 (fr_mono f4 (fun o b y => by unfold rac_; omega))
        have rk4 := rk_fr F4 (fun o b y => by unfold rac_; omega) rk
        have a4 : nn_rf M4 402 3 = (at1_ K N t).2.1 := (fr_rf f4 (by omega)).trans a2
        have c4 : nn_rf M4 r 2 = a + 1 := by rw [e4, rd_ff, if_pos ⟨rfl, rfl⟩]
        have s4 : nn_ri M4 (r + 2) a = K (at1_ K N t).2.1 := by rw [e4, rd_if, if_neg (by omega), e3, rd_ii, if_pos ⟨rfl, rfl⟩]
        have s4' : ∀ i, 0 ≤ i → i < a → nn_ri M4 (r + 2) i = u.2.1 i := fun i i0 i1 => by
          rw [fr_ri f4 (by omega), fr_ri f2 (by unfold rsc_; omega)]
          exact p3 i i0 (by omega)
        have g4 : ∀ f c, 0 ≤ f → f < 7 → 0 ≤ c → c < 5 → nn_ri M4 (r + 1) (5 * f + c) = if f = 2 * a + 1 then (at1_ K N t).2.2 c else u.1 f c := fun f c f0 f1 c0 c1 => by
          rw [fr_ri f4 (by omega)]
          by_cases z : f = 2 * a + 1
          · rw [if_pos z, z]; exact g2 c c0 c1
          · rw [if_neg z, fr_ri f2 (by unfold rsc_; omega)]
            exact p2 f c f0 f1 c0 c1
        -- behind the sign
        have cont : sg3_ (K (at1_ K N t).2.1) → ∀ M5, fr_ (fun o b => o = 402 ∧ b = 3) M4 M5 → nn_rf M5 402 3 = (at1_ K N t).2.1 + 1 → nr_Reader_readSum r (2 * a + 2) M5 (fun r84 M84 => ((r84 ≠ 0 → (nr_Reader_passes 5 M84 (fun r94 M94 => ((r94 ≠ 0 → nk_Reader_readAtoms_2 r (a + 1) M94 R) ∧ (r94 = 0 → R 1 M94))))) ∧ (r84 = 0 → R 0 M84))) := by
          intro sg M5 f5 a5
          have l := kn_lt k t1.2 (by unfold sg3_ at sg; omega)
          have hng : ¬ (K (at1_ K N t).2.1 ≠ 10 ∧ K (at1_ K N t).2.1 ≠ 11 ∧ K (at1_ K N t).2.1 ≠ 12) := by unfold sg3_ at sg; omega
          rw [if_neg hng] at he
          have F5 : fr_ (rac_ r) M M5 := fr_trans F4 (fr_mono f5 (fun o b y => Or.inl ⟨y.1, Or.inl y.2⟩))
          have rk5 := rk_fr F5 (fun o b y => by unfold rac_; omega) rk
          refine ct_Rd_sum (by omega) k rk5 ⟨by omega, by omega⟩ a5 ⟨by omega, by omega⟩ (fun c c0 c1 => ?_) (fun w3 M6 f6 a6 g6 => ?_) (fun w3 M6 f6 a6 g6 => ?_)
          · rw [fr_ri f5 (by omega), g4 (2 * a + 2) c (by omega) (by omega) c0 c1, if_neg (by omega)]
            exact u3 _ _ (by omega)
          · have w3 : (at2_ K N t).1 = 0 := w3
            have a6 : nn_rf M6 402 3 = (at2_ K N t).2.1 := a6
            have g6 : ∀ c, 0 ≤ c → c < 5 → nn_ri M6 (r + 1) (5 * (2 * a + 2) + c) = (at2_ K N t).2.2 c := g6
            rw [if_neg (fun y => y w3)] at he
            obtain ⟨b1, b2, b3, b4⟩ := ub_ua k ht a0 hu w sg w3
            have f6' : fr_ (rac_ r) M5 M6 := fr_mono f6 (fun o b y => by unfold rsc_ at y; unfold rac_; omega)
            have F6 := fr_trans F5 f6'
            have rk6 := rk_fr F6 (fun o b y => by unfold rac_; omega) rk
            have p6 : rlp_ M6 r (ua_ K N a t u) := by
              refine ⟨?_, fun f c f0 f1 c0 c1 => ?_, fun i i0 i1 => ?_⟩
              · rw [fr_rf f6 (by unfold rsc_; omega), fr_rf f5 (by omega)]; exact c4
              · show nn_ri M6 (r + 1) (5 * f + c) = if f = 2 * a + 2 then (at2_ K N t).2.2 c else if f = 2 * a + 1 then (at1_ K N t).2.2 c else u.1 f c
                by_cases z : f = 2 * a + 2
                · rw [if_pos z, z]; exact g6 c c0 c1
                · rw [if_neg z, fr_ri f6 (by unfold rsc_; omega), fr_ri f5 (by omega)]
                  exact g4 f c f0 f1 c0 c1
              · have i1 : i < a + 1 := i1
                show nn_ri M6 (r + 2) i = if i = a then K (at1_ K N t).2.1 else u.2.1 i
                rw [fr_ri f6 (by unfold rsc_; omega), fr_ri f5 (by omega)]
                by_cases z : i = a
                · rw [if_pos z, z]; exact s4
                · rw [if_neg z]; exact s4' i i0 (by omega)
            refine ⟨fun _ => ?_, fun y => absurd y (by decide)⟩
            refine ct_Rd_passes k rk6 ⟨by omega, b4⟩ a6 (by decide) (fun y5 l2 M7 f7 a7 => ⟨fun _ => ?_, fun y => absurd y (by decide)⟩) (fun n5 => ⟨fun y => absurd rfl y, fun _ => ?_⟩)
            · rw [if_pos y5] at he
              have p7 : rlp_ M7 r (ua_ K N a t u) := ⟨(fr_rf f7 (by omega)).trans p6.1, fun f c f0 f1 c0 c1 => (fr_ri f7 (by omega)).trans (p6.2.1 f c f0 f1 c0 c1), fun i i0 i1 => (fr_ri f7 (by omega)).trans (p6.2.2 i i0 i1)⟩
              exact ih (a + 1) _ _ M7 (by omega) (by omega) (fr_trans F6 (fr_mono f7 (fun o b y => Or.inl ⟨y.1, Or.inl y.2⟩))) ⟨by omega, by omega⟩ a7 b1 p7 he
            · rw [if_neg n5] at he
              rw [← he] at h1
              exact h1 rfl M6 F6 a6 p6
          · have w3 : (at2_ K N t).1 ≠ 0 := w3
            rw [if_pos w3] at he
            rw [← he] at h0
            refine ⟨fun y => absurd rfl y, fun _ => ?_⟩
            exact h0 w3 M6 (fr_trans F5 (fr_mono f6 (fun o b y => by unfold rsc_ at y; unfold rac_; omega))) a6 g6
        refine ct_Rd_passes k rk4 ⟨by omega, t1.2⟩ a4 (by decide) (fun y10 l M5 f5 a5 => ⟨fun _ => cont (Or.inl y10) M5 f5 a5, fun y => absurd y (by decide)⟩) (fun n10 => ⟨fun y => absurd rfl y, fun _ => ?_⟩)
        refine ct_Rd_passes k rk4 ⟨by omega, t1.2⟩ a4 (by decide) (fun y11 l M5 f5 a5 => ⟨fun _ => cont (Or.inr (Or.inl y11)) M5 f5 a5, fun y => absurd y (by decide)⟩) (fun n11 => ⟨fun y => absurd rfl y, fun _ => ?_⟩)
        refine ct_Rd_passes k rk4 ⟨by omega, t1.2⟩ a4 (by decide) (fun y12 l M5 f5 a5 => ⟨fun _ => cont (Or.inr (Or.inr y12)) M5 f5 a5, fun y => absurd y (by decide)⟩) (fun n12 => ⟨fun y => absurd rfl y, fun _ => ?_⟩)
        rw [if_pos ⟨n10, n11, n12⟩] at he
        rw [← he] at h0
        exact ct_Rd_fails (fun M5 f5 g5 => h0 (show (1 : Int) ≠ 0 by decide) M5 (fr_trans F4 (fr_mono f5 (fun o b y => Or.inl ⟨y.1, Or.inr y.2⟩))) ((fr_rf f5 (by omega)).trans a4) g5)
      · have w : (at1_ K N t).1 ≠ 0 := w
        rw [if_pos w] at he
        rw [← he] at h0
        refine ⟨fun y => absurd rfl y, fun _ => ?_⟩
        exact h0 w M2 (fr_trans f1 (fr_mono f2 (fun o b y => by unfold rsc_ at y; unfold rac_; omega))) a2 g2
  exact L 3 0 t0 u0 M (by omega) (Int.le_refl _) (fr_refl M) ht ha hu hp hres
theorem ct_Ru_clear {r : Nat} {M : mm_M} {R : mm_M → Prop} (h : ∀ M', fr_ (fun o b => (o = r ∧ b = 2) ∨ o = r + 1) M M' → nn_rf M' r 2 = 0 → (∀ i, 0 ≤ i → i < 35 → nn_ri M' (r + 1) i = 0) → R M') : nr_Rule_clear r M R := by
  refine ng_Rule_clear _ _ _ ?_
  have L : ∀ i : Int, i ≤ 35 → 0 ≤ i → ∀ M1, fr_ (fun o b => (o = r ∧ b = 2) ∨ o = r + 1) M M1 → (∀ q, 0 ≤ q → q < i → nn_ri M1 (r + 1) q = 0) → nk_Rule_clear_2 r i M1 R := by
    refine lp_up (fun i hi ih i0 M1 f1 g1 => ?_)
    refine ng_Rule_clear_2 _ _ _ _ ⟨fun c => ?_, fun c => ⟨by omega, ?_⟩⟩
    · intro M2 e2
      refine h M2 (by rw [e2]; exact fr_uf f1 (Or.inl ⟨rfl, rfl⟩)) (by rw [e2, rd_ff, if_pos ⟨rfl, rfl⟩]) (fun q q0 q1 => ?_)
      rw [e2, rd_if, if_neg (by omega)]
      exact g1 q q0 (by omega)
    · rw [mm_w_id (x := i + 1) (by omega)]
      intro M2 e2
      refine ih c (by omega) M2 (by rw [e2]; exact fr_ui f1 (Or.inr rfl)) (fun q q0 q1 => ?_)
      rw [e2, rd_ii]
      by_cases z : q = i
      · rw [if_pos ⟨rfl, by rw [z]⟩]
      · rw [if_neg (by omega)]; exact g1 q q0 (by omega)
  exact L 0 (by omega) (Int.le_refl _) M (fr_refl M) (fun q q0 q1 => by omega)
theorem ct_Rd_opt {K N S : Int → Int} {T t c : Int} {M : mm_M} {R : Int → mm_M → Prop} (k : kn_ K N T) (r : rk_ M K N S T) (ht : 0 ≤ t ∧ t ≤ T) (ha : nn_rf M 402 3 = t) (hc : c ≠ 0) (h : (0 ≤ op_ K c t ∧ op_ K c t ≤ T) → (ob_ K c t = 0 ∨ ob_ K c t = 1) → ∀ M', fr_ (fun o b => o = 402 ∧ b = 3) M M' → nn_rf M' 402 3 = op_ K c t → R (ob_ K c t) M') : nr_Reader_passes c M R := by
  unfold op_ ob_ at h
  refine ct_Rd_passes k r ht ha hc (fun y l M1 f1 a1 => ?_) (fun y => ?_)
  · rw [if_pos y, if_pos y] at h
    exact h ⟨by omega, by omega⟩ (Or.inr rfl) M1 f1 a1
  · rw [if_neg y, if_neg y] at h
    exact h ht (Or.inl rfl) M (fr_refl M) ha
/-- a text's kinds, numbers, places -/
def tK_ (f : Int → Int) (n t : Int) : Int := kd_ f n (tS_ f n t.toNat)
def tN_ (f : Int → Int) (n t : Int) : Int := nb_ f n (tS_ f n t.toNat)
def tP_ (f : Int → Int) (n t : Int) : Int := tS_ f n t.toNat
theorem wkd_in (f : Int → Int) (p e : Int) : wkd_ f p e ≠ 1 ∧ (wkd_ f p e = 2 → f p - 97 < 4) := by
  unfold wkd_
  by_cases a : e - p = 1 ∧ f p - 97 < 4
  · rw [if_pos a]; exact ⟨by decide, fun _ => a.2⟩
  · rw [if_neg a]
    split
    · exact ⟨by decide, fun w => absurd w (by decide)⟩
    · split
      · exact ⟨by decide, fun w => absurd w (by decide)⟩
      · split
        · exact ⟨by decide, fun w => absurd w (by decide)⟩
        · split
          · exact ⟨by decide, fun w => absurd w (by decide)⟩
          · split
            · exact ⟨by decide, fun w => absurd w (by decide)⟩
            · exact ⟨by decide, fun w => absurd w (by decide)⟩
theorem sign_in (c : Int) : 8 ≤ nf_Reader_sign c := by
  unfold nf_Reader_sign
  split
  · decide
  · split
    · decide
    · split
      · decide
      · split
        · decide
        · split <;> decide
theorem nb_in {f : Int → Int} {n p : Int} (hp : 0 ≤ p ∧ p < n) (hs : sb_ (f p) ≠ 0) : (kd_ f n p = 1 → 0 ≤ nb_ f n p ∧ nb_ f n p ≤ 99) ∧ (kd_ f n p = 2 → 0 ≤ nb_ f n p ∧ nb_ f n p ≤ 3) := by
  obtain ⟨e0, e1, e2, e3⟩ := te_in (f := f) hp.2
  unfold kd_ nb_
  rw [if_neg (c := n ≤ p) (by omega)]
  by_cases a : sb_ (f p) = 1
  · rw [if_pos a, if_pos a]
    have hw := wkd_in f p (te_ f n p)
    have hc := sb_c (f p)
    refine ⟨fun w => absurd w hw.1, fun w => ?_⟩
    have := hw.2 w
    omega
  rw [if_neg a, if_neg a]
  by_cases b : sb_ (f p) = 3
  · rw [if_pos b, if_pos b]
    have := sign_in (f p)
    exact ⟨fun w => by omega, fun w => by omega⟩
  rw [if_neg b, if_neg b]
  by_cases c : te_ f n p - p > 2
  · rw [if_pos c, if_pos c]
    exact ⟨fun w => absurd w (by decide), fun w => absurd w (by decide)⟩
  rw [if_neg c, if_neg c]
  refine ⟨fun _ => ?_, fun w => absurd w (by decide)⟩
  have hc := sb_c (f p)
  by_cases d : te_ f n p - p = 1
  · rw [if_pos d]; omega
  · rw [if_neg d]
    have h1 := (e2 (p + 1) (by omega) (by omega)).1
    have hc2 := sb_c (f (p + 1))
    omega
theorem kn_of {f : Int → Int} {n T : Int} (hn : 0 ≤ n ∧ n ≤ 200) (hT : 0 ≤ T ∧ T ≤ n) (h1 : ∀ u : Nat, (u : Int) < T → tS_ f n u < n) (h2 : tS_ f n T.toNat = n) : kn_ (tK_ f n) (tN_ f n) T := by
  refine ⟨⟨hT.1, by omega⟩, ?_, fun t t0 t1 => ?_⟩
  · unfold tK_ kd_
    rw [h2, if_pos (Int.le_refl _)]
  · obtain ⟨a1, a2, a3⟩ := tS_at (f := f) hn.1 t.toNat (fun u hu => h1 u (by omega))
    have a4 := h1 t.toNat (by omega)
    exact nb_in ⟨a1, a4⟩ (a3 a4).2.1
def rxc_ (x o b : Nat) : Prop := o = 402 ∨ o = 403 ∨ o = 404 ∨ o = 405 ∨ (o = x ∧ (b = 6 ∨ b = 7)) ∨ (x + 1 ≤ o ∧ o < x + 4)
theorem ct_Rd_index {v x : Nat} {n : Int} {f : Int → Int} {M : mm_M} {R : Int → mm_M → Prop} (hv : v + 1 < 403) (hx : x + 4 < 402) (hvx : v + 1 < x ∨ x + 4 ≤ v) (hk : (mm_kd (v + 1)).2 = 200) (tp : tp_ M v n f) (hb : ∀ i, 0 ≤ i → i < n → 0 ≤ f i ∧ f i ≤ 255)
    (h1 : (rix_ (tK_ f n) (tN_ f n)).1 = 0 → ∀ M', fr_ (rxc_ x) M M' → rlp_ M' (x + 1) (rix_ (tK_ f n) (tN_ f n)).2.2.1 → nn_rf M' x 6 = (rix_ (tK_ f n) (tN_ f n)).2.2.2.1 → nn_rf M' x 7 = (rix_ (tK_ f n) (tN_ f n)).2.2.2.2 → R 1 M')
    (h0 : (rix_ (tK_ f n) (tN_ f n)).1 ≠ 0 → ∀ M', fr_ (rxc_ x) M M' → nn_rf M' 402 4 = (rix_ (tK_ f n) (tN_ f n)).1 → (0 ≤ nn_rf M' 402 3 ∧ nn_rf M' 402 3 ≤ 200) → nn_ri M' 404 (nn_rf M' 402 3) = tP_ f n (rix_ (tK_ f n) (tN_ f n)).2.1 → R 0 M') : nr_Reader_readIndex v x M R := by
  obtain ⟨q1, q2, q3, q4⟩ := tp
  refine ng_Reader_readIndex _ _ _ _ ?_
  rw [q1]
  refine ct_Rd_split (by omega) (by rw [hk]; exact q3) ⟨q2, q3⟩ hb q4 (fun M1 T f1 rd => ?_)
  obtain ⟨hT, r2, r3, r4⟩ := rd
  have k := kn_of ⟨q2, q3⟩ hT r2 r3
  have rk1 : rk_ M1 (tK_ f n) (tN_ f n) (tP_ f n) T := fun t t0 t1 => r4 t t0 t1
  generalize tK_ f n = K at *
  generalize tN_ f n = N at *
  generalize tP_ f n = S at *
  intro M2 e2 M3 e3
  have f3 : fr_ (fun o b => o = 402) M1 M3 := by rw [e3, e2]; exact fr_uf (fr_uf (fr_refl M1) rfl) rfl
  have a3 : nn_rf M3 402 3 = 0 := by rw [e3, rd_ff, if_neg (by omega), e2, rd_ff, if_pos ⟨rfl, rfl⟩]
  have F3 : fr_ (rxc_ x) M M3 := fr_trans (fr_mono f1 (fun o b y => by unfold rdc_ at y; unfold rxc_; omega)) (fr_mono f3 (fun o b y => Or.inl y))
  have rk3 := rk_fr f3 (fun o b y => by omega) rk1
  refine ct_Ru_clear (fun M4 f4 c4 g4 => ?_)
  have f4x : fr_ (rxc_ x) M3 M4 := fr_mono f4 (fun o b y => by unfold rxc_; omega)
  have F4 := fr_trans F3 f4x
  have rk4 := rk_fr f4 (fun o b y => by omega) rk3
  have a4 : nn_rf M4 402 3 = 0 := (fr_rf f4 (by omega)).trans a3
  -- a fault told
  have fault : ∀ (st t : Int) (M' : mm_M), (rix_ K N).1 = st → (rix_ K N).2.1 = t → st ≠ 0 → fr_ (rxc_ x) M M' → rk_ M' K N S T → (0 ≤ t ∧ t ≤ T) → nn_rf M' 402 4 = st → nn_rf M' 402 3 = t → R 0 M' := by
    intro st t M' q5 q6 q7 q8 q9 q10 q11 q12
    refine h0 (by rw [q5]; exact q7) M' q8 (by rw [q5]; exact q11) (by rw [q12]; omega) ?_
    rw [q12, q6]
    exact (q9 t q10.1 q10.2).1
  -- behind sum and atoms
  have tail : ∀ (M7 : mm_M), K 0 = 3 → (rsm_ K N 4 1 zv_).1 = 0 → (rwh_ K N).1 = 0 → (0 ≤ (rwh_ K N).2.1 ∧ (rwh_ K N).2.1 ≤ T) → fr_ (rxc_ x) M M7 → rk_ M7 K N S T → nn_rf M7 402 3 = (rwh_ K N).2.1 → rlp_ M7 (x + 1) (rwh_ K N).2.2 → nr_Reader_passes 6 M7 (fun r82 M82 => ∀ M85 : mm_M, M85 = nn_uf M82 x 6 r82 → nr_Reader_passes 7 M85 (fun r92 M92 => ∀ M95 : mm_M, M95 = nn_uf M92 x 7 r92 → ((0 : Int) ≤ nn_rf M95 402 3 ∧ nn_rf M95 402 3 < (201 : Int)) ∧ (nn_ri M95 403 (nn_rf M95 402 3) = 0 → R 1 M95) ∧ (nn_ri M95 403 (nn_rf M95 402 3) ≠ 0 → nr_Reader_fails 1 M95 (fun r112 M112 => (r112 = 0 → R 0 M112) ∧ (r112 ≠ 0 → R 1 M112))))) := by
    intro M7 k3 w0 w1 wt F7 rk7 a7 p7
    have er : rix_ K N = (if K (op_ K 7 (op_ K 6 (rwh_ K N).2.1)) = 0 then 0 else 1, op_ K 7 (op_ K 6 (rwh_ K N).2.1), (rwh_ K N).2.2, ob_ K 6 (rwh_ K N).2.1, ob_ K 7 (op_ K 6 (rwh_ K N).2.1)) := by
      unfold rix_
      rw [if_neg (fun y => y k3), if_neg (fun y => y w0), if_neg (fun y => y w1)]
    refine ct_Rd_opt k rk7 wt a7 (by decide) (fun o6 b6 M8 f8 a8 => ?_)
    intro M9 e9
    have f9 : fr_ (fun o b => (o = 402 ∧ b = 3) ∨ (o = x ∧ b = 6)) M7 M9 := by rw [e9]; exact fr_uf (fr_mono f8 (fun o b y => Or.inl y)) (Or.inr ⟨rfl, rfl⟩)
    have F9 := fr_trans F7 (fr_mono f9 (fun o b y => by unfold rxc_; omega))
    have rk9 := rk_fr f9 (fun o b y => by omega) rk7
    have a9 : nn_rf M9 402 3 = op_ K 6 (rwh_ K N).2.1 := by rw [e9, rd_ff, if_neg (by omega)]; exact a8
    have x9 : nn_rf M9 x 6 = ob_ K 6 (rwh_ K N).2.1 := by rw [e9, rd_ff, if_pos ⟨rfl, rfl⟩]
    refine ct_Rd_opt k rk9 o6 a9 (by decide) (fun o7 b7 M10 f10 a10 => ?_)
    intro M11 e11
    have f11 : fr_ (fun o b => (o = 402 ∧ b = 3) ∨ (o = x ∧ b = 7)) M9 M11 := by rw [e11]; exact fr_uf (fr_mono f10 (fun o b y => Or.inl y)) (Or.inr ⟨rfl, rfl⟩)
    have F11 := fr_trans F9 (fr_mono f11 (fun o b y => by unfold rxc_; omega))
    have rk11 := rk_fr f11 (fun o b y => by omega) rk9
    have a11 : nn_rf M11 402 3 = op_ K 7 (op_ K 6 (rwh_ K N).2.1) := by rw [e11, rd_ff, if_neg (by omega)]; exact a10
    have x11 : nn_rf M11 x 6 = ob_ K 6 (rwh_ K N).2.1 := (fr_rf f11 (by omega)).trans x9
    have y11 : nn_rf M11 x 7 = ob_ K 7 (op_ K 6 (rwh_ K N).2.1) := by rw [e11, rd_ff, if_pos ⟨rfl, rfl⟩]
    rw [a11, (rk11 _ o7.1 o7.2).2.1]
    refine ⟨by omega, fun y => ?_, fun y => ?_⟩
    · rw [er, if_pos y] at h1
      refine h1 rfl M11 F11 ?_ x11 y11
      have pf : ∀ o b, (o = x + 1 ∧ b = 2) ∨ o = x + 2 ∨ o = x + 3 → M11.2 o b = M7.2 o b := fun o b z => (f11 o b (by omega)).trans (f9 o b (by omega))
      exact ⟨(pf _ _ (Or.inl ⟨rfl, rfl⟩)).trans p7.1, fun f c z0 z1 z2 z3 => (pf _ _ (Or.inr (Or.inl rfl))).trans (p7.2.1 f c z0 z1 z2 z3), fun i z0 z1 => (pf _ _ (Or.inr (Or.inr rfl))).trans (p7.2.2 i z0 z1)⟩
    · rw [if_neg y] at er
      refine ct_Rd_fails (fun M12 f12 g12 => ⟨fun _ => ?_, fun w => absurd rfl w⟩)
      exact fault 1 _ M12 (by rw [er]) (by rw [er]) (by decide) (fr_trans F11 (fr_mono f12 (fun o b z => Or.inl z.1))) (rk_fr f12 (fun o b z => by omega) rk11) o7 g12 ((fr_rf f12 (by omega)).trans a11)
  refine ct_Rd_passes k rk4 ⟨Int.le_refl _, hT.1⟩ a4 (by decide) (fun k3 l M5 f5 a5 => ⟨fun _ => ?_, fun y => absurd y (by decide)⟩) (fun n3 => ⟨fun y => absurd rfl y, fun _ => ?_⟩)
  · have a5 : nn_rf M5 402 3 = 1 := a5
    have F5 := fr_trans F4 (fr_mono f5 (fun o b y => Or.inl y.1))
    have rk5 := rk_fr f5 (fun o b y => by omega) rk4
    have hK := k.1
    have g5 : ∀ i, 0 ≤ i → i < 35 → nn_ri M5 (x + 1 + 1) i = 0 := fun i i0 i1 => (fr_ri f5 (by omega)).trans (g4 i i0 i1)
    have er : (rsm_ K N 4 1 zv_).1 ≠ 0 → rix_ K N = ((rsm_ K N 4 1 zv_).1, (rsm_ K N 4 1 zv_).2.1, u0_ zv_, 0, 0) := by
      intro w
      unfold rix_
      rw [if_neg (fun y => y k3), if_pos w]
    have er2 : (rsm_ K N 4 1 zv_).1 = 0 → (rwh_ K N).1 ≠ 0 → rix_ K N = ((rwh_ K N).1, (rwh_ K N).2.1, u0_ zv_, 0, 0) := by
      intro w w2
      unfold rix_
      rw [if_neg (fun y => y k3), if_neg (fun y => y w), if_pos w2]
    obtain ⟨s1, s2, s3⟩ := rsm_in k 4 1 zv_ 0 ⟨by omega, by omega⟩ vb_0
    refine ct_Rd_sum (by omega) k rk5 ⟨by omega, by omega⟩ a5 ⟨Int.le_refl _, by omega⟩ (fun c c0 c1 => g5 _ (by omega) (by omega)) (fun w M6 f6 a6 g6 => ⟨fun _ => ?_, fun y => absurd y (by decide)⟩) (fun w M6 f6 a6 g6 => ⟨fun y => absurd rfl y, fun _ => ?_⟩)
    · have F6 := fr_trans F5 (fr_mono f6 (fun o b y => by unfold rsc_ at y; unfold rxc_; omega))
      have rk6 := rk_fr f6 (fun o b y => by unfold rsc_; omega) rk5
      have hv : vb_ (rsm_ K N 4 1 zv_).2.2 400 := by
        have := s3 w
        exact ⟨this.1, by have := this.2; omega⟩
      have p6 : rlp_ M6 (x + 1) (u0_ (rsm_ K N 4 1 zv_).2.2) := by
        refine ⟨?_, fun f c f0 f1 c0 c1 => ?_, fun i i0 i1 => ?_⟩
        · rw [fr_rf f6 (by unfold rsc_; omega), fr_rf f5 (by omega)]; exact c4
        · show nn_ri M6 (x + 1 + 1) (5 * f + c) = if f = 0 then (rsm_ K N 4 1 zv_).2.2 c else 0
          by_cases z : f = 0
          · rw [if_pos z, z]; exact g6 c c0 c1
          · rw [if_neg z, fr_ri f6 (by unfold rsc_; omega)]
            exact g5 _ (by omega) (by omega)
        · have i1 : i < 0 := i1
          omega
      have erw : rwh_ K N = if K (rsm_ K N 4 1 zv_).2.1 = 4 then rats_ K N 3 0 ((rsm_ K N 4 1 zv_).2.1 + 1) (u0_ (rsm_ K N 4 1 zv_).2.2) else (0, (rsm_ K N 4 1 zv_).2.1, u0_ (rsm_ K N 4 1 zv_).2.2) := rfl
      refine ct_Rd_passes k rk6 ⟨by omega, s1.2⟩ a6 (by decide) (fun y4 l2 M7 f7 a7 => ⟨fun y => absurd y (by decide), fun _ => ?_⟩) (fun n4 => ⟨fun _ => ?_, fun y => absurd rfl y⟩)
      · rw [if_pos y4] at erw
        have F7 := fr_trans F6 (fr_mono f7 (fun o b y => Or.inl y.1))
        have rk7 := rk_fr f7 (fun o b y => by omega) rk6
        have p7 : rlp_ M7 (x + 1) (u0_ (rsm_ K N 4 1 zv_).2.2) := ⟨(fr_rf f7 (by omega)).trans p6.1, fun f c f0 f1 c0 c1 => (fr_ri f7 (by omega)).trans (p6.2.1 f c f0 f1 c0 c1), fun i i0 i1 => (fr_ri f7 (by omega)).trans (p6.2.2 i i0 i1)⟩
        obtain ⟨v1, v2, v3⟩ := rats_in k 3 0 ((rsm_ K N 4 1 zv_).2.1 + 1) (u0_ (rsm_ K N 4 1 zv_).2.2) (by omega) (Int.le_refl _) ⟨by omega, by omega⟩ (ub_0 hv)
        refine ct_Rd_atoms (by omega) k rk7 ⟨by omega, by omega⟩ a7 (ub_0 hv) p7 (fun w2 M8 f8 a8 p8 => ⟨fun _ => ?_, fun y => absurd y (by decide)⟩) (fun w2 M8 f8 a8 g8 => ⟨fun y => absurd rfl y, fun _ => ?_⟩)
        · rw [← erw] at w2 a8 p8 v1
          exact tail M8 k3 w w2 v1 (fr_trans F7 (fr_mono f8 (fun o b y => by unfold rac_ at y; unfold rxc_; omega))) (rk_fr f8 (fun o b y => by unfold rac_; omega) rk7) a8 p8
        · rw [← erw] at w2 a8 g8 v1
          have e := er2 w w2
          exact fault _ _ M8 (by rw [e]) (by rw [e]) w2 (fr_trans F7 (fr_mono f8 (fun o b y => by unfold rac_ at y; unfold rxc_; omega))) (rk_fr f8 (fun o b y => by unfold rac_; omega) rk7) v1 g8 a8
      · rw [if_neg n4] at erw
        refine tail M6 k3 w (by rw [erw]) (by rw [erw]; exact ⟨by show 0 ≤ (rsm_ K N 4 1 zv_).2.1; omega, s1.2⟩) F6 rk6 (by rw [erw]; exact a6) (by rw [erw]; exact p6)
    · have e := er w
      exact fault _ _ M6 (by rw [e]) (by rw [e]) w (fr_trans F5 (fr_mono f6 (fun o b y => by unfold rsc_ at y; unfold rxc_; omega))) (rk_fr f6 (fun o b y => by unfold rsc_; omega) rk5) ⟨by omega, s1.2⟩ g6 a6
  · have er : rix_ K N = (1, 0, u0_ zv_, 0, 0) := by
      unfold rix_
      rw [if_pos n3]
    refine ct_Rd_fails (fun M5 f5 g5 => ?_)
    exact fault 1 0 M5 (by rw [er]) (by rw [er]) (by decide) (fr_trans F4 (fr_mono f5 (fun o b y => Or.inl y.1))) (rk_fr f5 (fun o b y => by omega) rk4) ⟨Int.le_refl _, hT.1⟩ g5 ((fr_rf f5 (by omega)).trans a4)
