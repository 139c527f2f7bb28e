/-! keys by value, by key: what is asked; both sides -/
/-- a key goes to its place, from p on downwards -/
def gl_ (vv : Int → Int) (key : Int) : Nat → (Int → Int) → (Int → Int)
  | 0, F => fun i => if i = 0 then key else F i
  | p + 1, F => if vv key < vv (F (p : Int)) then gl_ vv key p (fun i => if i = (p : Int) + 1 then F (p : Int) else F i) else fun i => if i = (p : Int) + 1 then key else F i
abbrev gw_ (vv : Int → Int) (low high k : Int) : Prop := vv k ≠ -1 ∧ low ≤ vv k ∧ vv k ≤ high
def ga_ (vv : Int → Int) (low high : Int) : Nat → Int × (Int → Int)
  | 0 => (0, fun _ => 0)
  | k + 1 => if gw_ vv low high k then ((ga_ vv low high k).1 + 1, gl_ vv k (ga_ vv low high k).1.toNat (ga_ vv low high k).2) else ga_ vv low high k
/-- before, by value, then by key -/
def bf_ (vv : Int → Int) (a b : Int) : Prop := vv a < vv b ∨ (vv a = vv b ∧ a < b)
theorem gl_set {vv : Int → Int} {key n : Int} : ∀ {p : Nat} {F : Int → Int}, (p : Int) ≤ n → ∀ y, (∃ i, 0 ≤ i ∧ i ≤ n ∧ gl_ vv key p F i = y) ↔ (y = key ∨ ∃ i, 0 ≤ i ∧ i ≤ n ∧ i ≠ (p : Int) ∧ F i = y)
  | 0, F, hp, y => by
    constructor
    · rintro ⟨i, i0, i1, i2⟩
      have i2 : (if i = 0 then key else F i) = y := i2
      by_cases z : i = 0
      · rw [if_pos z] at i2; exact Or.inl i2.symm
      · rw [if_neg z] at i2; exact Or.inr ⟨i, i0, i1, by omega, i2⟩
    · rintro (z | ⟨i, i0, i1, i2, i3⟩)
      · exact ⟨0, Int.le_refl _, by omega, by show (if (0 : Int) = 0 then key else F 0) = y; rw [if_pos rfl, z]⟩
      · exact ⟨i, i0, i1, by show (if i = 0 then key else F i) = y; rw [if_neg (by omega)]; exact i3⟩
  | p + 1, F, hp, y => by
    unfold gl_
    by_cases w : vv key < vv (F (p : Int))
    · rw [if_pos w, gl_set (p := p) (by omega)]
      constructor
      · rintro (z | ⟨i, i0, i1, i2, i3⟩)
        · exact Or.inl z
        · have i3 : (if i = (p : Int) + 1 then F (p : Int) else F i) = y := i3
          by_cases z : i = (p : Int) + 1
          · rw [if_pos z] at i3; exact Or.inr ⟨p, by omega, by omega, by omega, i3⟩
          · rw [if_neg z] at i3; exact Or.inr ⟨i, i0, i1, by omega, i3⟩
      · rintro (z | ⟨i, i0, i1, i2, i3⟩)
        · exact Or.inl z
        · by_cases z : i = (p : Int)
          · exact Or.inr ⟨(p : Int) + 1, by omega, by omega, by omega, by show (if (p : Int) + 1 = (p : Int) + 1 then F (p : Int) else F ((p : Int) + 1)) = y; rw [if_pos rfl, ← z]; exact i3⟩
          · exact Or.inr ⟨i, i0, i1, z, by show (if i = (p : Int) + 1 then F (p : Int) else F i) = y; rw [if_neg (by omega)]; exact i3⟩
    · rw [if_neg w]
      constructor
      · rintro ⟨i, i0, i1, i2⟩
        have i2 : (if i = (p : Int) + 1 then key else F i) = y := i2
        by_cases z : i = (p : Int) + 1
        · rw [if_pos z] at i2; exact Or.inl i2.symm
        · rw [if_neg z] at i2; exact Or.inr ⟨i, i0, i1, by omega, i2⟩
      · rintro (z | ⟨i, i0, i1, i2, i3⟩)
        · exact ⟨(p : Int) + 1, by omega, by omega, by show (if (p : Int) + 1 = (p : Int) + 1 then key else F ((p : Int) + 1)) = y; rw [if_pos rfl, z]⟩
        · exact ⟨i, i0, i1, by show (if i = (p : Int) + 1 then key else F i) = y; rw [if_neg (by omega)]; exact i3⟩
theorem gl_srt {vv : Int → Int} {key n : Int} : ∀ {p : Nat} {F : Int → Int}, (p : Int) ≤ n → (∀ i, 0 ≤ i → i ≤ n → i ≠ (p : Int) → F i < key) → (∀ i j, 0 ≤ i → i < j → j ≤ n → i ≠ (p : Int) → j ≠ (p : Int) → bf_ vv (F i) (F j)) → (∀ i, (p : Int) < i → i ≤ n → vv key < vv (F i)) → ∀ i j, 0 ≤ i → i < j → j ≤ n → bf_ vv (gl_ vv key p F i) (gl_ vv key p F j)
  | 0, F, hp, hk, hs, hg, i, j, i0, ij, jn => by
    show bf_ vv (if i = 0 then key else F i) (if j = 0 then key else F j)
    rw [if_neg (show ¬ j = 0 by omega)]
    by_cases z : i = 0
    · rw [if_pos z]; exact Or.inl (hg j (by omega) jn)
    · rw [if_neg z]; exact hs i j i0 ij jn (by omega) (by omega)
  | p + 1, F, hp, hk, hs, hg, i, j, i0, ij, jn => by
    unfold gl_
    by_cases w : vv key < vv (F (p : Int))
    · rw [if_pos w]
      refine gl_srt (p := p) (F := fun i => if i = (p : Int) + 1 then F (p : Int) else F i) (by omega) (fun i i0 i1 i2 => ?_) (fun i j i0 ij jn ip jp => ?_) (fun i i0 i1 => ?_) i j i0 ij jn
      · show (if i = (p : Int) + 1 then F (p : Int) else F i) < key
        by_cases z : i = (p : Int) + 1
        · rw [if_pos z]; exact hk p (by omega) (by omega) (by omega)
        · rw [if_neg z]; exact hk i i0 i1 (by omega)
      · show bf_ vv (if i = (p : Int) + 1 then F (p : Int) else F i) (if j = (p : Int) + 1 then F (p : Int) else F j)
        by_cases z : i = (p : Int) + 1
        · rw [if_pos z, if_neg (by omega)]; exact hs p j (by omega) (by omega) jn (by omega) (by omega)
        · rw [if_neg z]
          by_cases z2 : j = (p : Int) + 1
          · rw [if_pos z2]; exact hs i p i0 (by omega) (by omega) (by omega) (by omega)
          · rw [if_neg z2]; exact hs i j i0 ij jn (by omega) (by omega)
      · show vv key < vv (if i = (p : Int) + 1 then F (p : Int) else F i)
        by_cases z : i = (p : Int) + 1
        · rw [if_pos z]; exact w
        · rw [if_neg z]; exact hg i (by omega) i1
    · rw [if_neg w]
      show bf_ vv (if i = (p : Int) + 1 then key else F i) (if j = (p : Int) + 1 then key else F j)
      by_cases z : i = (p : Int) + 1
      · rw [if_pos z, if_neg (by omega)]; exact Or.inl (hg j (by omega) jn)
      · rw [if_neg z]
        by_cases z2 : j = (p : Int) + 1
        · rw [if_pos z2]
          have h1 := hk i i0 (by omega) (by omega)
          by_cases z3 : i = (p : Int)
          · rw [z3] at h1 ⊢
            by_cases z4 : vv (F (p : Int)) = vv key
            · exact Or.inr ⟨z4, h1⟩
            · exact Or.inl (by omega)
          · have h2 : vv (F i) ≤ vv (F (p : Int)) := by
              rcases hs i p i0 (by omega) (by omega) (by omega) (by omega) with y | y
              · omega
              · omega
            by_cases z4 : vv (F i) = vv key
            · exact Or.inr ⟨z4, h1⟩
            · exact Or.inl (by omega)
        · rw [if_neg z2]; exact hs i j i0 ij jn (by omega) (by omega)
theorem ga_spec (vv : Int → Int) (low high : Int) : ∀ k : Nat, (0 ≤ (ga_ vv low high k).1 ∧ (ga_ vv low high k).1 ≤ k) ∧ (∀ i, 0 ≤ i → i < (ga_ vv low high k).1 → (0 ≤ (ga_ vv low high k).2 i ∧ (ga_ vv low high k).2 i < k) ∧ gw_ vv low high ((ga_ vv low high k).2 i)) ∧ (∀ i j, 0 ≤ i → i < j → j < (ga_ vv low high k).1 → bf_ vv ((ga_ vv low high k).2 i) ((ga_ vv low high k).2 j)) ∧ ∀ q : Int, 0 ≤ q → q < k → gw_ vv low high q → ∃ i, 0 ≤ i ∧ i < (ga_ vv low high k).1 ∧ (ga_ vv low high k).2 i = q
  | 0 => ⟨⟨Int.le_refl _, Int.le_refl _⟩, fun i i0 i1 => by have i1 : i < 0 := i1; omega, fun i j i0 ij j1 => by have j1 : j < 0 := j1; omega, fun q q0 q1 => by omega⟩
  | k + 1 => by
    obtain ⟨h1, h2, h3, h4⟩ := ga_spec vv low high k
    unfold ga_
    by_cases z : gw_ vv low high k
    · rw [if_pos z]
      dsimp only
      generalize (ga_ vv low high k).2 = F at *
      generalize (ga_ vv low high k).1 = n at *
      have en : ((n.toNat : Nat) : Int) = n := by omega
      have st := gl_set (vv := vv) (key := (k : Int)) (n := n) (p := n.toNat) (F := F) (by omega)
      have sr := gl_srt (vv := vv) (key := (k : Int)) (n := n) (p := n.toNat) (F := F) (by omega) (fun i i0 i1 i2 => (h2 i i0 (by omega)).1.2) (fun i j i0 ij jn ip jp => h3 i j i0 ij (by omega)) (fun i i0 i1 => by omega)
      refine ⟨by omega, fun i i0 i1 => ?_, fun i j i0 ij j1 => sr i j i0 ij (by omega), fun q q0 q1 hq => ?_⟩
      · rcases (st _).mp ⟨i, i0, by omega, rfl⟩ with y | ⟨i', a, b, c, d⟩
        · rw [y]; exact ⟨by omega, z⟩
        · rw [← d]
          have := h2 i' a (by omega)
          exact ⟨by omega, this.2⟩
      · have : ∃ i, 0 ≤ i ∧ i ≤ n ∧ gl_ vv k n.toNat F i = q := by
          rw [st q]
          by_cases y : q = (k : Int)
          · exact Or.inl y
          · obtain ⟨i, i0, i1, i2⟩ := h4 q q0 (by omega) hq
            exact Or.inr ⟨i, i0, by omega, by omega, i2⟩
        obtain ⟨i, i0, i1, i2⟩ := this
        exact ⟨i, i0, by omega, i2⟩
    · rw [if_neg z]
      refine ⟨by omega, fun i i0 i1 => ?_, h3, fun q q0 q1 hq => ?_⟩
      · have := h2 i i0 i1
        exact ⟨by omega, this.2⟩
      · by_cases y : q = (k : Int)
        · rw [y] at hq; exact absurd hq z
        · exact h4 q q0 (by omega) hq
/-- the class -/
theorem hf_gw {x : Nat} {vv : Int → Int} {k low high : Int} {M : mm_M} (hk : 0 ≤ k ∧ k < 32) (hv : ∀ k, 0 ≤ k → k < 32 → nn_ri M (x + 14) k = vv k) : (nf_Index_hasFrom x k low high M ≠ 0 ↔ gw_ vv low high k) ∧ (nf_Index_hasFrom x k low high M = 0 ↔ ¬ gw_ vv low high k) := by
  rw [nf_hasFrom, hv k hk.1 hk.2]
  unfold gw_
  by_cases z : vv k ≠ -1 ∧ low ≤ vv k ∧ vv k ≤ high
  · rw [if_pos z]; exact ⟨⟨fun _ => z, fun _ => by decide⟩, fun w => absurd w (by decide), fun w => absurd z w⟩
  · rw [if_neg z]; exact ⟨⟨fun w => absurd rfl w, fun w => absurd w z⟩, fun _ => z, fun _ => rfl⟩
theorem ct_S_gather {s x : Nat} {low high : Int} {vv : Int → Int} {M : mm_M} {R : Int → mm_M → Prop} (hsx : x + 14 ≠ s + 89) (hv : ∀ k, 0 ≤ k → k < 32 → nn_ri M (x + 14) k = vv k)
    (h : ∀ M', fr_ (fun o _ => o = s + 89) M M' → (∀ i, 0 ≤ i → i < (ga_ vv low high 32).1 → nn_ri M' (s + 89) i = (ga_ vv low high 32).2 i) → R (ga_ vv low high 32).1 M') : nr_Store_gather s x low high M R := by
  refine ng_Store_gather _ _ _ _ _ _ ?_
  have L : ∀ k : Int, k ≤ 32 → 0 ≤ k → ∀ M1, fr_ (fun o _ => o = s + 89) M M1 → (∀ i, 0 ≤ i → i < (ga_ vv low high k.toNat).1 → nn_ri M1 (s + 89) i = (ga_ vv low high k.toNat).2 i) → nk_Store_gather_6 s x low high (ga_ vv low high k.toNat).1 k M1 R := by
    refine lp_up (fun k hk ih k0 M1 f1 g1 => ?_)
    have hv1 : ∀ k, 0 ≤ k → k < 32 → nn_ri M1 (x + 14) k = vv k := fun k k0 k1 => (fr_ri f1 hsx).trans (hv k k0 k1)
    obtain ⟨s1, s2, s3, s4⟩ := ga_spec vv low high k.toNat
    refine ng_Store_gather_6 _ _ _ _ _ _ _ _ ⟨fun c => ?_, fun c => ?_⟩
    · rw [show k.toNat = 32 by omega] at g1 ⊢
      exact h M1 f1 g1
    · obtain ⟨hf1, hf0⟩ := hf_gw (low := low) (high := high) ⟨k0, c⟩ hv1
      have ih := ih c (by omega)
      rw [show (k + 1).toNat = k.toNat + 1 by omega] at ih
      unfold ga_ at ih
      rw [show ((k.toNat : Nat) : Int) = k by omega] at ih
      refine ⟨nc_hasFrom ⟨k0, c⟩, fun z => ?_, fun z => ?_⟩
      · rw [if_neg (hf0.mp z)] at ih
        rw [mm_w_id (x := k + 1) (by omega)]
        exact ih M1 f1 g1
      · rw [if_pos (hf1.mp z)] at ih
        dsimp only at ih
        generalize hF : (ga_ vv low high k.toNat).2 = F at *
        generalize hn : (ga_ vv low high k.toNat).1 = n at *
        have L2 : ∀ p : Int, 0 ≤ p → p ≤ n → ∀ M2 G, fr_ (fun o _ => o = s + 89) M M2 → gl_ vv k p.toNat G = gl_ vv k n.toNat F → (∀ i, 0 ≤ i → i ≤ n → i ≠ p → nn_ri M2 (s + 89) i = G i ∧ 0 ≤ G i ∧ G i < 32) → nk_Store_gather_28 s x low high n k p M2 R := by
          refine lp_dn (fun p hp ih2 pn M2 G f2 e2 g2 => ?_)
          have hv2 : ∀ k, 0 ≤ k → k < 32 → nn_ri M2 (x + 14) k = vv k := fun k k0 k1 => (fr_ri f2 hsx).trans (hv k k0 k1)
          have fin : ∀ (hG : gl_ vv k p.toNat G = fun i => if i = p then k else G i), ∀ M87 : mm_M, M87 = nn_ui M2 (s + 89) p k → nk_Store_gather_6 s x low high (mm_w (n + 1)) (mm_w (k + 1)) M87 R := by
            intro hG M3 e3
            rw [mm_w_id (x := n + 1) (by omega), mm_w_id (x := k + 1) (by omega)]
            refine ih M3 (by rw [e3]; exact fr_ui f2 rfl) (fun i i0 i1 => ?_)
            rw [← e2, hG, e3, rd_ii]
            dsimp only
            by_cases y : i = p
            · rw [if_pos ⟨rfl, by rw [y]⟩, if_pos y]
            · rw [if_neg (by omega), if_neg y]; exact (g2 i i0 (by omega) y).1
          refine ng_Store_gather_28 _ _ _ _ _ _ _ _ _ ?_
          by_cases hp0 : p ≤ 0
          · have hG : gl_ vv k p.toNat G = fun i => if i = p then k else G i := by
              rw [show p.toNat = 0 by omega, show p = 0 by omega]; rfl
            exact ⟨fun _ => by omega, fun w => by omega, fun w => by omega, fun w => by omega, fun w => by omega, fun w => by omega, fun w => by omega, fun _ => fin hG, fun w => by omega⟩
          · rw [mm_w_id (x := p - 1) (by omega)]
            obtain ⟨r1, r2, r3⟩ := g2 (p - 1) (by omega) (by omega) (by omega)
            rw [r1, hv2 _ r2 r3, hv2 k k0 c]
            have eg : gl_ vv k p.toNat G = if vv k < vv (G (p - 1)) then gl_ vv k (p - 1).toNat (fun i => if i = p then G (p - 1) else G i) else fun i => if i = p then k else G i := by
              rw [show p.toNat = (p - 1).toNat + 1 by omega]
              show (if vv k < vv (G (((p - 1).toNat : Nat) : Int)) then gl_ vv k (p - 1).toNat (fun i => if i = (((p - 1).toNat : Nat) : Int) + 1 then G (((p - 1).toNat : Nat) : Int) else G i) else fun i => if i = (((p - 1).toNat : Nat) : Int) + 1 then k else G i) = _
              rw [show (((p - 1).toNat : Nat) : Int) = p - 1 by omega, show p - 1 + 1 = p by omega]
            refine ⟨fun w => by omega, fun _ => by omega, fun _ => ⟨r2, r3⟩, fun _ => ⟨k0, c⟩, fun _ => by omega, fun _ => by omega, fun _ => by omega, fun w => fin ?_, fun w => ?_⟩
            · rw [eg, if_neg (by omega)]
            · rw [mm_w_id (x := p + (-1)) (by omega), show p + (-1) = p - 1 by omega]
              rw [if_pos w.2] at eg
              intro M3 e3
              refine ih2 (by omega) (by omega) M3 (fun i => if i = p then G (p - 1) else G i) (by rw [e3]; exact fr_ui f2 rfl) (eg.symm.trans e2) (fun i i0 i1 i2 => ?_)
              rw [e3, rd_ii]
              by_cases y : i = p
              · rw [if_pos ⟨rfl, by rw [y]⟩, if_pos y]; exact ⟨rfl, r2, r3⟩
              · rw [if_neg (by omega), if_neg y]; exact g2 i i0 i1 y
        refine L2 n s1.1 (Int.le_refl _) M1 F f1 rfl (fun i i0 i1 i2 => ⟨g1 i i0 (by omega), ?_⟩)
        have := (s2 i i0 (by omega)).1
        omega
  exact L 0 (by omega) (Int.le_refl _) M (fr_refl M) (fun i i0 i1 => by have i1 : i < 0 := i1; omega)
/-- the Model -/
theorem xv_row {st n : Int} {mem : ab_V} {q : Int → ab_R} {X : ab_X} (d : dT_ st mem n q) {k : Int} (h : xv_ (lk_ mem n q) X k ≠ -1) : ∃ p, lk_ mem n q k.toNat = some p ∧ (0 ≤ p.2 ∧ p.2 < 65536) ∧ wn_ (xu_ X) p.2 (xu_ X).2.2.toNat = true ∧ su_ (xu_ X) 0 p.2 = xv_ (lk_ mem n q) X k := by
  have hr := lk_rows d k.toNat
  obtain ⟨w1, w2⟩ := wv_vk (u := xu_ X) (o := lk_ mem n q k.toNat) (fun r hr' => (hr r hr').1)
  by_cases hw : wv_ (xu_ X) (lk_ mem n q k.toNat) = true
  · obtain ⟨p, p1, p2, p3, p4⟩ := w1 hw
    exact ⟨p, p1, p2, p3, p4.symm⟩
  · exact absurd (w2 hw) h
theorem ct_M_rv {b x k n st : Int} {mem : ab_V} {q : Int → ab_R} {X : ab_X} {M : mm_M} {R : Int → mm_M → Prop} (hb : bk_ b) (hx : 0 ≤ x ∧ x + 60 < 32844) (hk : 0 ≤ k ∧ k < 32) (t : tM_ M b mem n q) (d : dT_ st mem n q) (kr : rlM_ M x (xu_ X)) (hv : xv_ (lk_ mem n q) X k ≠ -1) (h : R (xv_ (lk_ mem n q) X k) M) : nr_M_rowOf b k M (fun r1 M1 => nr_M_valueOf x r1 M1 R) := by
  obtain ⟨p, p1, p2, p3, p4⟩ := xv_row d hv
  refine ct_M_rowOf hb hk t p1 ?_
  refine ct_M_valueOf hx kr p2 ?_
  rw [p4]; exact h
theorem ct_M_wt {b x k n st : Int} {mem : ab_V} {q : Int → ab_R} {X : ab_X} {M : mm_M} {R : Int → mm_M → Prop} (hb : bk_ b) (hx : 0 ≤ x ∧ x + 60 < 32844) (hk : 0 ≤ k ∧ k < 32) (t : tM_ M b mem n q) (d : dT_ st mem n q) (kr : rlM_ M x (xu_ X)) (h1 : xv_ (lk_ mem n q) X k ≠ -1 → R 1 M) (h0 : xv_ (lk_ mem n q) X k = -1 → R 0 M) : nr_M_isWanted b x k M R := by
  have hr := lk_rows d k.toNat
  obtain ⟨w1, w2⟩ := wv_vk (u := xu_ X) (o := lk_ mem n q k.toNat) (fun r hr' => (hr r hr').1)
  refine ct_M_isWanted hb hx hk t kr (fun p hp => by have := (hr p hp).1; omega) ?_
  by_cases hw : wv_ (xu_ X) (lk_ mem n q k.toNat) = true
  · obtain ⟨p, p1, p2, p3, p4⟩ := w1 hw
    have hsu := su_in kr.1 (f := 0) ⟨by omega, by have := kr.1.1.1; omega⟩ p.2
    rw [if_pos hw]
    refine h1 ?_
    unfold xv_
    rw [p4]; omega
  · rw [if_neg hw]; exact h0 (w2 hw)
theorem ct_M_asks {i low high : Int} {T : ab_T} {X : ab_X} {M : mm_M} {R : Int → mm_M → Prop} (hi : 0 ≤ i ∧ i < 4) (t : tM_ M 0 (aTm_ T) (aTn_ T) (aTq_ T)) (d : dT_ (aTs_ T) (aTm_ T) (aTn_ T) (aTq_ T)) (kr : rlM_ M (xi_ 0 i) (xu_ X))
    (h : ∀ M', fr_ (fun o _ => o = 410) M M' → (∀ i, 0 ≤ i → i < (ga_ (xv_ (aTl_ T) X) low high 32).1 → nn_ri M' 410 i = (ga_ (xv_ (aTl_ T) X) low high 32).2 i) → R (ga_ (xv_ (aTl_ T) X) low high 32).1 M') : nr_M_asks 0 i low high M R := by
  have hx : 1784 ≤ xi_ 0 i ∧ xi_ 0 i + 855 ≤ 5204 := by unfold xi_; omega
  have fr : ∀ M1, fr_ (fun o _ => o = 410) M M1 → tM_ M1 0 (aTm_ T) (aTn_ T) (aTq_ T) ∧ rlM_ M1 (xi_ 0 i) (xu_ X) := fun M1 f1 => ⟨tM_fr f1 bk_0 (fun c z y => by omega) t, rlM_cg (fun q z0 z1 => fr_ri f1 (fun y => by omega)) kr⟩
  refine ng_M_asks _ _ _ _ _ _ ?_
  rw [at0 hi]
  generalize hvv : xv_ (aTl_ T) X = vv at *
  have hvv : xv_ (lk_ (aTm_ T) (aTn_ T) (aTq_ T)) X = vv := hvv
  have L : ∀ k : Int, k ≤ 32 → 0 ≤ k → ∀ M1, fr_ (fun o _ => o = 410) M M1 → (∀ i, 0 ≤ i → i < (ga_ vv low high k.toNat).1 → nn_ri M1 410 i = (ga_ vv low high k.toNat).2 i) → nk_M_asks_13 0 low high (xi_ 0 i) (ga_ vv low high k.toNat).1 k M1 R := by
    refine lp_up (fun k hk ih k0 M1 f1 g1 => ?_)
    obtain ⟨t1, kr1⟩ := fr M1 f1
    obtain ⟨s1, s2, s3, s4⟩ := ga_spec vv low high k.toNat
    refine ng_M_asks_13 _ _ _ _ _ _ _ _ ⟨fun c => ?_, fun c => ?_⟩
    · rw [show k.toNat = 32 by omega] at g1 ⊢
      exact h M1 f1 g1
    · have ih := ih c (by omega)
      rw [show (k + 1).toNat = k.toNat + 1 by omega] at ih
      unfold ga_ at ih
      rw [show ((k.toNat : Nat) : Int) = k by omega] at ih
      have no : ¬ gw_ vv low high k → nk_M_asks_13 0 low high (xi_ 0 i) (ga_ vv low high k.toNat).1 (mm_w (k + 1)) M1 R := by
        intro z
        rw [if_neg z] at ih
        rw [mm_w_id (x := k + 1) (by omega)]
        exact ih M1 f1 g1
      refine ct_M_wt (X := X) bk_0 ⟨by omega, by omega⟩ ⟨k0, c⟩ t1 d kr1 (fun z => ?_) (fun z => ?_)
      · rw [hvv] at z
        refine ⟨fun _ => ?_, fun w => absurd w (by decide)⟩
        refine ct_M_rv (X := X) bk_0 ⟨by omega, by omega⟩ ⟨k0, c⟩ t1 d kr1 (by rw [hvv]; exact z) ?_
        rw [hvv, k_in, k_in0]
        refine ⟨fun w => ?_, fun w => no (fun y => w y.2)⟩
        rw [if_pos ⟨z, w⟩] at ih
        dsimp only at ih
        generalize hF : (ga_ vv low high k.toNat).2 = F at *
        generalize hn : (ga_ vv low high k.toNat).1 = n at *
        have L2 : ∀ p : Int, 0 ≤ p → p ≤ n → ∀ M2 G, fr_ (fun o _ => o = 410) M M2 → gl_ vv k p.toNat G = gl_ vv k n.toNat F → (∀ i, 0 ≤ i → i ≤ n → i ≠ p → nn_ri M2 410 i = G i ∧ (0 ≤ G i ∧ G i < 32) ∧ vv (G i) ≠ -1) → nk_M_asks_68 0 low high (xi_ 0 i) n k (vv k) p M2 R := by
          refine lp_dn (fun p hp ih2 pn M2 G f2 e2 g2 => ?_)
          obtain ⟨t2, kr2⟩ := fr M2 f2
          have fin : ∀ (hG : gl_ vv k p.toNat G = fun i => if i = p then k else G i), ((0 : Int) ≤ p ∧ p < (32 : Int)) ∧ ∀ M87 : mm_M, M87 = nn_ui M2 410 p k → nk_M_asks_13 0 low high (xi_ 0 i) (mm_w (n + 1)) (mm_w (k + 1)) M87 R := by
            intro hG
            refine ⟨by omega, ?_⟩
            intro M3 e3
            rw [mm_w_id (x := n + 1) (by omega), mm_w_id (x := k + 1) (by omega)]
            refine ih M3 (by rw [e3]; exact fr_ui f2 rfl) (fun i i0 i1 => ?_)
            rw [← e2, hG, e3, rd_ii]
            dsimp only
            by_cases y : i = p
            · rw [if_pos ⟨rfl, by rw [y]⟩, if_pos y]
            · rw [if_neg (by omega), if_neg y]; exact (g2 i i0 (by omega) y).1
          refine ng_M_asks_68 _ _ _ _ _ _ _ _ _ _ ⟨fun hp0 => fin ?_, fun hp0 => ?_⟩
          · rw [show p.toNat = 0 by omega, show p = 0 by omega]; rfl
          · rw [mm_w_id (x := p - 1) (by omega)]
            obtain ⟨r1, r2, r3⟩ := g2 (p - 1) (by omega) (by omega) (by omega)
            rw [r1]
            have eg : gl_ vv k p.toNat G = if vv k < vv (G (p - 1)) then gl_ vv k (p - 1).toNat (fun i => if i = p then G (p - 1) else G i) else fun i => if i = p then k else G i := by
              rw [show p.toNat = (p - 1).toNat + 1 by omega]
              show (if vv k < vv (G (((p - 1).toNat : Nat) : Int)) then gl_ vv k (p - 1).toNat (fun i => if i = (((p - 1).toNat : Nat) : Int) + 1 then G (((p - 1).toNat : Nat) : Int) else G i) else fun i => if i = (((p - 1).toNat : Nat) : Int) + 1 then k else G i) = _
              rw [show (((p - 1).toNat : Nat) : Int) = p - 1 by omega, show p - 1 + 1 = p by omega]
            refine ⟨by omega, ?_⟩
            refine ct_M_rv (X := X) bk_0 ⟨by omega, by omega⟩ r2 t2 d kr2 (by rw [hvv]; exact r3) ?_
            rw [hvv]
            refine ⟨fun w => fin ?_, fun w => ⟨by omega, by omega, ?_⟩⟩
            · rw [eg, if_neg (by omega)]
            · rw [mm_w_id (x := p + (-1)) (by omega), show p + (-1) = p - 1 by omega, r1]
              rw [if_pos w] at eg
              intro M3 e3
              refine ih2 (by omega) (by omega) M3 (fun i => if i = p then G (p - 1) else G i) (by rw [e3]; exact fr_ui f2 rfl) (eg.symm.trans e2) (fun i i0 i1 i2 => ?_)
              rw [e3, rd_ii]
              by_cases y : i = p
              · rw [if_pos ⟨rfl, by rw [y]⟩, if_pos y]; exact ⟨rfl, r2, r3⟩
              · rw [if_neg (by omega), if_neg y]; exact g2 i i0 i1 y
        refine L2 n s1.1 (Int.le_refl _) M1 F f1 rfl (fun i i0 i1 i2 => ⟨g1 i i0 (by omega), ?_⟩)
        have := s2 i i0 (by omega)
        exact ⟨by omega, this.2.1⟩
      · rw [hvv] at z
        exact ⟨fun w => absurd rfl w, fun _ => no (fun y => y.1 z)⟩
  exact L 0 (by omega) (Int.le_refl _) M (fr_refl M) (fun i i0 i1 => by have i1 : i < 0 := i1; omega)
