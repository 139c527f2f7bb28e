/-! the class's Store: a flush whole -/
def lf_ (t x o b : Nat) : Prop := (o = t ∧ b = 8) ∨ (x + 4 ≤ o ∧ o < x + 14)
theorem es_same {M M' : mm_M} {v : Nat} {S : Int → Prop} (h1 : nn_rf M' v 1 = nn_rf M v 1) (h2 : ∀ i, nn_ri M' (v + 1) i = nn_ri M (v + 1) i) (k : es_ M v S) : es_ M' v S := by
  obtain ⟨a, b, c⟩ := k
  refine ⟨by rw [h1]; exact a, by rw [h1]; exact b, ?_⟩
  rw [h1]
  exact rp_cg c (fun i _ _ => h2 i)
theorem ct_X_lay {t x : Nat} {st nb bd : Int} {mem lat : ab_V} {c : Int × Int} {X : ab_X} {M : mm_M} {R : mm_M → Prop} (hx : xk_ x) (htx : t + 82 ≤ x) (k : cX_ M x lat X) (h0 : xh_ X ≠ 0) (w : wX_ nb bd X) (hnb : nb < 24) (h6 : nn_rf M t 6 = st) (h8 : nn_rf M t 8 = c.1) (hmem : cv_ M (t + 1) = mem) (hc : 0 ≤ c.1 ∧ c.1 < 2000000000)
    (h : ∀ M', fr_ (lf_ t x) M M' → nn_rf M' t 8 = (lay_ st mem c X).1.1 → cX_ M' x lat (lay_ st mem c X).2 → R M') : nr_Index_layDown x t M R := by
  obtain ⟨w1, w2, w3, w4, w5⟩ := w h0
  obtain ⟨k0, ks, k1⟩ := k
  obtain ⟨⟨a1, a2, a3, a4⟩, b, e1, ⟨e2, e3⟩, p, vv⟩ := k1 h0
  have z1 := es_cz e1 w1
  have z2 := pl_pz p w2
  refine ct_I_layDown (c.2 + 1) hx htx e1 w1 p (by omega) (by rw [show x + 10 = x + 8 + 2 by omega, z1, z2]; omega) (by omega) (fun M' n' g' u v1 v2 v3 v4 v5 v6 _ v7 => ?_)
  rw [hmem] at v4 v5
  rw [h8] at v1 v5
  rw [h6] at v5
  have rf : ∀ o b, x ≤ o → o < x + 4 → nn_rf M' o b = nn_rf M o b := fun o b z z2 => fr_rf u (fun y => by omega)
  have fin : cX_ M' x lat (X.1, X.2.1, (fun _ => False), X.2.2.2.1, X.2.2.2.2.1, n', g') := by
    refine ⟨(rf _ _ (by omega) (by omega)).trans k0, v6.2.1.1, fun _ => ⟨⟨(rf _ _ (by omega) (by omega)).trans a1, (rf _ _ (by omega) (by omega)).trans a2, (rf _ _ (by omega) (by omega)).trans a3, (rf _ _ (by omega) (by omega)).trans a4⟩, rl_fr u (fun o b z z2 y => by omega) b, v2, ⟨es_same v7.1 v7.2 e2, v7.1.trans e3⟩, v6, fun j j0 j1 => ?_⟩⟩
    rw [fr_ri u (fun y => by omega)]
    exact vv j j0 j1
  by_cases hy : ∃ y, xA_ X y ∧ fs_ mem y = true
  · obtain ⟨q1, q2⟩ := v5 hy
    rw [lay_1 h0 hy] at h
    rw [q1, q2] at fin
    exact h M' u v1 fin
  · obtain ⟨q1, q2⟩ := v4 hy
    rw [lay_2 h0 hy] at h
    rw [q1, q2] at fin
    exact h M' u v1 fin
theorem ct_X_mrg {t x : Nat} {fan st bd : Int} {lat latv : ab_V} {c : Int × Int} {X : ab_X} {M : mm_M} {R : mm_M → Prop} (hx : xk_ x) (htx : t + 82 ≤ x) (hfan : 2 ≤ fan ∧ fan ≤ 4) (k : cX_ M x latv X) (h0 : xh_ X ≠ 0) (w2 : vl_ (xn_ X) (xg_ X)) (w5 : ∀ r, 0 ≤ r → r < xn_ X → -1 ≤ plv_ (xg_ X) r ∧ plv_ (xg_ X) r ≤ bd) (hbd : 0 ≤ bd ∧ bd < 1000000000) (h6 : nn_rf M t 6 = st) (h8 : nn_rf M t 8 = c.1) (hlat : cv_ M (t + 4) = lat) (hc : 0 ≤ c.1 ∧ c.1 < 1000000000)
    (h : ∀ M', fr_ (lf_ t x) M M' → nn_rf M' t 8 = (mrg_ fan st lat c X).1.1 → cX_ M' x latv (mrg_ fan st lat c X).2 → R M') : nr_Pile_mergeLevels (x + 8) fan (nn_rf M x 7) t M R := by
  obtain ⟨k0, ks, k1⟩ := k
  obtain ⟨⟨a1, a2, a3, a4⟩, b, e1, ⟨e2, e3⟩, p, vv⟩ := k1 h0
  rw [a2]
  refine ct_P_mergeLevels (w := (xn_ X, c.1, c.2, xg_ X)) (b := bd) (lat := lat) (by omega) (show mm_kd (x + 8 + 3) = _ by rw [show x + 8 + 3 = x + 11 by omega]; exact hx.2.2) hfan p h8 w2 hlat ⟨w5, hbd⟩ hc (fun M' u v1 v2 v3 => ?_)
  rw [h6] at v1 v2
  rw [mrg_1 h0] at h
  have u' : fr_ (lf_ t x) M M' := fr_mono u (fun o b z => by unfold pq_ at z; unfold lf_; omega)
  have rf : ∀ o b, x ≤ o → o < x + 8 → nn_rf M' o b = nn_rf M o b := fun o b z z2 => fr_rf u (fun y => by unfold pq_ at y; omega)
  refine h M' u' v1 ⟨(rf _ _ (by omega) (by omega)).trans k0, v2.2.1.1, fun _ => ⟨⟨(rf _ _ (by omega) (by omega)).trans a1, (rf _ _ (by omega) (by omega)).trans a2, (rf _ _ (by omega) (by omega)).trans a3, (rf _ _ (by omega) (by omega)).trans a4⟩, rl_fr u (fun o b z z2 y => by unfold pq_ at y; omega) b, es_fr u (fun o b z y => by have := z.1; have := z.2; unfold pq_ at y; omega) e1, ⟨es_fr u (fun o b z y => by have := z.1; have := z.2; unfold pq_ at y; omega) e2, (rf _ _ (by omega) (by omega)).trans e3⟩, v2, fun j j0 j1 => ?_⟩⟩
  rw [fr_ri u (fun y => by unfold pq_ at y; omega)]
  exact vv j j0 j1
/-- ids do not grow by much -/
theorem lay_c {st : Int} {mem : ab_V} {c : Int × Int} {X : ab_X} : c.1 ≤ (lay_ st mem c X).1.1 ∧ (lay_ st mem c X).1.1 ≤ c.1 + 1 ∧ c.2 ≤ (lay_ st mem c X).1.2 ∧ (lay_ st mem c X).1.2 ≤ c.2 + 1 := by
  by_cases h0 : xh_ X = 0
  · rw [lay_0 h0]; dsimp only; omega
  by_cases hy : ∃ y, xA_ X y ∧ fs_ mem y = true
  · rw [lay_1 h0 hy]; dsimp only; omega
  · rw [lay_2 h0 hy]; dsimp only; omega
theorem mrg_c {fan st bd : Int} {lat : ab_V} {c : Int × Int} {X : ab_X} (hfan : 2 ≤ fan) (hb : -1 ≤ bd) (hn : xh_ X ≠ 0 → 0 ≤ xn_ X ∧ xn_ X ≤ 24) (hl : xh_ X ≠ 0 → ∀ r, 0 ≤ r → r < xn_ X → -1 ≤ plv_ (xg_ X) r ∧ plv_ (xg_ X) r ≤ bd) : c.1 ≤ (mrg_ fan st lat c X).1.1 ∧ (mrg_ fan st lat c X).1.1 ≤ c.1 + 25 ∧ c.2 ≤ (mrg_ fan st lat c X).1.2 ∧ (mrg_ fan st lat c X).1.2 ≤ c.2 + 25 := by
  by_cases h0 : xh_ X = 0
  · rw [mrg_0 h0]; dsimp only; omega
  have := pmf_bd (fan := fan) (mends := xm_ X) (stamp := st) (lat := lat) (w := (xn_ X, c.1, c.2, xg_ X)) hfan hb (hn h0) (hl h0)
  rw [mrg_1 h0]
  dsimp only at this ⊢
  omega
theorem fd_c {F : Int × Int → ab_X → (Int × Int) × ab_X} {s : (Int × Int) × (Int → ab_X)} {a : Int} {P : ab_X → Prop} (hP : ∀ i, 0 ≤ i → i < 4 → P (s.2 i)) (h : ∀ c X, P X → c.1 ≤ (F c X).1.1 ∧ (F c X).1.1 ≤ c.1 + a ∧ c.2 ≤ (F c X).1.2 ∧ (F c X).1.2 ≤ c.2 + a) : ∀ k : Nat, k ≤ 4 → s.1.1 ≤ (fd_ F s k).1.1 ∧ (fd_ F s k).1.1 ≤ s.1.1 + a * k ∧ s.1.2 ≤ (fd_ F s k).1.2 ∧ (fd_ F s k).1.2 ≤ s.1.2 + a * k
  | 0, _ => by
    show s.1.1 ≤ s.1.1 ∧ s.1.1 ≤ s.1.1 + a * ((0 : Nat) : Int) ∧ s.1.2 ≤ s.1.2 ∧ s.1.2 ≤ s.1.2 + a * ((0 : Nat) : Int)
    simp
  | k + 1, hk => by
    have ih := fd_c hP h k (by omega)
    have e : (fd_ F s k).2 k = s.2 k := fd_ge F s k _ (Int.le_refl _)
    have h1 := h (fd_ F s k).1 ((fd_ F s k).2 k) (by rw [e]; exact hP _ (by omega) (by omega))
    have e2 : a * ((k + 1 : Nat) : Int) = a * (k : Int) + a := by
      rw [show ((k + 1 : Nat) : Int) = (k : Int) + 1 by omega, Int.mul_add, Int.mul_one]
    show s.1.1 ≤ (F (fd_ F s k).1 ((fd_ F s k).2 k)).1.1 ∧ (F (fd_ F s k).1 ((fd_ F s k).2 k)).1.1 ≤ _ ∧ s.1.2 ≤ (F (fd_ F s k).1 ((fd_ F s k).2 k)).1.2 ∧ (F (fd_ F s k).1 ((fd_ F s k).2 k)).1.2 ≤ _
    rw [e2]
    omega
def sf_ (s o b : Nat) : Prop := (tr_ (s + 3) o b ∧ (o = s + 3 → b = 5 ∨ b = 7 ∨ b = 8)) ∨ (s + 90 ≤ o ∧ o < s + 150)
/-- LATEST may lose what is gone: the indexes' pictures stay -/
theorem cX_lat {M : mm_M} {x : Nat} {lat lat' : ab_V} {X : ab_X} (h : ∀ k, k < 32 → ∀ u, vk_ u (lat' k) = vk_ u (lat k)) (k : cX_ M x lat X) : cX_ M x lat' X := by
  obtain ⟨k0, ks, k1⟩ := k
  refine ⟨k0, ks, fun h0 => ?_⟩
  obtain ⟨a, b, e1, e2, p, vv⟩ := k1 h0
  refine ⟨a, b, e1, e2, p, fun j j0 j1 => ?_⟩
  rw [h _ (by omega)]
  exact vv j j0 j1
theorem vk_lg {sure : Int} {x l : Option (Int × Int)} (u : ab_U) (h : ∀ p r, x = some p → l = some r → p.1 = r.1 → p.2 = r.2) : vk_ u (lg_ sure x l) = vk_ u l := by
  cases l with
  | none => cases x <;> rfl
  | some r =>
    cases x with
    | none => rfl
    | some p =>
      unfold lg_
      dsimp only
      by_cases z : (p.2 = -1 ∧ (sure = -1 ∨ p.1 ≤ sure)) ∧ r.1 = p.1
      · rw [if_pos z]
        have := h p r rfl rfl z.2.symm
        show (-1 : Int) = if r.2 = -1 then -1 else va_ u r.2
        rw [if_pos (by rw [← this]; exact z.1.1)]
      · rw [if_neg z]
