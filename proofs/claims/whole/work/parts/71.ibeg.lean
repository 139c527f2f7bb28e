/-! the class's Index: a beginning -/
/-- the value of what LATEST has -/
def vk_ (u : ab_U) (o : Option (Int × Int)) : Int := match o with
  | some p => if p.2 = -1 then -1 else va_ u p.2
  | none => -1
/-- rows that can be -/
def vr2_ (V : ab_V) : Prop := ∀ k p, V k = some p → (p.2 = -1 ∨ (0 ≤ p.2 ∧ p.2 < 65536)) ∧ 0 < p.1 ∧ p.1 < 2147483648
theorem nf_isThere {M : mm_M} {v : Nat} {k : Int} (hk : 0 ≤ k ∧ k < 32) : nc_Versions_isThere v k M ∧ ((nf_Versions_isThere v k M = 0 ∧ (cv_ M v k.toNat = none ∨ ∃ s, cv_ M v k.toNat = some (s, -1))) ∨ (nf_Versions_isThere v k M = 1 ∧ ∃ p, cv_ M v k.toNat = some p ∧ p.2 ≠ -1 ∧ nn_ri M (v + 1) k = p.2 ∧ nn_ri M (v + 2) k = p.1)) := by
  refine ⟨fun _ => hk, ?_⟩
  unfold nf_Versions_isThere
  by_cases h0 : nf_Versions_has v k M = 0
  · rw [if_pos h0]
    exact Or.inl ⟨rfl, Or.inl ((hs0 hk).mp h0)⟩
  · rw [if_neg h0]
    have e := cv_rd hk h0
    by_cases h1 : nn_ri M (v + 1) k = -1
    · rw [if_pos h1]
      exact Or.inl ⟨rfl, Or.inr ⟨_, by rw [e, h1]⟩⟩
    · rw [if_neg h1]
      exact Or.inr ⟨rfl, _, e, h1, rfl, rfl⟩
def ib_ (x o b : Nat) : Prop := (o = x ∧ (b = 5 ∨ b = 8 ∨ b = 9)) ∨ (o = x + 4 ∧ b = 1) ∨ (o = x + 6 ∧ b = 1) ∨ (o = x + 8 ∧ b = 5) ∨ o = x + 14
theorem ct_I_begin {x t : Nat} {M : mm_M} {R : mm_M → Prop} {u : ab_U} {lat : ab_V} (htx : t + 82 ≤ x) (ku : rl_ M (x + 1) u) (hsg : ∀ a, 0 ≤ a → a < u.2.2 → u.2.1 a = 10 ∨ u.2.1 a = 11 ∨ u.2.1 a = 12) (hl : cv_ M (t + 4) = lat) (hr : vr2_ lat)
    (h : ∀ M', fr_ (ib_ x) M M' → nn_rf M' x 5 = (if nn_rf M t 6 = 0 then 2 else 1) → nn_rf M' x 8 = nn_rf M t 6 → nn_rf M' x 9 = (if nn_rf M t 6 = 0 then 32 else 0) → nn_rf M' (x + 4) 1 = 0 → nn_rf M' (x + 6) 1 = 0 → nn_rf M' (x + 8) 5 = 0 → (∀ k, 0 ≤ k → k < 32 → nn_ri M' (x + 14) k = vk_ u (lat k.toNat)) → R M') : nr_Index_begin x t M R := by
  have L : ∀ M1, fr_ (fun o b => (o = x ∧ (b = 5 ∨ b = 8 ∨ b = 9)) ∨ (o = x + 4 ∧ b = 1) ∨ (o = x + 6 ∧ b = 1) ∨ (o = x + 8 ∧ b = 5)) M M1 → nn_rf M1 x 5 = (if nn_rf M t 6 = 0 then 2 else 1) → nn_rf M1 x 8 = nn_rf M t 6 → nn_rf M1 x 9 = (if nn_rf M t 6 = 0 then 32 else 0) → nn_rf M1 (x + 4) 1 = 0 → nn_rf M1 (x + 6) 1 = 0 → nn_rf M1 (x + 8) 5 = 0 → nk_Index_begin_68 x t 0 M1 R := by
    intro M1 f1 b1 b2 b3 b4 b5 b6
    have kb : ∀ i : Int, i ≤ 32 → 0 ≤ i → ∀ M2, fr_ (fun o _ => o = x + 14) M1 M2 → (∀ k, 0 ≤ k → k < i → nn_ri M2 (x + 14) k = vk_ u (lat k.toNat)) → nk_Index_begin_68 x t i M2 R := by
      refine lp_up (fun i hi ih h0 M2 f2 g2 => ?_)
      refine ng_Index_begin_68 _ _ _ _ _ ⟨fun c => ?_, fun c => ?_⟩
      · have fr12 : fr_ (ib_ x) M M2 := fr_trans (fr_mono f1 (fun o b z => by unfold ib_; omega)) (fr_mono f2 (fun o b z => by unfold ib_; omega))
        refine h M2 fr12 ((fr_rf f2 (by omega)).trans b1) ((fr_rf f2 (by omega)).trans b2) ((fr_rf f2 (by omega)).trans b3) ((fr_rf f2 (by omega)).trans b4) ((fr_rf f2 (by omega)).trans b5) ((fr_rf f2 (by omega)).trans b6) (fun k k0 k1 => g2 k k0 (by omega))
      have hb : 0 ≤ i ∧ i < 32 := ⟨h0, c⟩
      have far : ∀ o b, vr_ (t + 4) o b → ¬ (fun o (_ : Nat) => o = x + 14) o b := fun o b z z2 => by have := z.2; omega
      have e4 : cv_ M2 (t + 4) = lat := by
        rw [cv_fr f2 far, cv_fr f1 (fun o b z z2 => by have := z.2; omega)]
        exact hl
      obtain ⟨nc, hth⟩ := nf_isThere (M := M2) (v := t + 4) hb
      rw [mm_w_id (x := i + 1) (by omega)]
      have put : ∀ val, val = vk_ u (lat i.toNat) → nk_Index_begin_68 x t (i + 1) (nn_ui M2 (x + 14) i val) R := by
        intro val hval
        refine ih c (by omega) _ (fr_ui f2 rfl) (fun k k0 k1 => ?_)
        rw [rd_ii]
        by_cases z : k = i
        · rw [if_pos ⟨rfl, by rw [z]⟩, hval, z]
        · rw [if_neg (by omega)]; exact g2 k k0 (by omega)
      refine ⟨nc, fun q => ⟨hb, ?_⟩, fun q => ⟨hb, ?_⟩⟩
      · rintro _ rfl
        refine put _ ?_
        rcases hth with ⟨_, w | ⟨s, w⟩⟩ | ⟨w, _⟩
        · rw [e4] at w; rw [w]; rfl
        · rw [e4] at w; rw [w]; rfl
        · omega
      · rcases hth with ⟨w, _⟩ | ⟨_, p, w1, w2, w3, w4⟩
        · omega
        rw [e4] at w1
        have hp := (hr _ _ w1).1.resolve_left w2
        have e5 : nn_ri M2 (t + 5) i = p.2 := w3
        rw [e5]
        have ku2 : rl_ M2 (x + 1) u := rl_fr f2 (fun o b h1 h2 z => by omega) (rl_fr f1 (fun o b h1 h2 z => by omega) ku)
        refine ct_R_valueOf ku2 hsg hp ⟨hb, ?_⟩
        rintro _ rfl
        refine put _ ?_
        rw [w1]
        show va_ u p.2 = if p.2 = -1 then -1 else va_ u p.2
        rw [if_neg w2]
    exact kb 0 (by omega) (Int.le_refl _) M1 (fr_refl M1) (fun k k0 k1 => by omega)
  refine ng_Index_begin _ _ _ _ ⟨fun c => ?_, fun c => ?_⟩
  · rintro _ rfl
    rw [show nn_rf (nn_uf M x 5 1) t 6 = nn_rf M t 6 by rw [rd_ff, if_neg (by omega)]]
    rintro _ rfl
    have e5 : nn_rf (nn_uf (nn_uf M x 5 1) x 8 (nn_rf M t 6)) x 5 = 1 := by rw [rd_ff, if_neg (by omega), rd_ff, if_pos ⟨rfl, rfl⟩]
    rw [e5]
    refine ⟨fun _ => ?_, fun z => absurd z (by decide)⟩
    rintro _ rfl _ rfl _ rfl _ rfl
    refine L _ ?_ ?_ ?_ ?_ ?_ ?_ ?_
    · exact fr_uf (fr_uf (fr_uf (fr_uf (fr_uf (fr_uf (fr_refl M) (by omega)) (by omega)) (by omega)) (by omega)) (by omega)) (by omega)
    · rw [if_neg c]; simp [rd_ff]
    · simp [rd_ff]
    · rw [if_neg c]; simp [rd_ff]
    · simp [rd_ff]
    · simp [rd_ff]
    · simp [rd_ff]
  · rintro _ rfl
    rw [show nn_rf (nn_uf M x 5 2) t 6 = nn_rf M t 6 by rw [rd_ff, if_neg (by omega)]]
    rintro _ rfl
    have e5 : nn_rf (nn_uf (nn_uf M x 5 2) x 8 (nn_rf M t 6)) x 5 = 2 := by rw [rd_ff, if_neg (by omega), rd_ff, if_pos ⟨rfl, rfl⟩]
    rw [e5]
    refine ⟨fun z => absurd rfl z, fun _ => ?_⟩
    rintro _ rfl _ rfl _ rfl _ rfl
    refine L _ ?_ ?_ ?_ ?_ ?_ ?_ ?_
    · exact fr_uf (fr_uf (fr_uf (fr_uf (fr_uf (fr_uf (fr_refl M) (by omega)) (by omega)) (by omega)) (by omega)) (by omega)) (by omega)
    · rw [if_pos c]; simp [rd_ff]
    · simp [rd_ff]
    · rw [if_pos c]; simp [rd_ff]
    · simp [rd_ff]
    · simp [rd_ff]
    · simp [rd_ff]
