/-! the class's Index: entries come, a run is laid down, what is kept aside becomes one -/
def xk_ (x : Nat) : Prop := mm_kd (x + 5) = (21, 12) ∧ mm_kd (x + 7) = (21, 32) ∧ mm_kd (x + 11) = (20, 24)
theorem kd12 {x : Nat} (h : xk_ x) : ((mm_kd (x + 5)).2 : Int) = 12 := by rw [h.1]; rfl
theorem kd32 {x : Nat} (h : xk_ x) : ((mm_kd (x + 7)).2 : Int) = 32 := by rw [h.2.1]; rfl
theorem ct_I_keepAside {x v : Nat} {key : Int} {M : mm_M} {R : mm_M → Prop} {A : Int → Prop} (hx : xk_ x) (hk : 0 ≤ key ∧ key < 32) (hs : es_ M (x + 6) A) (hcap : nn_rf M (x + 6) 1 < 32) (hv : -1 ≤ nn_ri M (x + 14) key ∧ nn_ri M (x + 14) key < 10000) (hst : nn_ri M (x + 14) key ≠ -1 → 0 ≤ nn_ri M (v + 2) key ∧ nn_ri M (v + 2) key < 2147483648) (hn : nn_ri M (x + 14) key ≠ -1 → ¬ A (en_ (nn_ri M (x + 14) key) key (nn_ri M (v + 2) key)))
    (h0 : nn_ri M (x + 14) key = -1 → R M) (h1 : nn_ri M (x + 14) key ≠ -1 → ∀ M', fr_ (er_ (x + 6)) M M' → es_ M' (x + 6) (fun y => y = en_ (nn_ri M (x + 14) key) key (nn_ri M (v + 2) key) ∨ A y) → nn_rf M' (x + 6) 1 = nn_rf M (x + 6) 1 + 1 → R M') : nr_Index_keepAside x key v M R := by
  refine ng_Index_keepAside _ _ _ _ _ ⟨hk, fun c => h0 c, fun c => ⟨hk, hk, ?_⟩⟩
  rw [nf_entryOf ⟨by omega, hv.2⟩ hk (hst c)]
  exact ct_E_add hs (hn c) (by rw [show x + 6 + 1 = x + 7 by omega, kd32 hx]; exact hcap) (by rw [show x + 6 + 1 = x + 7 by omega, kd32 hx]; omega) (fun M' f e1 e2 => h1 c M' f e1 e2)
def tak_ (x o _b : Nat) : Prop := o = x + 4 ∨ o = x + 5 ∨ o = x + 14
theorem ct_I_take {x : Nat} {key row stamp : Int} {M : mm_M} {R : mm_M → Prop} {u : ab_U} {S : Int → Prop} (hx : xk_ x) (hk : 0 ≤ key ∧ key < 32) (hrow : row = -1 ∨ (0 ≤ row ∧ row < 65536)) (hst : 0 ≤ stamp ∧ stamp < 2147483648) (ku : rl_ M (x + 1) u) (hsg : ∀ a, 0 ≤ a → a < u.2.2 → u.2.1 a = 10 ∨ u.2.1 a = 11 ∨ u.2.1 a = 12) (hs : es_ M (x + 4) S) (hcap : nn_rf M (x + 4) 1 < 12) (hn : row ≠ -1 → ¬ S (en_ (va_ u row) key stamp))
    (h0 : ∀ M', (row = -1 ∨ va_ u row = -1) → fr_ (fun o b => o = x + 14 ∧ b = key.toNat) M M' → nn_ri M' (x + 14) key = -1 → R M')
    (h1 : ∀ M', row ≠ -1 → va_ u row ≠ -1 → fr_ (fun o b => o = x + 4 ∨ o = x + 5 ∨ (o = x + 14 ∧ b = key.toNat)) M M' → nn_ri M' (x + 14) key = va_ u row → es_ M' (x + 4) (fun y => y = en_ (va_ u row) key stamp ∨ S y) → nn_rf M' (x + 4) 1 = nn_rf M (x + 4) 1 + 1 → R M') : nr_Index_take x key row stamp M R := by
  refine ng_Index_take _ _ _ _ _ _ ⟨fun c => ?_, fun c => ⟨hk, ?_⟩⟩
  · have hr := hrow.resolve_left c
    refine ct_R_valueOf ku hsg hr ⟨hk, ?_⟩
    rintro _ rfl
    have u1 : fr_ (fun o b => o = x + 14 ∧ b = key.toNat) M (nn_ui M (x + 14) key (va_ u row)) := fr_ui (fr_refl M) ⟨rfl, rfl⟩
    have vin := va_in ku.1 row
    have e14 : nn_ri (nn_ui M (x + 14) key (va_ u row)) (x + 14) key = va_ u row := by rw [rd_ii, if_pos ⟨rfl, rfl⟩]
    refine ⟨fun z => ?_, fun z => ?_⟩
    · exact h0 _ (Or.inr z) u1 (by rw [e14]; exact z)
    · rw [nf_entryOf ⟨by omega, by omega⟩ hk hst]
      have s1 : es_ (nn_ui M (x + 14) key (va_ u row)) (x + 4) S := es_fr u1 (fun o b z1 z2 => by have := z1.1; have := z1.2; omega) hs
      have e4 : nn_rf (nn_ui M (x + 14) key (va_ u row)) (x + 4) 1 = nn_rf M (x + 4) 1 := fr_rf u1 (by omega)
      refine ct_E_add s1 (hn c) (by rw [e4, show x + 4 + 1 = x + 5 by omega, kd12 hx]; exact hcap) (by rw [show x + 4 + 1 = x + 5 by omega, kd12 hx]; omega) (fun M' f e1 e2 => ?_)
      refine h1 M' c z (fr_trans (fr_mono u1 (fun o b y => Or.inr (Or.inr y))) (fr_mono f (fun o b y => by have := y.1; have := y.2; omega))) ?_ e1 (by rw [e2, e4])
      rw [fr_ri f (fun y => by have := y.1; have := y.2; omega)]
      exact e14
  · rintro _ rfl
    refine h0 _ (Or.inl c) (fr_ui (fr_refl M) ⟨rfl, rfl⟩) ?_
    rw [rd_ii, if_pos ⟨rfl, rfl⟩]
theorem rp_ss {n : Int} {e : Int → Int} {S : Int → Prop} (h : rp_ n e S) : ss_ e 0 n := fun i j i0 i1 i2 => h.2.2 i j i0 i1 i2
theorem ss_rp {n : Int} {e : Int → Int} {S : Int → Prop} (h : ss_ e 0 n) (k : ∀ x, sg_ e 0 n x ↔ S x) : rp_ n e S := ⟨fun i i0 i1 => (k _).mp ⟨i, i0, i1, rfl⟩, fun x hx => (k x).mpr hx, fun i j i0 i1 i2 => h i j i0 i1 i2⟩
/-- a MEMORY becomes the newest RUN: those of its entries that are fresh in the Table's own MEMORY -/
theorem ct_I_layDown {x t : Nat} {n : Int} (mid : Int) {M : mm_M} {R : mm_M → Prop} {S : Int → Prop} {g : Int → ab_P} (hx : xk_ x) (htx : t + 82 ≤ x) (hs : es_ M (x + 4) S) (hve : ∀ y, S y → ve_ y) (k : pl_ M (x + 8) n g) (hn : n < 24) (hcap : nn_ri M (x + 10) n + nn_rf M (x + 4) 1 ≤ 144) (hid : -2147483648 ≤ nn_rf M t 8 + 1 ∧ nn_rf M t 8 + 1 < 2147483648)
    (h : ∀ M' n' g', fr_ (fun o b => (o = t ∧ b = 8) ∨ (x + 4 ≤ o ∧ o < x + 14)) M M' → nn_rf M' t 8 = nn_rf M t 8 + 1 → es_ M' (x + 4) (fun _ => False) → nn_rf M' (x + 4) 1 = 0 → ((¬ ∃ y, S y ∧ fs_ (cv_ M (t + 1)) y = true) → n' = n ∧ g' = g) → ((∃ y, S y ∧ fs_ (cv_ M (t + 1)) y = true) → n' = n + 1 ∧ g' = inP_ 0 (nn_rf M t 8 + 1, mid, 0, nn_rf M t 6, fun y => S y ∧ fs_ (cv_ M (t + 1)) y = true) g) → pl_ M' (x + 8) n' g' → (∀ r, fr_ (fun o b => o = x + 6 ∨ o = x + 7) M M' → r = 0 → True) → nn_rf M' (x + 6) 1 = nn_rf M (x + 6) 1 ∧ (∀ i, nn_ri M' (x + 7) i = nn_ri M (x + 7) i) → R M') : nr_Index_layDown x t M R := by
  obtain ⟨z0, z1, z2⟩ := hs
  have k12 := kd12 hx
  rw [show x + 4 + 1 = x + 5 by omega] at z1 z2
  rw [k12] at z1
  refine ng_Index_layDown _ _ _ _ ?_
  have L : ∀ i : Int, i ≤ nn_rf M (x + 4) 1 → 0 ≤ i → ∀ kk M1, 0 ≤ kk → kk ≤ i → fr_ (fun o _ => o = x + 5) M M1 → ss_ (nn_ri M1 (x + 5)) 0 kk → (∀ j, i ≤ j → nn_ri M1 (x + 5) j = nn_ri M (x + 5) j) → (∀ y, sg_ (nn_ri M1 (x + 5)) 0 kk y ↔ ∃ j, 0 ≤ j ∧ j < i ∧ nn_ri M (x + 5) j = y ∧ fs_ (cv_ M (t + 1)) y = true) → nk_Index_layDown_4 x t kk i M1 R := by
    refine lp_up (fun i hi ih h0 kk M1 k0 k1 f1 s1 g1 m1 => ?_)
    have e1 : nn_rf M1 (x + 4) 1 = nn_rf M (x + 4) 1 := fr_rf f1 (by omega)
    refine ng_Index_layDown_4 _ _ _ _ _ _ ?_
    rw [e1, show (mm_kd (x + 5)).2 = 12 from by rw [hx.1]]
    refine ⟨fun c => ?_, fun c => ⟨by omega, ?_⟩⟩
    · have hi2 : i = nn_rf M (x + 4) 1 := by omega
      have hset : ∀ y, sg_ (nn_ri M1 (x + 5)) 0 kk y ↔ (S y ∧ fs_ (cv_ M (t + 1)) y = true) := by
        intro y
        rw [m1 y]
        constructor
        · rintro ⟨j, j0, j1, j2, j3⟩
          exact ⟨by rw [← j2]; exact z2.1 j j0 (by omega), j3⟩
        · rintro ⟨a, b⟩
          obtain ⟨j, j0, j1, j2⟩ := z2.2.1 y a
          exact ⟨j, j0, by omega, j2, b⟩
      rintro _ rfl
      have f2 : fr_ (fun o _ => o = x + 4 ∨ o = x + 5) M (nn_uf M1 (x + 4) 1 kk) := fr_uf (fr_mono f1 (fun o b z => Or.inr z)) (Or.inl rfl)
      have e8 : nn_rf (nn_uf M1 (x + 4) 1 kk) t 8 = nn_rf M t 8 := fr_rf f2 (by omega)
      have e6 : nn_rf (nn_uf M1 (x + 4) 1 kk) t 6 = nn_rf M t 6 := fr_rf f2 (by omega)
      refine ct_T_newId (by rw [e8]; exact hid) ?_
      rw [e8, e6]
      have f3 : fr_ (fun o b => (o = t ∧ b = 8) ∨ o = x + 4 ∨ o = x + 5) M (nn_uf (nn_uf M1 (x + 4) 1 kk) t 8 (nn_rf M t 8 + 1)) := fr_uf (fr_mono f2 (fun o b z => Or.inr z)) (Or.inl ⟨rfl, rfl⟩)
      have e4 : nn_rf (nn_uf (nn_uf M1 (x + 4) 1 kk) t 8 (nn_rf M t 8 + 1)) (x + 4) 1 = kk := by
        rw [rd_ff, if_neg (by omega), rd_ff, if_pos ⟨rfl, rfl⟩]
      have e88 : nn_rf (nn_uf (nn_uf M1 (x + 4) 1 kk) t 8 (nn_rf M t 8 + 1)) t 8 = nn_rf M t 8 + 1 := by
        rw [rd_ff, if_pos ⟨rfl, rfl⟩]
      have e5 : ∀ j, nn_ri (nn_uf (nn_uf M1 (x + 4) 1 kk) t 8 (nn_rf M t 8 + 1)) (x + 5) j = nn_ri M1 (x + 5) j := fun j => by
        rw [rd_if, if_neg (by omega), rd_if, if_neg (by omega)]
      generalize nn_uf (nn_uf M1 (x + 4) 1 kk) t 8 (nn_rf M t 8 + 1) = M3 at f3 e4 e88 e5 ⊢
      have es3 : es_ M3 (x + 4) (fun y => S y ∧ fs_ (cv_ M (t + 1)) y = true) := by
        refine ⟨by rw [e4]; exact k0, by rw [show x + 4 + 1 = x + 5 by omega, k12, e4]; omega, ?_⟩
        rw [e4, show x + 4 + 1 = x + 5 by omega]
        exact rp_cg (ss_rp s1 hset) (fun i _ _ => e5 i)
      have k3 : pl_ M3 (x + 8) n g := pl_fr f3 (fun o b h1 h2 => by omega) k
      have fin : ∀ M4 n' g', fr_ (pp_ (x + 8)) M3 M4 → ((¬ ∃ y, S y ∧ fs_ (cv_ M (t + 1)) y = true) → n' = n ∧ g' = g) → ((∃ y, S y ∧ fs_ (cv_ M (t + 1)) y = true) → n' = n + 1 ∧ g' = inP_ 0 (nn_rf M t 8 + 1, mid, 0, nn_rf M t 6, fun y => S y ∧ fs_ (cv_ M (t + 1)) y = true) g) → pl_ M4 (x + 8) n' g' → ∀ M95, M95 = nn_uf M4 (x + 4) 1 0 → R M95 := by
        intro M4 n' g' f4 c1 c2 k4
        rintro _ rfl
        have f5 : fr_ (fun o b => (o = t ∧ b = 8) ∨ (x + 4 ≤ o ∧ o < x + 14)) M (nn_uf M4 (x + 4) 1 0) := fr_uf (fr_trans (fr_mono f3 (fun o b z => by omega)) (fr_mono f4 (fun o b z => by have := z.1; have := z.2; omega))) (Or.inr ⟨by omega, by omega⟩)
        refine h _ n' g' f5 ?_ ⟨?_, ?_, ?_⟩ (by rw [rd_ff, if_pos ⟨rfl, rfl⟩]) c1 c2 ?_ (fun _ _ _ => trivial) ⟨?_, fun i => ?_⟩
        · rw [rd_ff, if_neg (by omega), fr_rf f4 (fun z => by have := z.1; omega), e88]
        · rw [rd_ff, if_pos ⟨rfl, rfl⟩]; exact Int.le_refl _
        · rw [rd_ff, if_pos ⟨rfl, rfl⟩, show x + 4 + 1 = x + 5 by omega, k12]; omega
        · rw [rd_ff, if_pos ⟨rfl, rfl⟩]
          exact ⟨fun i i0 i1 => by omega, fun y hy => hy.elim, fun i j i0 i1 i2 => by omega⟩
        · exact pl_fr (P := fun o b => o = x + 4 ∧ b = 1) (fr_uf (fr_refl M4) ⟨rfl, rfl⟩) (fun o b h1 h2 z => by omega) k4
        · rw [rd_ff, if_neg (by omega), fr_rf f4 (fun z => by have := z.1; omega), fr_rf f3 (by omega)]
        · rw [rd_if, if_neg (by omega), fr_ri f4 (fun z => by have := z.1; omega), fr_ri f3 (by omega)]
      have hq := pm_le k3 (show 0 ≤ n from k.1.2.1) (Int.le_refl n) (Int.le_refl n)
      have hT : nn_ri M3 (x + 8 + 2) n = nn_ri M (x + 10) n := fr_ri f3 (by omega)
      refine ct_P_putIn mid (by omega) k3 es3 ⟨Int.le_refl _, k.1.2.1⟩ hn (by rw [hT, e4]; omega) (fun c0 => ?_) (fun c0 M4 f4 k4 => ?_)
      · have hno : ¬ ∃ y, S y ∧ fs_ (cv_ M (t + 1)) y = true := by
          rintro ⟨y, hy⟩
          obtain ⟨j, j0, j1, _⟩ := (hset y).mpr hy
          omega
        exact fin M3 n g (fr_refl M3) (fun _ => ⟨rfl, rfl⟩) (fun z => absurd z hno) k3
      · have hyes : ∃ y, S y ∧ fs_ (cv_ M (t + 1)) y = true := ⟨_, (hset _).mp ⟨0, Int.le_refl _, by rw [e4] at c0; omega, rfl⟩⟩
        exact fin M4 (n + 1) _ f4 (fun z => absurd hyes z) (fun _ => ⟨rfl, rfl⟩) k4
    have vi : ve_ (nn_ri M (x + 5) i) := hve _ (z2.1 i h0 c)
    have ev : cv_ M1 (t + 1) = cv_ M (t + 1) := cv_fr f1 (fun o b z z2 => by have := z.1; have := z.2; omega)
    rw [g1 i (Int.le_refl _), nf_stale vi, ev, mm_w_id (x := i + 1) (by omega), mm_w_id (x := kk + 1) (by omega)]
    refine ⟨nc_stale vi, fun q => ?_, fun q => ⟨by omega, by omega, ?_⟩⟩
    · have q2 : ¬ fs_ (cv_ M (t + 1)) (nn_ri M (x + 5) i) = true := fun z => by rw [if_pos z] at q; exact q rfl
      refine ih c (by omega) kk M1 k0 (by omega) f1 s1 (fun j j0 => g1 j (by omega)) (fun y => ?_)
      rw [m1 y]
      constructor
      · rintro ⟨j, j0, j1, j2, j3⟩
        exact ⟨j, j0, by omega, j2, j3⟩
      · rintro ⟨j, j0, j1, j2, j3⟩
        by_cases z : j = i
        · subst z; rw [← j2] at j3; exact absurd j3 q2
        · exact ⟨j, j0, by omega, j2, j3⟩
    · have q2 : fs_ (cv_ M (t + 1)) (nn_ri M (x + 5) i) = true := by
        by_cases z : fs_ (cv_ M (t + 1)) (nn_ri M (x + 5) i) = true
        · exact z
        · rw [if_neg z] at q; exact absurd q (by decide)
      rintro _ rfl
      have hlt : ∀ j, 0 ≤ j → j < kk → nn_ri M1 (x + 5) j < nn_ri M (x + 5) i := by
        intro j j0 j1
        obtain ⟨a, a0, a1, a2, a3⟩ := (m1 _).mp ⟨j, j0, j1, rfl⟩
        rw [← a2]
        exact z2.2.2 a i a0 a1 c
      obtain ⟨x1, x2⟩ := ss_push (G := nn_ri (nn_ui M1 (x + 5) kk (nn_ri M (x + 5) i)) (x + 5)) k0 s1 hlt (fun j j0 j1 => by rw [rd_ii, if_neg (by omega)]) (by rw [rd_ii, if_pos ⟨rfl, rfl⟩])
      refine ih c (by omega) (kk + 1) _ (by omega) (by omega) (fr_ui f1 rfl) x1 (fun j j0 => by rw [rd_ii, if_neg (by omega)]; exact g1 j (by omega)) (fun y => ?_)
      rw [x2 y, m1 y]
      constructor
      · rintro (⟨j, j0, j1, j2, j3⟩ | rfl)
        · exact ⟨j, j0, by omega, j2, j3⟩
        · exact ⟨i, h0, by omega, rfl, q2⟩
      · rintro ⟨j, j0, j1, j2, j3⟩
        by_cases z : j = i
        · rw [z] at j2; exact Or.inr j2.symm
        · exact Or.inl ⟨j, j0, by omega, j2, j3⟩
  refine L 0 z0 (Int.le_refl _) 0 M (Int.le_refl _) (Int.le_refl _) (fr_refl M) (fun i j i0 i1 i2 => by omega) (fun _ _ => rfl) (fun y => ⟨?_, ?_⟩)
  · rintro ⟨j, j0, j1, _⟩; omega
  · rintro ⟨j, j0, j1, _⟩; omega
theorem ct_I_finish {x t : Nat} {n : Int} (mid : Int) {M : mm_M} {R : mm_M → Prop} {A : Int → Prop} {g : Int → ab_P} (hx : xk_ x) (htx : t + 82 ≤ x) (hs : es_ M (x + 6) A) (k : pl_ M (x + 8) n g) (hn : n < 24) (hcap : nn_ri M (x + 10) n + nn_rf M (x + 6) 1 ≤ 144) (hid : -2147483648 ≤ nn_rf M t 8 + 1 ∧ nn_rf M t 8 + 1 < 2147483648) (hlv : ∀ r, 0 ≤ r → r < n → -1 ≤ plv_ g r ∧ plv_ g r ≤ 1000000000)
    (h : ∀ M' n' g', fr_ (fun o b => (o = t ∧ b = 8) ∨ (x + 6 ≤ o ∧ o < x + 14) ∨ (o = x ∧ b = 5)) M M' → nn_rf M' t 8 = nn_rf M t 8 + 1 → nn_rf M' x 5 = 2 → es_ M' (x + 6) (fun _ => False) → nn_rf M' (x + 6) 1 = 0 → ((¬ ∃ y, A y) → n' = n ∧ g' = g) → ((∃ y, A y) → n' = n + 1 ∧ g' = inP_ n (nn_rf M t 8 + 1, mid, hi_ (plv_ g) 0 n.toNat + 1, nn_rf M x 8, A) g) → pl_ M' (x + 8) n' g' → R M') : nr_Index_finish x t M R := by
  obtain ⟨n0, n24⟩ := k.1.2
  have hh : hi_ (nn_ri M (x + 11)) 0 n.toNat = hi_ (plv_ g) 0 n.toNat := hi_cg (fun i i0 i1 => (k.2.2.1 i i0 (by omega)).2.1)
  have hl := hi_le (lv := plv_ g) (f := 0) (b := 1000000000) (by omega) (m := n.toNat) (fun i i0 i1 => (hlv i i0 (by omega)).2)
  refine ng_Index_finish _ _ _ _ ?_
  rw [k.1.1]
  refine ct_highest (by omega) n0 (by rw [hx.2.2]; show 0 + n ≤ (24 : Int); omega) (by omega) ?_
  rw [hh, mm_w_id (x := hi_ (plv_ g) 0 n.toNat + 1) (by omega)]
  refine ct_T_newId hid ?_
  have f1 : fr_ (fun o b => o = t ∧ b = 8) M (nn_uf M t 8 (nn_rf M t 8 + 1)) := fr_uf (fr_refl M) ⟨rfl, rfl⟩
  have e88 : nn_rf (nn_uf M t 8 (nn_rf M t 8 + 1)) t 8 = nn_rf M t 8 + 1 := by rw [rd_ff, if_pos ⟨rfl, rfl⟩]
  rw [k.1.1]
  have k1 : pl_ (nn_uf M t 8 (nn_rf M t 8 + 1)) (x + 8) n g := pl_fr f1 (fun o b h1 h2 => by omega) k
  have s1 : es_ (nn_uf M t 8 (nn_rf M t 8 + 1)) (x + 6) A := es_fr f1 (fun o b z z2 => by have := z.1; omega) hs
  generalize nn_uf M t 8 (nn_rf M t 8 + 1) = M1 at f1 e88 k1 s1 ⊢
  have fin : ∀ M4 n' g', fr_ (pp_ (x + 8)) M1 M4 → ((¬ ∃ y, A y) → n' = n ∧ g' = g) → ((∃ y, A y) → n' = n + 1 ∧ g' = inP_ n (nn_rf M t 8 + 1, mid, hi_ (plv_ g) 0 n.toNat + 1, nn_rf M x 8, A) g) → pl_ M4 (x + 8) n' g' → ∀ M53, M53 = nn_uf M4 (x + 6) 1 0 → ∀ M58, M58 = nn_uf M53 x 5 2 → R M58 := by
    intro M4 n' g' f4 c1 c2 k4
    rintro _ rfl _ rfl
    have e6 : nn_rf (nn_uf (nn_uf M4 (x + 6) 1 0) x 5 2) (x + 6) 1 = 0 := by rw [rd_ff, if_neg (by omega), rd_ff, if_pos ⟨rfl, rfl⟩]
    refine h _ n' g' (fr_uf (fr_uf (fr_trans (fr_mono f1 (fun o b z => Or.inl z)) (fr_mono f4 (fun o b z => by have := z.1; have := z.2; omega))) (Or.inr (Or.inl ⟨by omega, by omega⟩))) (Or.inr (Or.inr ⟨rfl, rfl⟩))) ?_ (by rw [rd_ff, if_pos ⟨rfl, rfl⟩]) ⟨by rw [e6]; exact Int.le_refl _, by rw [e6]; omega, ?_⟩ e6 c1 c2 ?_
    · rw [rd_ff, if_neg (by omega), rd_ff, if_neg (by omega), fr_rf f4 (fun z => by have := z.1; omega), e88]
    · rw [e6]
      exact ⟨fun i i0 i1 => by omega, fun y hy => hy.elim, fun i j i0 i1 i2 => by omega⟩
    · exact pl_fr (P := fun o b => (o = x + 6 ∧ b = 1) ∨ (o = x ∧ b = 5)) (fr_uf (fr_uf (fr_refl M4) (Or.inl ⟨rfl, rfl⟩)) (Or.inr ⟨rfl, rfl⟩)) (fun o b h1 h2 z => by omega) k4
  have hT : nn_ri M1 (x + 8 + 2) n = nn_ri M (x + 10) n := fr_ri f1 (by omega)
  have e61 : nn_rf M1 (x + 6) 1 = nn_rf M (x + 6) 1 := fr_rf f1 (by omega)
  refine ct_P_putIn mid (by omega) k1 s1 ⟨n0, Int.le_refl _⟩ hn (by rw [hT, e61]; exact hcap) (fun c0 => ?_) (fun c0 M4 f4 k4 => ?_)
  · refine fin M1 n g (fr_refl M1) (fun _ => ⟨rfl, rfl⟩) (fun ⟨y, hy⟩ => ?_) k1
    obtain ⟨j, j0, j1, _⟩ := s1.2.2.2.1 y hy
    omega
  · have hyes : ∃ y, A y := ⟨_, s1.2.2.1 0 (Int.le_refl _) (by have := s1.1; omega)⟩
    exact fin M4 (n + 1) _ f4 (fun z => absurd hyes z) (fun _ => ⟨rfl, rfl⟩) k4
