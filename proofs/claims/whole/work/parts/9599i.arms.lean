/-! THE RELATION of both sides; each public call keeps it, and both answer the same -/
def cfr_ (o _b : Nat) : Prop := 2 ≤ o ∧ o < 406
def cmY_ (o c : Nat) : Prop := cfr_ o c ∨ mod_ o c
def im1_ (bd : Int) (n : Nat) (M : mm_M) (k : Int) : Prop := (nn_rr M 406 k = 0 ∧ nn_ri M 409 k = 0) ∨ (nn_ri M 409 k = 1 ∧ (∃ j, j < 3 ∧ nn_rr M 406 k = 411 + 159 * j ∧ 411 + 159 * j + 158 ≤ n) ∧ ∃ W, cZ_ M (nn_rr M 406 k) W ∧ mY_ bd M (16422 + 5474 * k) W ∧ jZ_ bd W ∧ jI_ W ∧ jB_ W)
def cn1_ (M : mm_M) (k : Int) : Nat := if nn_rr M 406 k = 0 then 0 else 1
def Im_ (bd : Int) (n : Nat) (M : mm_M) : Prop := (∀ k, 0 ≤ k → k < 3 → im1_ bd n M k) ∧ n = 410 + 159 * (cn1_ M 0 + cn1_ M 1 + cn1_ M 2) ∧ ∀ k k', 0 ≤ k → k < 3 → 0 ≤ k' → k' < 3 → nn_rr M 406 k ≠ 0 → nn_rr M 406 k = nn_rr M 406 k' → k = k'
def Sx_ (bd : Int) (n : Nat) (M : mm_M) (Z : ab_Z) : Prop := (cZ_ M 2 Z ∧ mY_ bd M 0 Z ∧ jZ_ bd Z ∧ jI_ Z ∧ jB_ Z) ∧ (sl_ M 320 ∧ sl_ M 164 ∧ s0_ M 161) ∧ Im_ bd n M
def scr_ (M M' : mm_M) : Prop := ∀ o b, 4999 < o → M'.2 o b = M.2 o b
def Ar_ (bd : Int) (n : Nat) (M : mm_M) (x y : Int) (M2 : mm_M) : Prop := y = x ∧ scr_ M M2 ∧ ∃ Z, Sx_ bd n M2 Z
def St_ (bd : Int) (M : mm_M) : Prop := nn_L M ∧ ∃ Z, Sx_ bd M.1 M Z
def pr_ (bd : Int) (cy my : Nat) (ca ma : List mm_V) (M : mm_M) : Prop := mm_run 13 cy (.inr (.inr 1) :: ca) M (fun v M1 => ∃ x, v = some (.inl x) ∧ scr_ M M1 ∧ mm_run 13 my (.inr (.inr 407) :: ma) M1 (fun w M2 => w = some (.inl x) ∧ scr_ M M2 ∧ St_ bd M2))
theorem pr_I {bd : Int} {cy my d1 d2 n : Nat} {ca ma : List mm_V} {M : mm_M} (hd1 : d1 ≤ 13) (hd2 : d2 ≤ 13) (h : mm_run d1 cy (.inr (.inr 1) :: ca) M (nw_I n (fun x M1 => scr_ M M1 ∧ ∀ n', nn_L M1 → M1.1 = n' → mm_run d2 my (.inr (.inr 407) :: ma) M1 (nw_I n' (Ar_ bd n M x))))) : pr_ bd cy my ca ma M := by
  refine nn_call hd1 h (fun v M1 hv => ?_)
  obtain ⟨x, e, L1, N1, sm, hm⟩ := hv
  refine ⟨x, e, sm, nn_call hd2 (hm n L1 N1) (fun w M2 hw => ?_)⟩
  obtain ⟨y, e2, L2, N2, a1, a2, Z, a3⟩ := hw
  refine ⟨by rw [e2, a1], a2, L2, Z, ?_⟩
  rw [N2]
  exact a3
theorem pr_Z {bd : Int} {cy my d1 d2 n : Nat} {ca ma : List mm_V} {M : mm_M} (hd1 : d1 ≤ 13) (hd2 : d2 ≤ 13) (h : mm_run d1 cy (.inr (.inr 1) :: ca) M (nw_Z n (fun x M1 => scr_ M M1 ∧ ∀ n', nn_L M1 → M1.1 = n' → mm_run d2 my (.inr (.inr 407) :: ma) M1 (nw_Z n' (Ar_ bd n M x))))) : pr_ bd cy my ca ma M := by
  refine nn_call hd1 h (fun v M1 hv => ?_)
  obtain ⟨x, e, _, L1, N1, sm, hm⟩ := hv
  refine ⟨x, e, sm, nn_call hd2 (hm n L1 N1) (fun w M2 hw => ?_)⟩
  obtain ⟨y, e2, _, L2, N2, a1, a2, Z, a3⟩ := hw
  refine ⟨by rw [e2, a1], a2, L2, Z, ?_⟩
  rw [N2]
  exact a3
theorem Im_fr {bd bd' : Int} {n : Nat} {M M' : mm_M} (hb : bd ≤ bd') (f : fr_ cmY_ M M') (h : Im_ bd n M) : Im_ bd' n M' := by
  obtain ⟨h1, h2, h3⟩ := h
  have r : ∀ k, nn_rr M' 406 k = nn_rr M 406 k := fun k => fr_rr f (fun y => by unfold cmY_ cfr_ mod_ at y; omega)
  have ri : ∀ k, nn_ri M' 409 k = nn_ri M 409 k := fun k => fr_ri f (fun y => by unfold cmY_ cfr_ mod_ at y; omega)
  have rc : ∀ k, cn1_ M' k = cn1_ M k := fun k => by
    unfold cn1_
    rw [r]
  refine ⟨fun k k0 k1 => ?_, ?_, fun k k' a1 a2 a3 a4 a5 a6 => ?_⟩
  · unfold im1_
    rw [r, ri]
    rcases h1 k k0 k1 with w | ⟨w1, ⟨j, j1, j2, j3⟩, W, c, m, jz, ji, jb⟩
    · exact Or.inl w
    · refine Or.inr ⟨w1, ⟨j, j1, j2, j3⟩, W, cZ_far f (fun o b y1 y2 y => ?_) c, mY_up hb (mY_fr2 f (by unfold bk_; omega) (fun b y1 y2 y => ?_) jz m), jZ_up hb jz, ji, jb⟩
      · unfold cmY_ cfr_ mod_ at y
        omega
      · unfold cmY_ cfr_ mod_ at y
        omega
  · rw [rc, rc, rc]
    exact h2
  · rw [r] at a5 a6
    rw [r] at a6
    exact h3 k k' a1 a2 a3 a4 a5 a6
theorem scr_fr {M M' : mm_M} (f : fr_ cmY_ M M') : scr_ M M' := fun o b ho => f o b (fun y => by unfold cmY_ cfr_ mod_ at y; omega)
theorem scr_r {M : mm_M} : scr_ M M := fun _ _ _ => rfl
theorem scr_c {M M' : mm_M} (f : fr_ cfr_ M M') : scr_ M M' := fun o b ho => f o b (fun y => by unfold cfr_ at y; omega)
theorem cm_two {M M1 M2 : mm_M} (f1 : fr_ cfr_ M M1) (f2 : fr_ mod_ M1 M2) : fr_ cmY_ M M2 := fr_trans (fr_mono f1 (fun o b y => Or.inl y)) (fr_mono f2 (fun o b y => Or.inr y))
theorem mY_c {bd : Int} {Z : ab_Z} {M M1 : mm_M} (f : fr_ cfr_ M M1) (j : jZ_ bd Z) (km : mY_ bd M 0 Z) : mY_ bd M1 0 Z := mY_fr2 f bk_0 (fun b _ _ y => by unfold cfr_ at y; omega) j km
theorem nowc_ {M M1 : mm_M} (f : fr_ now_ M M1) : fr_ cfr_ M M1 := fr_mono f (fun o b y => by unfold now_ at y; unfold cfr_; omega)
theorem ar_c {bd bd' e1 e2 x : Int} {n : Nat} {Z Z' : ab_Z} {M M1 M2 : mm_M} (h : Sx_ bd n M Z) (f1 : fr_ cfr_ M M1) (s : sl_ M1 320 ∧ sl_ M1 164 ∧ s0_ M1 161) (kc : cZ_ M1 2 Z') (f2 : fr_ mod_ M1 M2) (km : mY_ e1 M2 0 Z') (j : jZ_ e2 Z') (g : jI_ Z') (b : jB_ Z') (he : bd ≤ bd' ∧ e1 ≤ bd' ∧ e2 ≤ bd') : Ar_ bd' n M x x M2 := by
  have out : ∀ o, 2 ≤ o → o < 406 → ∀ b, ¬ mod_ o b := fun o h1 h2 b y => by unfold mod_ at y; omega
  refine ⟨rfl, scr_fr (cm_two f1 f2), Z', ⟨cZ_far f2 (fun o b y1 y2 => out o y1 (by omega) b) kc, mY_up he.2.1 km, jZ_up he.2.2 j, g, b⟩, ⟨sl_fr f2 (fun b => out _ (by omega) (by omega) b) s.1, sl_fr f2 (fun b => out _ (by omega) (by omega) b) s.2.1, s0_fr f2 (fun o b y1 y2 => out o (by omega) (by omega) b) s.2.2⟩, Im_fr he.1 (cm_two f1 f2) h.2.2⟩
theorem sl_now {M M1 : mm_M} {P : Nat → Nat → Prop} (f : fr_ P M M1) (hP : ∀ o b, P o b → o < 161 ∨ (401 < o ∧ o < 406)) (s : sl_ M 320 ∧ sl_ M 164 ∧ s0_ M 161) : sl_ M1 320 ∧ sl_ M1 164 ∧ s0_ M1 161 :=
  ⟨sl_fr f (fun b y => by have := hP _ _ y; omega) s.1, sl_fr f (fun b y => by have := hP _ _ y; omega) s.2.1, s0_fr f (fun o b y1 y2 y => by have := hP _ _ y; omega) s.2.2⟩
theorem ar_now {bd bd' e1 e2 x : Int} {n : Nat} {Z Z' : ab_Z} {M M1 M2 : mm_M} (h : Sx_ bd n M Z) (f1 : fr_ now_ M M1) (kc : cZ_ M1 2 Z') (f2 : fr_ mod_ M1 M2) (km : mY_ e1 M2 0 Z') (j : jZ_ e2 Z') (g : jI_ Z') (b : jB_ Z') (he : bd ≤ bd' ∧ e1 ≤ bd' ∧ e2 ≤ bd') : Ar_ bd' n M x x M2 := ar_c h (nowc_ f1) (sl_now f1 (fun o b y => by unfold now_ at y; omega) h.2.1) kc f2 km j g b he
/-- nothing of it changed -/
theorem ar_m {bd bd' x : Int} {n : Nat} {Z : ab_Z} {M M2 : mm_M} (h : Sx_ bd n M Z) (hb : bd ≤ bd') (f2 : fr_ mod_ M M2) (km : mY_ bd M2 0 Z) : Ar_ bd' n M x x M2 := ar_c h (fr_refl M) h.2.1 h.1.1 f2 km h.1.2.2.1 h.1.2.2.2.1 h.1.2.2.2.2 ⟨hb, hb, hb⟩
theorem ar_s {bd bd' x : Int} {n : Nat} {Z : ab_Z} {M : mm_M} (h : Sx_ bd n M Z) (hb : bd ≤ bd') : Ar_ bd' n M x x M := ar_m h hb (fr_refl M) h.1.2.1
theorem f410 {M M2 : mm_M} (f : fr_ (fun o _ => o = 410) M M2) : fr_ mod_ M M2 := fr_mono f (fun o b y => Or.inr (Or.inr y))
theorem arm_feed {bd u v w y z : Int} {M : mm_M} (hb : 0 ≤ bd ∧ bd < 500000000) (h : St_ bd M) : pr_ (bd + 8000) mi_LI_feed mi_M_feed [.inl u, .inl v, .inl w, .inl y, .inl z] [.inl u, .inl v, .inl w, .inl y, .inl z] M := by
  obtain ⟨L, Z, h⟩ := h
  have h0 := h
  obtain ⟨⟨kc, km, j, g, b⟩, s, im⟩ := h0
  refine pr_I (by decide) (by decide) ((show nr_LI_feed u v w y z M (fun x M1 => scr_ M M1 ∧ nr_M_feed u v w y z M1 (Ar_ (bd + 8000) M.1 M x)) from ?_) M.1 L rfl)
  refine ct_LI_feed kc j (fun M1 f1 c1 => ⟨scr_c (nowc_ f1), ?_⟩)
  refine ct_M_feed (mY_c (nowc_ f1) j km) j (fun M2 f2 m2 => ?_)
  exact ar_now h f1 c1 f2 m2 (jZ_fed j) (jI_fed g) (jB_fed b) (by omega)
theorem arm_end {bd u : Int} {M : mm_M} (hb : 0 ≤ bd ∧ bd < 500000000) (h : St_ bd M) : pr_ (bd + 8000) mi_LI_end mi_M_end [.inl u] [.inl u] M := by
  obtain ⟨L, Z, h⟩ := h
  have h0 := h
  obtain ⟨⟨kc, km, j, g, b⟩, s, im⟩ := h0
  refine pr_I (by decide) (by decide) ((show nr_LI_end u M (fun x M1 => scr_ M M1 ∧ nr_M_end u M1 (Ar_ (bd + 8000) M.1 M x)) from ?_) M.1 L rfl)
  refine ct_LI_end kc (fun M1 f1 c1 => ⟨scr_c (nowc_ f1), ?_⟩)
  refine ct_M_end (mY_c (nowc_ f1) j km) j (fun M2 f2 m2 => ?_)
  exact ar_now h f1 c1 f2 m2 (jZ_end j) (jI_end g) (jB_end b) (by omega)
theorem arm_flush {bd : Int} {M : mm_M} (hb : 0 ≤ bd ∧ bd < 500000000) (h : St_ bd M) : pr_ (bd + 8000) mi_LI_flush mi_M_flush [] [] M := by
  obtain ⟨L, Z, h⟩ := h
  have h0 := h
  obtain ⟨⟨kc, km, j, g, b⟩, s, im⟩ := h0
  refine pr_Z (by decide) (by decide) ((show nr_LI_flush  M (fun x M1 => scr_ M M1 ∧ nr_M_flush  M1 (Ar_ (bd + 8000) M.1 M x)) from ?_) M.1 L rfl)
  refine ct_LI_flush (by omega) kc j (fun M1 f1 c1 => ⟨scr_c (nowc_ f1), ?_⟩)
  refine ct_M_flushP (by omega) (mY_c (nowc_ f1) j km) j (fun M2 f2 m2 => ?_)
  exact ar_now h f1 c1 f2 m2 (jZ_fls (by omega) j) (jI_fls j g) (jB_kb kb_fls b) (by omega)
theorem arm_set {bd u v : Int} {M : mm_M} (hb : 0 ≤ bd ∧ bd < 500000000) (h : St_ bd M) : pr_ (bd + 8000) mi_LI_set mi_M_set [.inl u, .inl v] [.inl u, .inl v] M := by
  obtain ⟨L, Z, h⟩ := h
  have h0 := h
  obtain ⟨⟨kc, km, j, g, b⟩, s, im⟩ := h0
  refine pr_Z (by decide) (by decide) ((show nr_LI_set u v M (fun x M1 => scr_ M M1 ∧ nr_M_set u v M1 (Ar_ (bd + 8000) M.1 M x)) from ?_) M.1 L rfl)
  refine ct_LI_set kc (fun ho M1 f1 c1 => ⟨scr_c (nowc_ f1), ?_⟩) (fun ho => ⟨scr_r, ?_⟩)
  · refine ct_M_set (mY_c (nowc_ f1) j km) j (fun _ M2 f2 m2 => ?_) (fun w => absurd ho w)
    exact ar_now h f1 c1 f2 m2 (jZ_set ho j) (jI_sc g) (jB_kb (kb_set ho) b) (by omega)
  · refine ct_M_set km j (fun w => absurd w ho) (fun _ => ?_)
    exact ar_s h (by omega)
theorem arm_mend {bd u v : Int} {M : mm_M} (hb : 0 ≤ bd ∧ bd < 500000000) (h : St_ bd M) (hv : v = 0 ∨ v = 1) : pr_ (bd + 8000) mi_LI_mend mi_M_mend [.inl u, .inl v] [.inl u, .inl v] M := by
  obtain ⟨L, Z, h⟩ := h
  have h0 := h
  obtain ⟨⟨kc, km, j, g, b⟩, s, im⟩ := h0
  refine pr_Z (by decide) (by decide) ((show nr_LI_mend u v M (fun x M1 => scr_ M M1 ∧ nr_M_mend u v M1 (Ar_ (bd + 8000) M.1 M x)) from ?_) M.1 L rfl)
  refine ct_LI_mend hv kc (fun ho M1 f1 c1 => ⟨scr_c (nowc_ f1), ?_⟩) (fun ho => ⟨scr_r, ?_⟩)
  · refine ct_M_mend hv (mY_c (nowc_ f1) j km) j (fun _ M2 f2 m2 => ?_) (fun w => absurd ho w)
    exact ar_now h f1 c1 f2 m2 (jZ_men ho.1 hv j) (jI_men ho.1 g) (jB_kb ⟨rfl, rfl⟩ b) (by omega)
  · refine ct_M_mend hv km j (fun w => absurd w ho) (fun _ => ?_)
    exact ar_s h (by omega)
theorem arm_drop {bd u : Int} {M : mm_M} (hb : 0 ≤ bd ∧ bd < 500000000) (h : St_ bd M) : pr_ (bd + 8000) mi_LI_drop mi_M_drop [.inl u] [.inl u] M := by
  obtain ⟨L, Z, h⟩ := h
  have h0 := h
  obtain ⟨⟨kc, km, j, g, b⟩, s, im⟩ := h0
  refine pr_Z (by decide) (by decide) ((show nr_LI_drop u M (fun x M1 => scr_ M M1 ∧ nr_M_drop u M1 (Ar_ (bd + 8000) M.1 M x)) from ?_) M.1 L rfl)
  refine ct_LI_drop kc (fun ho M1 f1 c1 => ⟨scr_c (nowc_ f1), ?_⟩) (fun ho => ⟨scr_r, ?_⟩)
  · refine ct_M_drop (mY_c (nowc_ f1) j km) j (fun _ M2 f2 m2 => ?_) (fun w => absurd ho w)
    exact ar_now h f1 c1 f2 m2 (jZ_dro j) (jI_dro g) (jB_kb ⟨rfl, rfl⟩ b) (by omega)
  · refine ct_M_drop km j (fun w => absurd w ho) (fun _ => ?_)
    exact ar_s h (by omega)
theorem arm_put {bd u v w y z : Int} {M : mm_M} (hb : 0 ≤ bd ∧ bd < 500000000) (h : St_ bd M) : pr_ (bd + 8000) mi_LI_put mi_M_put [.inl u, .inl v, .inl w, .inl y, .inl z] [.inl u, .inl v, .inl w, .inl y, .inl z] M := by
  obtain ⟨L, Z, h⟩ := h
  have h0 := h
  obtain ⟨⟨kc, km, j, g, b⟩, s, im⟩ := h0
  refine pr_I (by decide) (by decide) ((show nr_LI_put u v w y z M (fun x M1 => scr_ M M1 ∧ nr_M_put u v w y z M1 (Ar_ (bd + 8000) M.1 M x)) from ?_) M.1 L rfl)
  refine ct_LI_put (by omega) kc j (fun ho M1 f1 c1 => ⟨scr_c (nowc_ f1), ?_⟩) (fun ho => ⟨scr_r, ?_⟩)
  · refine ct_M_put (by omega) (mY_c (nowc_ f1) j km) j (fun _ M2 f2 m2 => ?_) (fun w => absurd ho w)
    exact ar_now h f1 c1 f2 m2 (jZ_pt ho.1 (rw_in ho.2.1 ho.2.2.1 ho.2.2.2.1 ho.2.2.2.2) (by omega) j) (jI_pt ho.1 (rw_in ho.2.1 ho.2.2.1 ho.2.2.2.1 ho.2.2.2.2) (by omega) j g) (jB_kb kb_pt b) (by omega)
  · refine ct_M_put (by omega) km j (fun w => absurd w ho) (fun _ => ?_)
    exact ar_s h (by omega)
theorem arm_change {bd u v w : Int} {M : mm_M} (hb : 0 ≤ bd ∧ bd < 500000000) (h : St_ bd M) : pr_ (bd + 8000) mi_LI_change mi_M_change [.inl u, .inl v, .inl w] [.inl u, .inl v, .inl w] M := by
  obtain ⟨L, Z, h⟩ := h
  have h0 := h
  obtain ⟨⟨kc, km, j, g, b⟩, s, im⟩ := h0
  refine pr_I (by decide) (by decide) ((show nr_LI_change u v w M (fun x M1 => scr_ M M1 ∧ nr_M_change u v w M1 (Ar_ (bd + 8000) M.1 M x)) from ?_) M.1 L rfl)
  refine ct_LI_change (by omega) kc j (fun ho M1 f1 c1 => ⟨scr_c (nowc_ f1), ?_⟩) (fun ho => ⟨scr_r, ?_⟩)
  · refine ct_M_change (by omega) (mY_c (nowc_ f1) j km) j (fun _ M2 f2 m2 => ?_) (fun w => absurd ho w)
    exact ar_now h f1 c1 f2 m2 (jZ_cg ho.1 ho.2.1 ho.2.2 (by omega) j) (jI_cg ho.1 ho.2.1 ho.2.2 (by omega) j g) (jB_kb kb_cg b) (by omega)
  · refine ct_M_change (by omega) km j (fun w => absurd w ho) (fun _ => ?_)
    exact ar_s h (by omega)
theorem arm_remove {bd u : Int} {M : mm_M} (hb : 0 ≤ bd ∧ bd < 500000000) (h : St_ bd M) : pr_ (bd + 8000) mi_LI_remove mi_M_remove [.inl u] [.inl u] M := by
  obtain ⟨L, Z, h⟩ := h
  have h0 := h
  obtain ⟨⟨kc, km, j, g, b⟩, s, im⟩ := h0
  refine pr_I (by decide) (by decide) ((show nr_LI_remove u M (fun x M1 => scr_ M M1 ∧ nr_M_remove u M1 (Ar_ (bd + 8000) M.1 M x)) from ?_) M.1 L rfl)
  refine ct_LI_remove (by omega) kc j (fun ho M1 f1 c1 => ⟨scr_c (nowc_ f1), ?_⟩) (fun ho => ⟨scr_r, ?_⟩)
  · refine ct_M_remove (by omega) (mY_c (nowc_ f1) j km) j (fun _ M2 f2 m2 => ?_) (fun w => absurd ho w)
    exact ar_now h f1 c1 f2 m2 (jZ_rm ho (by omega) j) (jI_rm ho (by omega) j g) (jB_kb kb_rm b) (by omega)
  · refine ct_M_remove (by omega) km j (fun w => absurd w ho) (fun _ => ?_)
    exact ar_s h (by omega)
theorem arm_load {bd u v : Int} {M : mm_M} (hb : 0 ≤ bd ∧ bd < 500000000) (h : St_ bd M) : pr_ (bd + 8000) mi_LI_load mi_M_load [.inl u, .inl v] [.inl u, .inl v] M := by
  obtain ⟨L, Z, h⟩ := h
  have h0 := h
  obtain ⟨⟨kc, km, j, g, b⟩, s, im⟩ := h0
  refine pr_I (by decide) (by decide) ((show nr_LI_load u v M (fun x M1 => scr_ M M1 ∧ nr_M_load u v M1 (Ar_ (bd + 8000) M.1 M x)) from ?_) M.1 L rfl)
  refine ct_LI_load (by omega) kc j (fun ho M1 f1 c1 => ⟨scr_c (nowc_ f1), ?_⟩) (fun ho => ⟨scr_r, ?_⟩)
  · refine ct_M_load (by omega) (mY_c (nowc_ f1) j km) j (fun _ M2 f2 m2 => ?_) (fun w => absurd ho w)
    exact ar_now h f1 c1 f2 m2 (jZ_ldn (o := (u, Z)) (by omega) j v.toNat (by omega)) (jI_ldn (o := (u, Z)) (by omega) j g v.toNat (by omega)) (jB_kb (kb_ldn (o := (u, Z)) _) b) (by omega)
  · refine ct_M_load (by omega) km j (fun w => absurd w ho) (fun _ => ?_)
    exact ar_s h (by omega)
theorem arm_merge {bd u v w : Int} {M : mm_M} (hb : 0 ≤ bd ∧ bd < 500000000) (h : St_ bd M) (hv : -2147483648 ≤ v ∧ v < 2147483648) (hw : -2147483648 ≤ w ∧ w < 2147483648) : pr_ (bd + 8000) mi_LI_merge mi_M_merge [.inl u, .inl v, .inl w] [.inl u, .inl v, .inl w] M := by
  obtain ⟨L, Z, h⟩ := h
  have h0 := h
  obtain ⟨⟨kc, km, j, g, b⟩, s, im⟩ := h0
  refine pr_I (by decide) (by decide) ((show nr_LI_merge u v w M (fun x M1 => scr_ M M1 ∧ nr_M_merge u v w M1 (Ar_ (bd + 8000) M.1 M x)) from ?_) M.1 L rfl)
  refine ct_LI_merge (by omega) hv hw kc j (fun ho M1 f1 c1 => ⟨scr_c (nowc_ f1), ?_⟩) (fun ho => ⟨scr_r, ?_⟩)
  · refine ct_M_merge (by omega) (mY_c (nowc_ f1) j km) j (fun _ M2 f2 m2 => ?_) (fun w => absurd ho w)
    exact ar_now h f1 c1 f2 m2 (jZ_mer hb.1 ho j) (jI_mer ho g) (jB_kb kb_mer b) (by omega)
  · refine ct_M_merge (by omega) km j (fun w => absurd w ho) (fun _ => ?_)
    exact ar_s h (by omega)
theorem arm_repair {bd u : Int} {M : mm_M} (hb : 0 ≤ bd ∧ bd < 500000000) (h : St_ bd M) : pr_ (bd + 8000) mi_LI_repair mi_M_repair [.inl u] [.inl u] M := by
  obtain ⟨L, Z, h⟩ := h
  have h0 := h
  obtain ⟨⟨kc, km, j, g, b⟩, s, im⟩ := h0
  refine pr_I (by decide) (by decide) ((show nr_LI_repair u M (fun x M1 => scr_ M M1 ∧ nr_M_repair u M1 (Ar_ (bd + 8000) M.1 M x)) from ?_) M.1 L rfl)
  refine ct_LI_repair (by omega) kc j (fun ho M1 f1 c1 => ⟨scr_c (nowc_ f1), ?_⟩) (fun ho => ⟨scr_r, ?_⟩)
  · refine ct_M_repair (by omega) (mY_c (nowc_ f1) j km) j (fun _ M2 f2 m2 => ?_) (fun w => absurd ho w)
    exact ar_now h f1 c1 f2 m2 (jZ_rpr ho j) (jI_rpr ho (j.1.2.2.2.2 u ho.1.1 ho.1.2 ho.2).2.2.1.1.1 g) (jB_kb ⟨rfl, rfl⟩ b) (by omega)
  · refine ct_M_repair (by omega) km j (fun w => absurd w ho) (fun _ => ?_)
    exact ar_s h (by omega)
theorem arm_build {bd u v : Int} {M : mm_M} (hb : 0 ≤ bd ∧ bd < 500000000) (h : St_ bd M) : pr_ (bd + 8000) mi_LI_build mi_M_build [.inl u, .inl v] [.inl u, .inl v] M := by
  obtain ⟨L, Z, h⟩ := h
  have h0 := h
  obtain ⟨⟨kc, km, j, g, b⟩, s, im⟩ := h0
  refine pr_I (by decide) (by decide) ((show nr_LI_build u v M (fun x M1 => scr_ M M1 ∧ nr_M_build u v M1 (Ar_ (bd + 8000) M.1 M x)) from ?_) M.1 L rfl)
  refine ct_LI_build (by omega) kc j (fun ho M1 f1 c1 => ⟨scr_c (nowc_ f1), ?_⟩) (fun ho => ⟨scr_r, ?_⟩)
  · refine ct_M_build (by omega) (mY_c (nowc_ f1) j km) j (fun _ M2 f2 m2 => ?_) (fun w => absurd ho w)
    exact ar_now h f1 c1 f2 m2 (jZ_bld (by omega) ho (kz_cX (by rw [ho.1.2]; decide) (kc.1.2.2 u ho.1.1.1 ho.1.1.2) (j.1.2.2.2.2 u ho.1.1.1 ho.1.1.2)) j) (jI_bld ho g) (jB_kb kb_bld b) (by omega)
  · refine ct_M_build (by omega) km j (fun w => absurd w ho) (fun _ => ?_)
    exact ar_s h (by omega)
theorem arm_next {bd u : Int} {M : mm_M} (hb : 0 ≤ bd ∧ bd < 500000000) (h : St_ bd M) : pr_ (bd + 8000) mi_LI_next mi_M_next [.inl u] [.inl u] M := by
  obtain ⟨L, Z, h⟩ := h
  have h0 := h
  obtain ⟨⟨kc, km, j, g, b⟩, s, im⟩ := h0
  refine pr_I (by decide) (by decide) ((show nr_LI_next u M (fun x M1 => scr_ M M1 ∧ nr_M_next u M1 (Ar_ (bd + 8000) M.1 M x)) from ?_) M.1 L rfl)
  refine ct_LI_next kc j (fun ho M1 f1 c1 => ⟨scr_c (nowc_ f1), ?_⟩) (fun ho => ⟨scr_r, ?_⟩)
  · refine ct_M_next (mY_c (nowc_ f1) j km) j (fun _ M2 f2 m2 => ?_) (fun w => absurd ho w)
    exact ar_now h f1 c1 f2 m2 (jZ_nxt ho j) (jI_nxt ho.1.1 g) (jB_kb ⟨rfl, rfl⟩ b) (by omega)
  · refine ct_M_next km j (fun w => absurd w ho) (fun _ => ?_)
    exact ar_s h (by omega)
theorem arm_close {bd u : Int} {M : mm_M} (hb : 0 ≤ bd ∧ bd < 500000000) (h : St_ bd M) : pr_ (bd + 8000) mi_LI_close mi_M_close [.inl u] [.inl u] M := by
  obtain ⟨L, Z, h⟩ := h
  have h0 := h
  obtain ⟨⟨kc, km, j, g, b⟩, s, im⟩ := h0
  refine pr_I (by decide) (by decide) ((show nr_LI_close u M (fun x M1 => scr_ M M1 ∧ nr_M_close u M1 (Ar_ (bd + 8000) M.1 M x)) from ?_) M.1 L rfl)
  refine ct_LI_close kc j (fun ho M1 f1 c1 => ⟨scr_c (nowc_ f1), ?_⟩) (fun ho => ⟨scr_r, ?_⟩)
  · refine ct_M_close (mY_c (nowc_ f1) j km) j (fun _ M2 f2 m2 => ?_) (fun w => absurd ho w)
    exact ar_now h f1 c1 f2 m2 (jZ_clo ho j) (jI_clo g) (jB_kb ⟨rfl, rfl⟩ b) (by omega)
  · refine ct_M_close km j (fun w => absurd w ho) (fun _ => ?_)
    exact ar_s h (by omega)
theorem arm_ask {bd u v w y : Int} {M : mm_M} (hb : 0 ≤ bd ∧ bd < 500000000) (h : St_ bd M) : pr_ (bd + 8000) mi_LI_ask mi_M_ask [.inl u, .inl v, .inl w, .inl y] [.inl u, .inl v, .inl w, .inl y] M := by
  obtain ⟨L, Z, h⟩ := h
  have h0 := h
  obtain ⟨⟨kc, km, j, g, b⟩, s, im⟩ := h0
  refine pr_I (by decide) (by decide) ((show nr_LI_ask u v w y M (fun x M1 => scr_ M M1 ∧ nr_M_ask u v w y M1 (Ar_ (bd + 8000) M.1 M x)) from ?_) M.1 L rfl)
  refine ct_LI_ask kc j (fun ho M1 f1 c1 => ⟨scr_c (nowc_ f1), ?_⟩) (fun ho => ⟨scr_r, ?_⟩)
  · refine ct_M_ask (mY_c (nowc_ f1) j km) j (fun _ M2 f2 m2 => ?_) (fun w => absurd ho w)
    exact ar_now h f1 c1 f2 m2 (jZ_ask j) (jI_ask g) (jB_kb kb_ask b) (by omega)
  · refine ct_M_ask km j (fun w => absurd w ho) (fun _ => ?_)
    exact ar_s h (by omega)
theorem arm_open {bd u v w : Int} {M : mm_M} (hb : 0 ≤ bd ∧ bd < 500000000) (h : St_ bd M) : pr_ (bd + 8000) mi_LI_open mi_M_open [.inl u, .inl v, .inl w] [.inl u, .inl v, .inl w] M := by
  obtain ⟨L, Z, h⟩ := h
  have h0 := h
  obtain ⟨⟨kc, km, j, g, b⟩, s, im⟩ := h0
  refine pr_I (by decide) (by decide) ((show nr_LI_open u v w M (fun x M1 => scr_ M M1 ∧ nr_M_open u v w M1 (Ar_ (bd + 8000) M.1 M x)) from ?_) M.1 L rfl)
  refine ct_LI_open kc j (fun ho M1 f1 c1 => ⟨scr_c (nowc_ f1), ?_⟩) (fun ho => ⟨scr_r, ?_⟩)
  · refine ct_M_open (mY_c (nowc_ f1) j km) j (fun _ M2 f2 m2 => ?_) (fun w => absurd ho w)
    exact ar_now h f1 c1 f2 m2 (jZ_opn ho j) (jI_opn ⟨ho.1.1, by rw [ho.1.2]; decide⟩ g) (jB_kb ⟨rfl, rfl⟩ b) (by omega)
  · refine ct_M_open km j (fun w => absurd w ho) (fun _ => ?_)
    exact ar_s h (by omega)
theorem arm_value {bd u v w y z : Int} {M : mm_M} (hb : 0 ≤ bd ∧ bd < 500000000) (h : St_ bd M) : pr_ (bd + 8000) mi_LI_value mi_M_value [.inl u, .inl v, .inl w, .inl y, .inl z] [.inl u, .inl v, .inl w, .inl y, .inl z] M := by
  obtain ⟨L, Z, h⟩ := h
  have h0 := h
  obtain ⟨⟨kc, km, j, g, b⟩, s, im⟩ := h0
  refine pr_I (by decide) (by decide) ((show nr_LI_value u v w y z M (fun x M1 => scr_ M M1 ∧ nr_M_value u v w y z M1 (Ar_ (bd + 8000) M.1 M x)) from ?_) M.1 L rfl)
  refine ct_LI_value kc j (fun ho => ⟨scr_r, ?_⟩) (fun ho => ⟨scr_r, ?_⟩)
  · refine ct_M_value km j (fun _ => ?_) (fun w => absurd ho w)
    exact ar_s h (by omega)
  · refine ct_M_value km j (fun w => absurd w ho) (fun _ => ?_)
    exact ar_s h (by omega)
theorem arm_sum {bd u v w y : Int} {M : mm_M} (hb : 0 ≤ bd ∧ bd < 500000000) (h : St_ bd M) : pr_ (bd + 8000) mi_LI_sum mi_M_sum [.inl u, .inl v, .inl w, .inl y] [.inl u, .inl v, .inl w, .inl y] M := by
  obtain ⟨L, Z, h⟩ := h
  have h0 := h
  obtain ⟨⟨kc, km, j, g, b⟩, s, im⟩ := h0
  refine pr_I (by decide) (by decide) ((show nr_LI_sum u v w y M (fun x M1 => scr_ M M1 ∧ nr_M_sum u v w y M1 (Ar_ (bd + 8000) M.1 M x)) from ?_) M.1 L rfl)
  refine ct_LI_sum kc j (fun ho => ⟨scr_r, ?_⟩) (fun ho => ⟨scr_r, ?_⟩)
  · refine ct_M_sum km j (fun _ M2 f2 => ?_) (fun w => absurd ho w)
    exact ar_m h (by omega) (f410 f2) (mY_410 f2 j km)
  · refine ct_M_sum km j (fun w => absurd w ho) (fun _ => ?_)
    exact ar_s h (by omega)
theorem arm_near {bd u v : Int} {M : mm_M} (hb : 0 ≤ bd ∧ bd < 500000000) (h : St_ bd M) (hv : -2147483648 ≤ v ∧ v < 2147483648) : pr_ (bd + 8000) mi_LI_near mi_M_near [.inl u, .inl v] [.inl u, .inl v] M := by
  obtain ⟨L, Z, h⟩ := h
  have h0 := h
  obtain ⟨⟨kc, km, j, g, b⟩, s, im⟩ := h0
  refine pr_I (by decide) (by decide) ((show nr_LI_near u v M (fun x M1 => scr_ M M1 ∧ nr_M_near u v M1 (Ar_ (bd + 8000) M.1 M x)) from ?_) M.1 L rfl)
  refine ct_LI_near hv kc j (fun ho => ⟨scr_r, ?_⟩) (fun ho => ⟨scr_r, ?_⟩)
  · refine ct_M_near hv km j (fun _ M2 f2 => ?_) (fun w => absurd ho w)
    exact ar_m h (by omega) (f410 f2) (mY_410 f2 j km)
  · refine ct_M_near hv km j (fun w => absurd w ho) (fun _ => ?_)
    exact ar_s h (by omega)
theorem arm_entry {bd u v w y : Int} {M : mm_M} (hb : 0 ≤ bd ∧ bd < 500000000) (h : St_ bd M) (hv : -2147483648 ≤ v ∧ v < 2147483648) : pr_ (bd + 8000) mi_LI_entry mi_M_entry [.inl u, .inl v, .inl w, .inl y] [.inl u, .inl v, .inl w, .inl y] M := by
  obtain ⟨L, Z, h⟩ := h
  have h0 := h
  obtain ⟨⟨kc, km, j, g, b⟩, s, im⟩ := h0
  refine pr_I (by decide) (by decide) ((show nr_LI_entry u v w y M (fun x M1 => scr_ M M1 ∧ nr_M_entry u v w y M1 (Ar_ (bd + 8000) M.1 M x)) from ?_) M.1 L rfl)
  refine ct_LI_entry hv kc j (fun ho => ⟨scr_r, ?_⟩) (fun ho => ⟨scr_r, ?_⟩)
  · refine ct_M_entry hv km j (fun _ => ?_) (fun w => absurd ho w)
    exact ar_s h (by omega)
  · refine ct_M_entry hv km j (fun w => absurd w ho) (fun _ => ?_)
    exact ar_s h (by omega)
theorem arm_index {bd u v : Int} {M : mm_M} (hb : 0 ≤ bd ∧ bd < 500000000) (h : St_ bd M) (hv : -2147483648 ≤ v ∧ v < 2147483648) : pr_ (bd + 8000) mi_LI_index mi_M_index [.inl u, .inl v] [.inl u, .inl v] M := by
  obtain ⟨L, Z, h⟩ := h
  have h0 := h
  obtain ⟨⟨kc, km, j, g, b⟩, s, im⟩ := h0
  refine pr_I (by decide) (by decide) ((show nr_LI_index u v M (fun x M1 => scr_ M M1 ∧ nr_M_index u v M1 (Ar_ (bd + 8000) M.1 M x)) from ?_) M.1 L rfl)
  refine ct_LI_index hv kc j (fun ho => ⟨scr_r, ?_⟩) (fun ho => ⟨scr_r, ?_⟩)
  · refine ct_M_index hv km j (fun _ M2 f2 => ?_) (fun w => absurd ho w)
    exact ar_m h (by omega) (f410 f2) (mY_410 f2 j km)
  · refine ct_M_index hv km j (fun w => absurd w ho) (fun _ => ?_)
    exact ar_s h (by omega)
theorem arm_run {bd u v : Int} {M : mm_M} (hb : 0 ≤ bd ∧ bd < 500000000) (h : St_ bd M) (hv : -2147483648 ≤ v ∧ v < 2147483648) : pr_ (bd + 8000) mi_LI_run mi_M_run [.inl u, .inl v] [.inl u, .inl v] M := by
  obtain ⟨L, Z, h⟩ := h
  have h0 := h
  obtain ⟨⟨kc, km, j, g, b⟩, s, im⟩ := h0
  refine pr_I (by decide) (by decide) ((show nr_LI_run u v M (fun x M1 => scr_ M M1 ∧ nr_M_run u v M1 (Ar_ (bd + 8000) M.1 M x)) from ?_) M.1 L rfl)
  refine ct_LI_run hv kc j (fun ho => ⟨scr_r, ?_⟩) (fun ho => ⟨scr_r, ?_⟩)
  · refine ct_M_run hv km j (fun _ => ?_) (fun w => absurd ho w)
    exact ar_s h (by omega)
  · refine ct_M_run hv km j (fun w => absurd w ho) (fun _ => ?_)
    exact ar_s h (by omega)
theorem arm_held {bd u : Int} {M : mm_M} (hb : 0 ≤ bd ∧ bd < 500000000) (h : St_ bd M) : pr_ (bd + 8000) mi_LI_held mi_M_held [.inl u] [.inl u] M := by
  obtain ⟨L, Z, h⟩ := h
  have h0 := h
  obtain ⟨⟨kc, km, j, g, b⟩, s, im⟩ := h0
  refine pr_I (by decide) (by decide) ((show nr_LI_held u M (fun x M1 => scr_ M M1 ∧ nr_M_held u M1 (Ar_ (bd + 8000) M.1 M x)) from ?_) M.1 L rfl)
  refine ct_LI_held kc j (fun ho => ⟨scr_r, ?_⟩) (fun ho => ⟨scr_r, ?_⟩)
  · refine ct_M_held km j (fun _ => ?_) (fun w => absurd ho w)
    exact ar_s h (by omega)
  · refine ct_M_held km j (fun w => absurd w ho) (fun _ => ?_)
    exact ar_s h (by omega)
theorem arm_would {bd u v w : Int} {M : mm_M} (hb : 0 ≤ bd ∧ bd < 500000000) (h : St_ bd M) (hv : -2147483648 ≤ v ∧ v < 2147483648) (hw : -2147483648 ≤ w ∧ w < 2147483648) : pr_ (bd + 8000) mi_LI_would mi_M_would [.inl u, .inl v, .inl w] [.inl u, .inl v, .inl w] M := by
  obtain ⟨L, Z, h⟩ := h
  have h0 := h
  obtain ⟨⟨kc, km, j, g, b⟩, s, im⟩ := h0
  refine pr_I (by decide) (by decide) ((show nr_LI_would u v w M (fun x M1 => scr_ M M1 ∧ nr_M_would u v w M1 (Ar_ (bd + 8000) M.1 M x)) from ?_) M.1 L rfl)
  refine ct_LI_would hv hw kc j (fun ho => ⟨scr_r, ?_⟩) (fun ho => ⟨scr_r, ?_⟩)
  · refine ct_M_would (by omega) km j (fun _ M2 f2 m2 => ?_) (fun w => absurd ho w)
    exact ar_m h (by omega) f2 m2
  · refine ct_M_would (by omega) km j (fun w => absurd w ho) (fun _ => ?_)
    exact ar_s h (by omega)
theorem arm_both {bd u v w y z : Int} {M : mm_M} (hb : 0 ≤ bd ∧ bd < 500000000) (h : St_ bd M) (hz : -2147483648 ≤ z ∧ z < 2147483648) : pr_ (bd + 8000) mi_LI_both mi_M_both [.inl u, .inl v, .inl w, .inl y, .inl z] [.inl u, .inl v, .inl w, .inl y, .inl z] M := by
  obtain ⟨L, Z, h⟩ := h
  have h0 := h
  obtain ⟨⟨kc, km, j, g, b⟩, s, im⟩ := h0
  refine pr_I (by decide) (by decide) ((show nr_LI_both u v w y z M (fun x M1 => scr_ M M1 ∧ nr_M_both u v w y z M1 (Ar_ (bd + 8000) M.1 M x)) from ?_) M.1 L rfl)
  refine ct_LI_both kc (fun ho M1 f1 => ?_) (fun ho => ⟨scr_r, ?_⟩)
  · have f1c : fr_ cfr_ M M1 := fr_mono f1 (fun o b y => by unfold cfr_; omega)
    refine ⟨scr_c f1c, ?_⟩
    refine ct_M_both hz.1 (mY_c f1c j km) j (fun _ => ?_) (fun w => absurd ho w)
    exact ar_c h f1c (sl_now f1 (fun o b y => by omega) s) (cZ_91 f1 kc) (fr_refl M1) (mY_c f1c j km) j g b (by omega)
  · refine ct_M_both hz.1 km j (fun w => absurd w ho) (fun _ => ?_)
    exact ar_s h (by omega)
theorem arm_count {bd u : Int} {M : mm_M} (hb : 0 ≤ bd ∧ bd < 500000000) (h : St_ bd M) : pr_ (bd + 8000) mi_LI_count mi_M_count [.inl u] [.inl u] M := by
  obtain ⟨L, Z, h⟩ := h
  have h0 := h
  obtain ⟨⟨kc, km, j, g, b⟩, s, im⟩ := h0
  refine pr_I (by decide) (by decide) ((show nr_LI_count u M (fun x M1 => scr_ M M1 ∧ nr_M_count u M1 (Ar_ (bd + 8000) M.1 M x)) from ?_) M.1 L rfl)
  refine ct_LI_count (by omega) kc j s.1 (fun M1 f1 s1 => ?_)
  have f1c : fr_ cfr_ M M1 := fr_mono f1 (fun o b y => by unfold tr_ at y; unfold cfr_; omega)
  have c1 : cZ_ M1 2 Z := cZ_far f1 (fun o b y1 y2 y => by unfold tr_ at y; omega) kc
  refine ⟨scr_c f1c, ?_⟩
  refine ct_M_count (by omega) (mY_c f1c j km) j g (fun M2 f2 => ?_)
  refine ar_c h f1c ⟨s1, sl_fr f1 (fun b y => by unfold tr_ at y; omega) s.2.1, s0_fr f1 (fun o b y1 y2 y => by unfold tr_ at y; omega) s.2.2⟩ c1 (fr_mono f2 (fun o b y => by unfold mz_ at y; unfold mod_; omega)) (mY_fr2 f2 bk_0 (fun b y1 y2 y => by unfold mz_ at y; omega) j (mY_c f1c j km)) j g b (by omega)
theorem arm_tried {bd u v w : Int} {M : mm_M} (hb : 0 ≤ bd ∧ bd < 500000000) (h : St_ bd M) (hw : -2147483648 ≤ w ∧ w < 2147483648) : pr_ (bd + 8000) mi_LI_tried mi_M_tried [.inl u, .inl v, .inl w] [.inl u, .inl v, .inl w] M := by
  obtain ⟨L, Z, h⟩ := h
  have h0 := h
  obtain ⟨⟨kc, km, j, g, b⟩, s, im⟩ := h0
  refine pr_I (by decide) (by decide) ((show nr_LI_tried u v w M (fun x M1 => scr_ M M1 ∧ nr_M_tried u v w M1 (Ar_ (bd + 8000) M.1 M x)) from ?_) M.1 L rfl)
  refine ct_LI_tried hw (by omega) kc j s.1 s.2.1 s.2.2 (fun ho M1 f1 s1 s2 s3 => ?_) (fun ho => ⟨scr_r, ?_⟩)
  · have f1c : fr_ cfr_ M M1 := fr_mono f1 (fun o b y => by unfold trw_ tr_ at y; unfold cfr_; omega)
    have c1 : cZ_ M1 2 Z := cZ_far f1 (fun o b y1 y2 y => by unfold trw_ tr_ at y; omega) kc
    refine ⟨scr_c f1c, ?_⟩
    refine ct_M_tried (by omega) (mY_c f1c j km) j g (fun _ M2 f2 m2 => ?_) (fun w => absurd ho w)
    exact ar_c h f1c ⟨s1, s2, s3⟩ c1 f2 m2 j g b (by omega)
  · refine ct_M_tried (by omega) km j g (fun w => absurd w ho) (fun _ => ?_)
    exact ar_s h (by omega)
theorem arm_define {bd : Int} {M : mm_M} (hb : 0 ≤ bd ∧ bd < 500000000) (h : St_ bd M) : pr_ (bd + 8000) mi_LI_define mi_M_define [] [] M := by
  obtain ⟨L, Z, h⟩ := h
  have h0 := h
  obtain ⟨⟨kc, km, j, g, b⟩, s, im⟩ := h0
  refine pr_I (by decide) (by decide) ((show nr_LI_define  M (fun x M1 => scr_ M M1 ∧ nr_M_define  M1 (Ar_ (bd + 8000) M.1 M x)) from ?_) M.1 L rfl)
  refine ct_LI_define (by omega) kc j b (fun M1 f1 c1 => ?_)
  have f1c : fr_ cfr_ M M1 := fr_mono f1 (fun o b y => by unfold dfc_ at y; unfold cfr_; omega)
  refine ⟨scr_c f1c, ?_⟩
  refine ct_M_define (mY_c f1c j km) j b (fun M2 f2 m2 => ?_)
  exact ar_c h f1c (sl_now f1 (fun o b y => by unfold dfc_ at y; omega) s) c1 f2 m2 (jZ_dfn j) (jI_dfn g) jB_dfn (by omega)
theorem arm_again {bd u : Int} {M : mm_M} (hb : 0 ≤ bd ∧ bd < 500000000) (h : St_ bd M) : pr_ (bd + 8000) mi_LI_again mi_M_again [.inl u] [.inl u] M := by
  obtain ⟨L, Z, h⟩ := h
  have h0 := h
  obtain ⟨⟨kc, km, j, g, b⟩, s, im⟩ := h0
  refine pr_Z (by decide) (by decide) ((show nr_LI_again u M (fun x M1 => scr_ M M1 ∧ nr_M_again u M1 (Ar_ (bd + 8000) M.1 M x)) from ?_) M.1 L rfl)
  obtain ⟨i1, i2, i3⟩ := im
  by_cases hk : 0 ≤ u ∧ u < 3
  · rcases i1 u hk.1 hk.2 with ⟨w1, w2⟩ | ⟨w1, ⟨q, q1, q2, q3⟩, W, c, m, jz, ji, jb⟩
    · refine ct_LI_again (bd := bd) (Z := Z) (fun _ y => absurd w1 y) kc.1.1.2.2.2.1 (s0_cZ kc) (fun _ y => absurd w1 y) (fun _ => ⟨scr_r, ?_⟩)
      refine ct_M_again (bd := bd) (Z := Z) (fun _ y => absurd w2 y) (fun _ y => absurd w2 y) (fun _ => ?_)
      exact ar_s h (by omega)
    · have sk : sk_ (nn_rr M 406 u) := by unfold sk_; omega
      refine ct_LI_again (bd := bd) (Z := W) (fun _ _ => ⟨⟨c, jz⟩, sk, by omega⟩) kc.1.1.2.2.2.1 (s0_cZ kc) (fun _ _ M1 f1 c1 => ⟨scr_c (nowc_ f1), ?_⟩) (fun y => absurd ⟨hk, by omega⟩ y)
      have e9 : nn_ri M1 409 u = 1 := (fr_ri f1 (fun y => by unfold now_ at y; omega)).trans w1
      have mW : mY_ bd M1 (16422 + 5474 * u) W := mY_fr2 f1 (by unfold bk_; omega) (fun b _ _ y => by unfold now_ at y; omega) jz m
      refine ct_M_again (bd := bd) (Z := W) (fun _ _ => ⟨mW, jz⟩) (fun _ _ M2 f2 m2 => ?_) (fun y => absurd ⟨hk, by omega⟩ y)
      exact ar_now h f1 c1 (fr_mono f2 (fun o b y => by unfold mz_ at y; unfold mod_; omega)) m2 jz ji jb (by omega)
  · refine ct_LI_again (bd := bd) (Z := Z) (fun y _ => absurd y hk) kc.1.1.2.2.2.1 (s0_cZ kc) (fun y _ => absurd y hk) (fun _ => ⟨scr_r, ?_⟩)
    refine ct_M_again (bd := bd) (Z := Z) (fun y _ => absurd y hk) (fun y _ => absurd y hk) (fun _ => ?_)
    exact ar_s h (by omega)
theorem arm_fault {bd u : Int} {M : mm_M} (hb : 0 ≤ bd ∧ bd < 500000000) (h : St_ bd M) : pr_ (bd + 8000) mi_LI_fault mi_M_fault [.inl u] [.inl u] M := by
  obtain ⟨L, Z, h⟩ := h
  have h0 := h
  obtain ⟨⟨kc, km, j, g, b⟩, s, im⟩ := h0
  refine np_LI_fault (by decide) L rfl ⟨_, rfl, scr_r, np_M_fault (by decide) L rfl ⟨?_, fun _ _ _ => rfl, L, ?_⟩⟩
  · rw [nf_fault kc, nf_faultM km]
  · exact (ar_s (x := 0) h (by omega)).2.2
theorem arm_why {bd u v : Int} {M : mm_M} (hb : 0 ≤ bd ∧ bd < 500000000) (h : St_ bd M) : pr_ (bd + 8000) mi_LI_why mi_M_why [.inl u, .inl v] [.inl u, .inl v] M := by
  obtain ⟨L, Z, h⟩ := h
  have h0 := h
  obtain ⟨⟨kc, km, j, g, b⟩, s, im⟩ := h0
  refine np_LI_why (by decide) L rfl (nf_why kc).1 ⟨_, rfl, scr_r, np_M_why (by decide) L rfl (nf_whyM km).1 ⟨?_, fun _ _ _ => rfl, L, ?_⟩⟩
  · rw [(nf_why kc).2, (nf_whyM km).2]
  · exact (ar_s (x := 0) h (by omega)).2.2
theorem arm_row {bd u v : Int} {M : mm_M} (hb : 0 ≤ bd ∧ bd < 500000000) (h : St_ bd M) : pr_ (bd + 8000) mi_LI_row mi_M_row [.inl u, .inl v] [.inl u, .inl v] M := by
  obtain ⟨L, Z, h⟩ := h
  have h0 := h
  obtain ⟨⟨kc, km, j, g, b⟩, s, im⟩ := h0
  refine np_LI_row (by decide) L rfl (nf_row kc j).1 ⟨_, rfl, scr_r, nn_call (by decide) ((show nr_M_row u v M (Ar_ (bd + 8000) M.1 M (rowa_ u v Z)) from ct_M_row km j (ar_s h (by omega))) M.1 L rfl) (fun w M2 hw => ?_)⟩
  obtain ⟨y, e2, L2, N2, a1, a2, Z2, a3⟩ := hw
  refine ⟨by rw [e2, a1, (nf_row kc j).2], a2, L2, Z2, ?_⟩
  rw [N2]
  exact a3
theorem arm_cost {bd u : Int} {M : mm_M} (hb : 0 ≤ bd ∧ bd < 500000000) (h : St_ bd M) : pr_ (bd + 8000) mi_LI_cost mi_M_cost [.inl u] [.inl u] M := by
  obtain ⟨L, Z, h⟩ := h
  have h0 := h
  obtain ⟨⟨kc, km, j, g, b⟩, s, im⟩ := h0
  refine nn_call (by decide) ((show nr_LI_cost u M (fun x M1 => x = costa_ u Z ∧ M1 = M) from ct_LI_cost kc j ⟨rfl, rfl⟩) M.1 L rfl) (fun v M1 hv => ?_)
  obtain ⟨x, e, _, _, e1, e2⟩ := hv
  rw [e2]
  refine ⟨x, e, scr_r, ?_⟩
  refine np_M_cost (by decide) L rfl (nf_costM km).1 ⟨?_, fun _ _ _ => rfl, L, (ar_s (x := 0) h (by omega)).2.2⟩
  rw [(nf_costM km).2, e1]
