/-! an index' text, read: what it is; the class reads so -/
def rtm_ (K N : Int → Int) (t : Int) : Int × Int × Int × Int := if K t = 1 then (if K (t + 1) = 9 then (if K (t + 2) = 2 then (0, t + 3, N (t + 2), N t) else (1, t + 2, 0, 0)) else (0, t + 1, 4, N t)) else if K t = 2 then (0, t + 1, N t, 1) else (1, t, 0, 0)
def adv_ (v : Int → Int) (c n : Int) : Int → Int := fun i => if i = c then v i + n else v i
def rsm_ (K N : Int → Int) : Nat → Int → (Int → Int) → Int × Int × (Int → Int)
  | 0, t, v => (if K t = 1 ∨ K t = 2 then 2 else 1, t, v)
  | k + 1, t, v => if (rtm_ K N t).1 ≠ 0 then (1, (rtm_ K N t).2.1, v) else if K (rtm_ K N t).2.1 = 8 then rsm_ K N k ((rtm_ K N t).2.1 + 1) (adv_ v (rtm_ K N t).2.2.1 (rtm_ K N t).2.2.2) else (0, (rtm_ K N t).2.1, adv_ v (rtm_ K N t).2.2.1 (rtm_ K N t).2.2.2)
def zv_ : Int → Int := fun _ => 0
def stf_ (u : Int → Int → Int) (f : Int) (v : Int → Int) : Int → Int → Int := fun g c => if g = f then v c else u g c
def at1_ (K N : Int → Int) (t : Int) : Int × Int × (Int → Int) := rsm_ K N 4 t zv_
def at2_ (K N : Int → Int) (t : Int) : Int × Int × (Int → Int) := rsm_ K N 4 ((at1_ K N t).2.1 + 1) zv_
def ua_ (K N : Int → Int) (a t : Int) (u : ab_U) : ab_U := (stf_ (stf_ u.1 (2 * a + 1) (at1_ K N t).2.2) (2 * a + 2) (at2_ K N t).2.2, fun i => if i = a then K (at1_ K N t).2.1 else u.2.1 i, a + 1)
def sg3_ (x : Int) : Prop := x = 10 ∨ x = 11 ∨ x = 12
def rats_ (K N : Int → Int) : Nat → Int → Int → ab_U → Int × Int × ab_U
  | 0, _, t, u => (if K t = 1 ∨ K t = 2 then 2 else 1, t, u)
  | k + 1, a, t, u => if (at1_ K N t).1 ≠ 0 then ((at1_ K N t).1, (at1_ K N t).2.1, u) else if K (at1_ K N t).2.1 ≠ 10 ∧ K (at1_ K N t).2.1 ≠ 11 ∧ K (at1_ K N t).2.1 ≠ 12 then (1, (at1_ K N t).2.1, u) else if (at2_ K N t).1 ≠ 0 then ((at2_ K N t).1, (at2_ K N t).2.1, u) else if K (at2_ K N t).2.1 = 5 then rats_ K N k (a + 1) ((at2_ K N t).2.1 + 1) (ua_ K N a t u) else (0, (at2_ K N t).2.1, ua_ K N a t u)
def u0_ (v : Int → Int) : ab_U := (fun f c => if f = 0 then v c else 0, fun _ => 0, 0)
def rwh_ (K N : Int → Int) : Int × Int × ab_U := if K (rsm_ K N 4 1 zv_).2.1 = 4 then rats_ K N 3 0 ((rsm_ K N 4 1 zv_).2.1 + 1) (u0_ (rsm_ K N 4 1 zv_).2.2) else (0, (rsm_ K N 4 1 zv_).2.1, u0_ (rsm_ K N 4 1 zv_).2.2)
def op_ (K : Int → Int) (c t : Int) : Int := if K t = c then t + 1 else t
def ob_ (K : Int → Int) (c t : Int) : Int := if K t = c then 1 else 0
/-- status (0: no fault), where it ends or the fault is, the rule, unique, mends -/
def rix_ (K N : Int → Int) : Int × Int × ab_U × Int × Int := if K 0 ≠ 3 then (1, 0, u0_ zv_, 0, 0) else if (rsm_ K N 4 1 zv_).1 ≠ 0 then ((rsm_ K N 4 1 zv_).1, (rsm_ K N 4 1 zv_).2.1, u0_ zv_, 0, 0) else if (rwh_ K N).1 ≠ 0 then ((rwh_ K N).1, (rwh_ K N).2.1, u0_ zv_, 0, 0) else (if K (op_ K 7 (op_ K 6 (rwh_ K N).2.1)) = 0 then 0 else 1, op_ K 7 (op_ K 6 (rwh_ K N).2.1), (rwh_ K N).2.2, ob_ K 6 (rwh_ K N).2.1, ob_ K 7 (op_ K 6 (rwh_ K N).2.1))
/-- tokens that can be; that the reader shows -/
def kn_ (K N : Int → Int) (T : Int) : Prop := (0 ≤ T ∧ T ≤ 200) ∧ K T = 0 ∧ ∀ t, 0 ≤ t → t < T → (K t = 1 → 0 ≤ N t ∧ N t ≤ 99) ∧ (K t = 2 → 0 ≤ N t ∧ N t ≤ 3)
def rk_ (M : mm_M) (K N S : Int → Int) (T : Int) : Prop := ∀ t, 0 ≤ t → t ≤ T → nn_ri M 404 t = S t ∧ nn_ri M 403 t = K t ∧ (t < T → nn_ri M 405 t = N t)
theorem rk_fr {P : Nat → Nat → Prop} {M M' : mm_M} (f : fr_ P M M') (h : ∀ o b, (o = 403 ∨ o = 404 ∨ o = 405) → ¬ P o b) {K N S : Int → Int} {T : Int} (k : rk_ M K N S T) : rk_ M' K N S T := fun t t0 t1 => by
  obtain ⟨a, b, c⟩ := k t t0 t1
  exact ⟨(fr_ri f (h _ _ (by omega))).trans a, (fr_ri f (h _ _ (by omega))).trans b, fun z => (fr_ri f (h _ _ (by omega))).trans (c z)⟩
theorem kn_lt {K N : Int → Int} {T t : Int} (k : kn_ K N T) (h : t ≤ T) (hk : K t ≠ 0) : t < T := by
  by_cases z : t = T
  · rw [z] at hk; exact absurd k.2.1 hk
  · omega
theorem rtm_in {K N : Int → Int} {T t : Int} (k : kn_ K N T) (ht : 0 ≤ t ∧ t ≤ T) : (t ≤ (rtm_ K N t).2.1 ∧ (rtm_ K N t).2.1 ≤ T) ∧ ((rtm_ K N t).1 = 0 ∨ (rtm_ K N t).1 = 1) ∧ ((rtm_ K N t).1 = 0 → (0 ≤ (rtm_ K N t).2.2.1 ∧ (rtm_ K N t).2.2.1 < 5) ∧ 0 ≤ (rtm_ K N t).2.2.2 ∧ (rtm_ K N t).2.2.2 ≤ 99) := by
  unfold rtm_
  by_cases a : K t = 1
  · have l1 := kn_lt k ht.2 (by rw [a]; decide)
    have n1 := (k.2.2 t ht.1 l1).1 a
    rw [if_pos a]
    by_cases b : K (t + 1) = 9
    · have l2 := kn_lt k (t := t + 1) (by omega) (by rw [b]; decide)
      rw [if_pos b]
      by_cases c : K (t + 2) = 2
      · have l3 := kn_lt k (t := t + 2) (by omega) (by rw [c]; decide)
        have n3 := (k.2.2 (t + 2) (by omega) l3).2 c
        rw [if_pos c]
        dsimp only
        omega
      · rw [if_neg c]
        dsimp only
        omega
    · rw [if_neg b]
      dsimp only
      omega
  · rw [if_neg a]
    by_cases b : K t = 2
    · have l1 := kn_lt k ht.2 (by rw [b]; decide)
      have n1 := (k.2.2 t ht.1 l1).2 b
      rw [if_pos b]
      dsimp only
      omega
    · rw [if_neg b]
      dsimp only
      omega
/-- a sum's numbers -/
def vb_ (v : Int → Int) (b : Int) : Prop := (∀ c, 0 ≤ c → c < 5 → 0 ≤ v c) ∧ v 0 + v 1 + v 2 + v 3 + v 4 ≤ b
theorem vb_adv {v : Int → Int} {b c n : Int} (h : vb_ v b) (hc : 0 ≤ c ∧ c < 5) (hn : 0 ≤ n ∧ n ≤ 99) : vb_ (adv_ v c n) (b + 99) := by
  obtain ⟨h1, h2⟩ := h
  refine ⟨fun i i0 i1 => ?_, ?_⟩
  · unfold adv_
    have := h1 i i0 i1
    split <;> omega
  · have hc : c = 0 ∨ c = 1 ∨ c = 2 ∨ c = 3 ∨ c = 4 := by omega
    unfold adv_
    rcases hc with z | z | z | z | z <;> subst z <;> simp <;> omega
theorem vb_le {v : Int → Int} {b : Int} (h : vb_ v b) {c : Int} (c0 : 0 ≤ c) (c1 : c < 5) : v c ≤ b := by
  obtain ⟨h1, h2⟩ := h
  have a0 := h1 0 (by omega) (by omega)
  have a1 := h1 1 (by omega) (by omega)
  have a2 := h1 2 (by omega) (by omega)
  have a3 := h1 3 (by omega) (by omega)
  have a4 := h1 4 (by omega) (by omega)
  have hc : c = 0 ∨ c = 1 ∨ c = 2 ∨ c = 3 ∨ c = 4 := by omega
  rcases hc with z | z | z | z | z <;> subst z <;> omega
theorem vb_0 : vb_ zv_ 0 := ⟨fun _ _ _ => Int.le_refl _, by unfold zv_; omega⟩
theorem rsm_in {K N : Int → Int} {T : Int} (k : kn_ K N T) : ∀ (m : Nat) (t : Int) (v : Int → Int) (b : Int), (0 ≤ t ∧ t ≤ T) → vb_ v b → (t ≤ (rsm_ K N m t v).2.1 ∧ (rsm_ K N m t v).2.1 ≤ T) ∧ ((rsm_ K N m t v).1 = 0 ∨ (rsm_ K N m t v).1 = 1 ∨ (rsm_ K N m t v).1 = 2) ∧ ((rsm_ K N m t v).1 = 0 → vb_ (rsm_ K N m t v).2.2 (b + 99 * (m : Int)))
  | 0, t, v, b, ht, hv => by
    have e : rsm_ K N 0 t v = (if K t = 1 ∨ K t = 2 then 2 else 1, t, v) := rfl
    rw [e]
    refine ⟨⟨Int.le_refl _, ht.2⟩, ?_, fun w => ?_⟩
    · dsimp only
      split <;> omega
    · dsimp only at w
      split at w <;> omega
  | m + 1, t, v, b, ht, hv => by
    obtain ⟨r1, r2, r3⟩ := rtm_in k ht
    unfold rsm_
    by_cases a : (rtm_ K N t).1 ≠ 0
    · rw [if_pos a]
      exact ⟨r1, Or.inr (Or.inl rfl), fun w => absurd (show (1 : Int) = 0 from w) (by decide)⟩
    · rw [if_neg a]
      have a0 : (rtm_ K N t).1 = 0 := by omega
      obtain ⟨r4, r5⟩ := r3 a0
      have hv2 := vb_adv hv r4 r5
      by_cases c : K (rtm_ K N t).2.1 = 8
      · rw [if_pos c]
        have l := kn_lt k r1.2 (by rw [c]; decide)
        obtain ⟨h1, h2, h3⟩ := rsm_in k m ((rtm_ K N t).2.1 + 1) (adv_ v (rtm_ K N t).2.2.1 (rtm_ K N t).2.2.2) (b + 99) ⟨by omega, by omega⟩ hv2
        refine ⟨⟨by omega, h1.2⟩, h2, fun w => ?_⟩
        have := h3 w
        rw [show b + 99 + 99 * (m : Int) = b + 99 * ((m + 1 : Nat) : Int) by omega] at this
        exact this
      · rw [if_neg c]
        refine ⟨r1, Or.inl rfl, fun _ => ⟨hv2.1, ?_⟩⟩
        have := hv2.2
        show adv_ v (rtm_ K N t).2.2.1 (rtm_ K N t).2.2.2 0 + adv_ v (rtm_ K N t).2.2.1 (rtm_ K N t).2.2.2 1 + adv_ v (rtm_ K N t).2.2.1 (rtm_ K N t).2.2.2 2 + adv_ v (rtm_ K N t).2.2.1 (rtm_ K N t).2.2.2 3 + adv_ v (rtm_ K N t).2.2.1 (rtm_ K N t).2.2.2 4 ≤ b + 99 * ((m + 1 : Nat) : Int)
        omega
/-! the class -/
theorem ct_Rd_passes {K N S : Int → Int} {T t c : Int} {M : mm_M} {R : Int → mm_M → Prop} (k : kn_ K N T) (r : rk_ M K N S T) (ht : 0 ≤ t ∧ t ≤ T) (ha : nn_rf M 402 3 = t) (hc : c ≠ 0) (h1 : K t = c → t < T → ∀ M', fr_ (fun o b => o = 402 ∧ b = 3) M M' → nn_rf M' 402 3 = t + 1 → R 1 M') (h0 : K t ≠ c → R 0 M) : nr_Reader_passes c M R := by
  have hT := k.1
  refine ng_Reader_passes _ _ _ ?_
  rw [ha, (r t ht.1 ht.2).2.1, mm_w_id (x := t + 1) (by omega)]
  refine ⟨by omega, fun y => ?_, h0⟩
  intro M1 e1
  exact h1 y (kn_lt k ht.2 (by rw [y]; exact hc)) M1 (by rw [e1]; exact fr_uf (fr_refl M) ⟨rfl, rfl⟩) (by rw [e1, rd_ff, if_pos ⟨rfl, rfl⟩])
theorem ct_Ru_add {r : Nat} {f c n : Int} {v : Int → Int} {b : Int} {M : mm_M} {R : mm_M → Prop} (hf : 0 ≤ f ∧ f < 7) (hc : 0 ≤ c ∧ c < 5) (hn : 0 ≤ n ∧ n ≤ 99) (hv : vb_ v b) (hb : b ≤ 1000) (hr : ∀ c, 0 ≤ c → c < 5 → nn_ri M (r + 1) (5 * f + c) = v c)
    (h : ∀ M', fr_ (fun o b => o = r + 1 ∧ 5 * f ≤ (b : Int) ∧ (b : Int) < 5 * f + 5) M M' → (∀ c', 0 ≤ c' → c' < 5 → nn_ri M' (r + 1) (5 * f + c') = adv_ v c n c') → R M') : nr_Rule_add r f c n M R := by
  refine ng_Rule_add _ _ _ _ _ _ ?_
  have h0 := hv.1 c hc.1 hc.2
  have h1 := vb_le hv hc.1 hc.2
  rw [mm_w_id (x := 5 * f) (by omega), mm_w_id (x := 5 * f + c) (by omega), hr c hc.1 hc.2, mm_w_id (x := v c + n) (by omega)]
  refine ⟨by omega, by omega, ?_⟩
  intro M1 e1
  refine h M1 (by rw [e1]; exact fr_ui (fr_refl M) ⟨rfl, by omega, by omega⟩) (fun c' c0 c1 => ?_)
  rw [e1, rd_ii]
  unfold adv_
  by_cases z : c' = c
  · rw [if_pos ⟨rfl, by rw [z]⟩, if_pos z, z]
  · rw [if_neg (by omega), if_neg z]; exact hr c' c0 c1
/-- cells that a sum's reading writes -/
def rsc_ (r : Nat) (f : Int) (o b : Nat) : Prop := (o = 402 ∧ (b = 3 ∨ b = 4)) ∨ (o = r + 1 ∧ 5 * f ≤ (b : Int) ∧ (b : Int) < 5 * f + 5)
theorem ct_Rd_term {K N S : Int → Int} {T t f b : Int} {r : Nat} {v : Int → Int} {M : mm_M} {R : Int → mm_M → Prop} (hrr : r + 1 < 402) (k : kn_ K N T) (rk : rk_ M K N S T) (ht : 0 ≤ t ∧ t ≤ T) (ha : nn_rf M 402 3 = t) (hf : 0 ≤ f ∧ f < 7) (hv : vb_ v b) (hb : b ≤ 1000) (hr : ∀ c, 0 ≤ c → c < 5 → nn_ri M (r + 1) (5 * f + c) = v c)
    (h1 : (rtm_ K N t).1 = 0 → ∀ M', fr_ (rsc_ r f) M M' → nn_rf M' 402 3 = (rtm_ K N t).2.1 → (∀ c', 0 ≤ c' → c' < 5 → nn_ri M' (r + 1) (5 * f + c') = adv_ v (rtm_ K N t).2.2.1 (rtm_ K N t).2.2.2 c') → R 1 M')
    (h0 : (rtm_ K N t).1 ≠ 0 → ∀ M', fr_ (rsc_ r f) M M' → nn_rf M' 402 3 = (rtm_ K N t).2.1 → R 0 M') : nr_Reader_readTerm r f M R := by
  have hT := k.1
  obtain ⟨k1, k2, k3⟩ := rk t ht.1 ht.2
  -- the column at the end of it
  have col : ∀ (s n : Int) (M1 : mm_M), fr_ (fun o b => o = 402 ∧ b = 3) M M1 → nn_rf M1 402 3 = s → 0 ≤ s → s < T → K s = 2 → 0 ≤ n ∧ n ≤ 99 → (∀ M', fr_ (rsc_ r f) M M' → nn_rf M' 402 3 = s + 1 → (∀ c', 0 ≤ c' → c' < 5 → nn_ri M' (r + 1) (5 * f + c') = adv_ v (N s) n c') → R 1 M') → nr_Rule_add r f (nn_ri M1 405 s) n M1 (fun M80 => (∀ M90 : mm_M, M90 = nn_uf M80 402 3 (mm_w ((nn_rf M80 402 3) + 1)) → R 1 M90)) := by
    intro s n M1 f1 a1 s0 s1 ks hn hR
    have e5 : nn_ri M1 405 s = N s := (fr_ri f1 (by omega)).trans ((rk s s0 (by omega)).2.2 s1)
    have hs := (k.2.2 s s0 s1).2 ks
    rw [e5]
    refine ct_Ru_add hf ⟨hs.1, by omega⟩ hn hv hb (fun c c0 c1 => (fr_ri f1 (by omega)).trans (hr c c0 c1)) (fun M2 f2 g2 => ?_)
    have a2 : nn_rf M2 402 3 = s := (fr_rf f2 (by omega)).trans a1
    rw [a2, mm_w_id (x := s + 1) (by omega)]
    intro M3 e3
    refine hR M3 ?_ (by rw [e3, rd_ff, if_pos ⟨rfl, rfl⟩]) (fun c c0 c1 => by rw [e3, rd_if, if_neg (by omega)]; exact g2 c c0 c1)
    rw [e3]
    exact fr_uf (fr_trans (fr_mono f1 (fun o b y => Or.inl ⟨y.1, Or.inl y.2⟩)) (fr_mono f2 (fun o b y => Or.inr y))) (Or.inl ⟨rfl, Or.inl rfl⟩)
  unfold rtm_ at h1 h0
  refine ng_Reader_readTerm _ _ _ _ ?_
  rw [ha, k2]
  refine ⟨by omega, fun n1 => ⟨by omega, fun y2 => ⟨by omega, ?_⟩, fun n2 => ?_⟩, fun y1 => ⟨by omega, ?_⟩⟩
  · rw [if_neg n1, if_pos y2] at h1
    exact col t 1 M (fr_refl M) ha ht.1 (kn_lt k ht.2 (by rw [y2]; decide)) y2 (by omega) (h1 rfl)
  · rw [if_neg n1, if_neg n2] at h0
    exact h0 (show (1 : Int) ≠ 0 by decide) M (fr_refl M) ha
  · have l1 := kn_lt k ht.2 (by rw [y1]; decide)
    rw [if_pos y1] at h1 h0
    have n1 := (k.2.2 t ht.1 l1).1 y1
    rw [k3 l1, mm_w_id (x := t + 1) (by omega)]
    intro M1 e1
    have f1 : fr_ (fun o b => o = 402 ∧ b = 3) M M1 := by rw [e1]; exact fr_uf (fr_refl M) ⟨rfl, rfl⟩
    have a1 : nn_rf M1 402 3 = t + 1 := by rw [e1, rd_ff, if_pos ⟨rfl, rfl⟩]
    have rk1 := rk_fr f1 (fun o b y => by omega) rk
    refine ct_Rd_passes k rk1 ⟨by omega, by omega⟩ a1 (by decide) (fun y9 l2 M2 f2 a2 => ?_) (fun n9 => ?_)
    · rw [if_pos y9] at h1 h0
      have F2 := fr_trans f1 f2
      have rk2 := rk_fr F2 (fun o b y => by omega) rk
      rw [show t + 1 + 1 = t + 2 by omega] at a2
      refine ⟨fun _ => ?_, fun w => absurd w (by decide)⟩
      rw [a2, (rk2 (t + 2) (by omega) (by omega)).2.1]
      refine ⟨by omega, fun y2 => ⟨by omega, ?_⟩, fun n2 => ?_⟩
      · rw [if_pos y2] at h1
        have l3 := kn_lt k (t := t + 2) (by omega) (by rw [y2]; decide)
        exact col (t + 2) (N t) M2 F2 a2 (by omega) l3 y2 n1 (fun M' f' a' g' => h1 rfl M' f' (by rw [a']; show t + 2 + 1 = t + 3; omega) g')
      · rw [if_neg n2] at h0
        exact h0 (show (1 : Int) ≠ 0 by decide) M2 (fr_mono F2 (fun o b y => Or.inl ⟨y.1, Or.inl y.2⟩)) a2
    · rw [if_neg n9] at h1
      refine ⟨fun w => absurd rfl w, fun _ => ?_⟩
      refine ct_Ru_add hf ⟨by omega, by omega⟩ n1 hv hb (fun c c0 c1 => (fr_ri f1 (by omega)).trans (hr c c0 c1)) (fun M2 f2 g2 => ?_)
      exact h1 rfl M2 (fr_trans (fr_mono f1 (fun o b y => Or.inl ⟨y.1, Or.inl y.2⟩)) (fr_mono f2 (fun o b y => Or.inr y))) ((fr_rf f2 (by omega)).trans a1) g2
theorem nf_begins {K N S : Int → Int} {T t : Int} {M : mm_M} (rk : rk_ M K N S T) (k : kn_ K N T) (ht : 0 ≤ t ∧ t ≤ T) (ha : nn_rf M 402 3 = t) : nc_Reader_beginsTerm M ∧ (nf_Reader_beginsTerm M ≠ 0 ↔ (K t = 1 ∨ K t = 2)) := by
  have hT := k.1
  unfold nc_Reader_beginsTerm nf_Reader_beginsTerm
  rw [ha, (rk t ht.1 ht.2).2.1]
  refine ⟨⟨by omega, fun _ => by omega⟩, ?_⟩
  by_cases a : K t = 1
  · rw [if_pos a]
    exact ⟨fun _ => Or.inl a, fun _ => by decide⟩
  · rw [if_neg a]
    by_cases b : K t ≠ 2
    · rw [if_pos b]
      exact ⟨fun w => absurd rfl w, fun w => by omega⟩
    · rw [if_neg b]
      exact ⟨fun _ => Or.inr (by omega), fun _ => by decide⟩
theorem ct_Rd_fails {c : Int} {M : mm_M} {R : Int → mm_M → Prop} (h : ∀ M', fr_ (fun o b => o = 402 ∧ b = 4) M M' → nn_rf M' 402 4 = c → R 0 M') : nr_Reader_fails c M R := by
  refine ng_Reader_fails _ _ _ ?_
  intro M1 e1
  exact h M1 (by rw [e1]; exact fr_uf (fr_refl M) ⟨rfl, rfl⟩) (by rw [e1, rd_ff, if_pos ⟨rfl, rfl⟩])
theorem ct_Rd_sum {K N S : Int → Int} {T t f : Int} {r : Nat} {M : mm_M} {R : Int → mm_M → Prop} (hrr : r + 1 < 402) (k : kn_ K N T) (rk : rk_ M K N S T) (ht : 0 ≤ t ∧ t ≤ T) (ha : nn_rf M 402 3 = t) (hf : 0 ≤ f ∧ f < 7) (hr : ∀ c, 0 ≤ c → c < 5 → nn_ri M (r + 1) (5 * f + c) = 0)
    (h1 : (rsm_ K N 4 t zv_).1 = 0 → ∀ M', fr_ (rsc_ r f) M M' → nn_rf M' 402 3 = (rsm_ K N 4 t zv_).2.1 → (∀ c, 0 ≤ c → c < 5 → nn_ri M' (r + 1) (5 * f + c) = (rsm_ K N 4 t zv_).2.2 c) → R 1 M')
    (h0 : (rsm_ K N 4 t zv_).1 ≠ 0 → ∀ M', fr_ (rsc_ r f) M M' → nn_rf M' 402 3 = (rsm_ K N 4 t zv_).2.1 → nn_rf M' 402 4 = (rsm_ K N 4 t zv_).1 → R 0 M') : nr_Reader_readSum r f M R := by
  have hT := k.1
  generalize hres : rsm_ K N 4 t zv_ = res at h1 h0
  refine ng_Reader_readSum _ _ _ _ ?_
  have L : ∀ (m : Nat) (i s b : Int) (v : Int → Int) (M1 : mm_M), (m : Int) = 4 - i → 0 ≤ i → fr_ (rsc_ r f) M M1 → (0 ≤ s ∧ s ≤ T) → nn_rf M1 402 3 = s → vb_ v b → b ≤ 99 * i → (∀ c, 0 ≤ c → c < 5 → nn_ri M1 (r + 1) (5 * f + c) = v c) → rsm_ K N m s v = res → nk_Reader_readSum_2 r f i M1 R := by
    intro m
    induction m with
    | zero =>
      intro i s b v M1 hm i0 f1 hs a1 hv hb g1 he
      have rk1 := rk_fr f1 (fun o b y => by unfold rsc_; omega) rk
      have e0 : rsm_ K N 0 s v = (if K s = 1 ∨ K s = 2 then 2 else 1, s, v) := rfl
      rw [e0] at he
      rw [← he] at h0
      obtain ⟨n1, n2⟩ := nf_begins rk1 k hs a1
      refine ng_Reader_readSum_2 _ _ _ _ _ ⟨fun _ => ⟨n1, fun y => ?_, fun y => ?_⟩, fun y => by omega⟩
      · have hn : ¬ (K s = 1 ∨ K s = 2) := fun w => absurd y (n2.mpr w)
        rw [if_neg hn] at h0
        exact ct_Rd_fails (fun M2 f2 g2 => h0 (show (1 : Int) ≠ 0 by decide) M2 (fr_trans f1 (fr_mono f2 (fun o b y => Or.inl ⟨y.1, Or.inr y.2⟩))) ((fr_rf f2 (by omega)).trans a1) g2)
      · rw [if_pos (n2.mp y)] at h0
        exact ct_Rd_fails (fun M2 f2 g2 => h0 (show (2 : Int) ≠ 0 by decide) M2 (fr_trans f1 (fr_mono f2 (fun o b y => Or.inl ⟨y.1, Or.inr y.2⟩))) ((fr_rf f2 (by omega)).trans a1) g2)
    | succ m ih =>
      intro i s b v M1 hm i0 f1 hs a1 hv hb g1 he
      have rk1 := rk_fr f1 (fun o b y => by unfold rsc_; omega) rk
      obtain ⟨r1, r2, r3⟩ := rtm_in k hs
      unfold rsm_ at he
      refine ng_Reader_readSum_2 _ _ _ _ _ ⟨fun y => by omega, fun _ => ?_⟩
      refine ct_Rd_term hrr k rk1 hs a1 hf hv (by omega) g1 (fun w M2 f2 a2 g2 => ?_) (fun w M2 f2 a2 => ?_)
      · rw [if_neg (fun y => y w)] at he
        refine ⟨fun _ => ?_, fun y => absurd y (by decide)⟩
        have F2 := fr_trans f1 f2
        have rk2 := rk_fr F2 (fun o b y => by unfold rsc_; omega) rk
        obtain ⟨r4, r5⟩ := r3 w
        refine ct_Rd_passes k rk2 ⟨by omega, r1.2⟩ a2 (by decide) (fun y8 l M3 f3 a3 => ⟨fun _ => ?_, fun y => absurd y (by decide)⟩) (fun n8 => ⟨fun y => absurd rfl y, fun _ => ?_⟩)
        · rw [if_pos y8] at he
          rw [mm_w_id (x := i + 1) (by omega)]
          exact ih (i + 1) _ (b + 99) _ M3 (by omega) (by omega) (fr_trans F2 (fr_mono f3 (fun o b y => Or.inl ⟨y.1, Or.inl y.2⟩))) ⟨by omega, by omega⟩ a3 (vb_adv hv r4 r5) (by omega) (fun c c0 c1 => (fr_ri f3 (by omega)).trans (g2 c c0 c1)) he
        · rw [if_neg n8] at he
          rw [← he] at h1
          exact h1 rfl M2 F2 a2 g2
      · rw [if_pos w] at he
        rw [← he] at h0
        refine ⟨fun y => absurd rfl y, fun _ => ?_⟩
        have F2 := fr_trans f1 f2
        exact ct_Rd_fails (fun M3 f3 g3 => h0 (show (1 : Int) ≠ 0 by decide) M3 (fr_trans F2 (fr_mono f3 (fun o b y => Or.inl ⟨y.1, Or.inr y.2⟩))) ((fr_rf f3 (by omega)).trans a2) g3)
  exact L 4 0 t 0 zv_ M (by omega) (Int.le_refl _) (fr_refl M) ht ha vb_0 (by omega) hr hres
