/-! the class's Store: a write that is not refused -/
theorem ct_X_tak {x : Nat} {key row st1 : Int} {lat lat' : ab_V} {c : Int × Int} {X : ab_X} {M : mm_M} {R : mm_M → Prop} (hx : xk_ x) (hk : 0 ≤ key ∧ key < 32) (hrow : row = -1 ∨ (0 ≤ row ∧ row < 65536)) (hst : 0 ≤ st1 ∧ st1 < 2147483648) (k : cX_ M x lat X) (h0 : xh_ X ≠ 0) (hsg : ∀ a, 0 ≤ a → a < (xu_ X).2.2 → (xu_ X).2.1 a = 10 ∨ (xu_ X).2.1 a = 11 ∨ (xu_ X).2.1 a = 12) (hA : ∀ y, xA_ X y → ve_ y ∧ et_ y < st1) (hcap : cz_ (xA_ X) < 12) (hlat : ∀ j, j < 32 → j ≠ key.toNat → lat' j = lat j) (hlk : lat' key.toNat = some (st1, row))
    (h : ∀ M', fr_ (fun o _ => o = x + 4 ∨ o = x + 5 ∨ o = x + 14) M M' → cX_ M' x lat' (tk2_ key row st1 c X).2 → R M') : nr_Index_take x key row st1 M R := by
  obtain ⟨k0, ks, k1⟩ := k
  obtain ⟨⟨a1, a2, a3, a4⟩, b, e1, ⟨e2, e3⟩, p, vv⟩ := k1 h0
  have hb := b.1
  have hva := va_in hb row
  have z1 := es_cz e1 (fun y hy => (hA y hy).1)
  have vals : ∀ M', fr_ (fun o _ => o = x + 4 ∨ o = x + 5 ∨ o = x + 14) M M' → (∀ j, 0 ≤ j → j < 32 → j ≠ key → nn_ri M' (x + 14) j = nn_ri M (x + 14) j) → nn_ri M' (x + 14) key = vk_ (xu_ X) (some (st1, row)) → ∀ A, es_ M' (x + 4) A → cX_ M' x lat' (X.1, X.2.1, A, X.2.2.2) := by
    intro M' u g1 g2 A hA
    have rf : ∀ o b, x ≤ o → o < x + 15 → o ≠ x + 4 → o ≠ x + 5 → o ≠ x + 14 → nn_rf M' o b = nn_rf M o b := fun o b z z2 z3 z4 z5 => fr_rf u (fun y => by omega)
    refine ⟨(rf _ _ (by omega) (by omega) (by omega) (by omega) (by omega)).trans k0, (fr_ri u (fun y => by omega)).trans ks, fun _ => ⟨⟨(rf _ _ (by omega) (by omega) (by omega) (by omega) (by omega)).trans a1, (rf _ _ (by omega) (by omega) (by omega) (by omega) (by omega)).trans a2, (rf _ _ (by omega) (by omega) (by omega) (by omega) (by omega)).trans a3, (rf _ _ (by omega) (by omega) (by omega) (by omega) (by omega)).trans a4⟩, rl_fr u (fun o b z z2 y => by omega) b, hA, ⟨es_fr u (fun o b z y => by have := z.1; have := z.2; omega) e2, (rf _ _ (by omega) (by omega) (by omega) (by omega) (by omega)).trans e3⟩, pl_fr u (fun o b z z2 y => by omega) p, fun j j0 j1 => ?_⟩⟩
    by_cases z : j = key
    · rw [z, g2, hlk]
    · rw [g1 j j0 j1 z, hlat j.toNat (by omega) (by omega)]
      exact vv j j0 j1
  refine ct_I_take hx hk hrow hst b hsg e1 (by omega) (fun hr hy => ?_) (fun M' hz u g => ?_) (fun M' hr hv u g gs gn => ?_)
  · have := hA _ hy
    by_cases z : va_ (xu_ X) row = -1
    · rw [z] at this
      have := this.1.1
      unfold en_ at this
      omega
    · have e := (en_parts (v := va_ (xu_ X) row) (k := key) (s := st1) (by omega) hk hst).2.2.2
      omega
  · have hz2 : xh_ X = 0 ∨ row = -1 ∨ va_ (xu_ X) row = -1 := Or.inr hz
    rw [tk2_0 hz2] at h
    have u' := fr_mono (Q := fun o _ => o = x + 4 ∨ o = x + 5 ∨ o = x + 14) u (fun o b y => Or.inr (Or.inr y.1))
    refine h M' u' (vals M' u' (fun j j0 j1 jk => fr_ri u (fun y => by omega)) ?_ _ (es_fr u (fun o b z y => by have := z.1; have := z.2; omega) e1))
    rw [g]
    show (-1 : Int) = if row = -1 then -1 else va_ (xu_ X) row
    by_cases y : row = -1
    · rw [if_pos y]
    · rw [if_neg y]; exact (hz.resolve_left y).symm
  · have hz2 : ¬ (xh_ X = 0 ∨ row = -1 ∨ va_ (xu_ X) row = -1) := by omega
    rw [tk2_1 hz2] at h
    have u' := fr_mono (Q := fun o _ => o = x + 4 ∨ o = x + 5 ∨ o = x + 14) u (fun o b y => by omega)
    refine h M' u' (vals M' u' (fun j j0 j1 jk => fr_ri u (fun y => by omega)) ?_ _ gs)
    rw [g]
    show va_ (xu_ X) row = if row = -1 then -1 else va_ (xu_ X) row
    rw [if_neg hr]
theorem ct_X_rpX {t x : Nat} {st nb bd : Int} {lat latv : ab_V} {c : Int × Int} {X : ab_X} {M : mm_M} {R : Int → mm_M → Prop} (htx : t + 82 ≤ x) (k : cX_ M x latv X) (h0 : xh_ X ≠ 0) (w : wX_ nb bd X) (hve : ∀ r, 0 ≤ r → r < xn_ (rpX_ st lat c X).2 → ∀ y, (xg_ (rpX_ st lat c X).2 r).2.2.2.2 y → ve_ y) (h6 : nn_rf M t 6 = st) (h8 : nn_rf M t 8 = c.1) (hlat : cv_ M (t + 4) = lat) (hc : 0 ≤ c.1 ∧ c.1 < 1000000000)
    (h : ∀ M', fr_ (lf_ t x) M M' → nn_rf M' t 8 = (rpX_ st lat c X).1.1 → cX_ M' x latv (rpX_ st lat c X).2 → R (pz_ (xg_ X) (xn_ X) - pz_ (xg_ (rpX_ st lat c X).2) (xn_ (rpX_ st lat c X).2)) M') : nr_Pile_repairRuns (x + 8) t M R := by
  obtain ⟨w1, w2, w3, w4, w5⟩ := w h0
  obtain ⟨k0, ks, k1⟩ := k
  obtain ⟨⟨a1, a2, a3, a4⟩, b, e1, ⟨e2, e3⟩, p, vv⟩ := k1 h0
  refine ct_P_repairRuns (mid := c.2) (lat := lat) (by omega) p w2 hlat (by omega) (fun M' u v1 v2 => ?_)
  rw [h8, h6] at v1 v2
  rw [h8, h6]
  have z1 := pl_pz p w2
  have z2 : nn_ri M' (x + 8 + 2) (xn_ (rpX_ st lat c X).2) = pz_ (xg_ (rpX_ st lat c X).2) (xn_ (rpX_ st lat c X).2) := pl_pz v2 hve
  have z3 : (rpn_ lat st (xn_ X).toNat (xn_ X, c.1, c.2, xg_ X)).1 = xn_ (rpX_ st lat c X).2 := rfl
  rw [z3, z1, z2]
  have u' : fr_ (lf_ t x) M M' := fr_mono u (fun o b z => by unfold pq_ at z; unfold lf_; omega)
  have rf : ∀ o b, x ≤ o → o < x + 8 → nn_rf M' o b = nn_rf M o b := fun o b z z2 => fr_rf u (fun y => by unfold pq_ at y; omega)
  refine h M' u' v1 ⟨(rf _ _ (by omega) (by omega)).trans k0, v2.2.1.1, fun _ => ⟨⟨(rf _ _ (by omega) (by omega)).trans a1, (rf _ _ (by omega) (by omega)).trans a2, (rf _ _ (by omega) (by omega)).trans a3, (rf _ _ (by omega) (by omega)).trans a4⟩, rl_fr u (fun o b z z2 y => by unfold pq_ at y; omega) b, es_fr u (fun o b z y => by have := z.1; have := z.2; unfold pq_ at y; omega) e1, ⟨es_fr u (fun o b z y => by have := z.1; have := z.2; unfold pq_ at y; omega) e2, (rf _ _ (by omega) (by omega)).trans e3⟩, v2, fun j j0 j1 => ?_⟩⟩
  rw [fr_ri u (fun y => by unfold pq_ at y; omega)]
  exact vv j j0 j1
def sw_ (s o _b : Nat) : Prop := (s + 3 ≤ o ∧ o < s + 85) ∨ (s + 90 ≤ o ∧ o < s + 150)
theorem sk_far {s : Nat} (_h : sk_ s) : True := trivial
theorem nf_Isize {x : Nat} {lat : ab_V} {X : ab_X} {M : mm_M} (k : cX_ M x lat X) (h0 : xh_ X ≠ 0) (hA : ∀ y, xA_ X y → ve_ y) (hv : vl_ (xn_ X) (xg_ X)) (hs : sz_ X < 100000) : nc_Index_size x M ∧ nf_Index_size x M = sz_ X := by
  obtain ⟨k0, ks, k1⟩ := k
  obtain ⟨_, b, e1, _, p, vv⟩ := k1 h0
  refine ⟨nc_Psize p, ?_⟩
  unfold nf_Index_size
  have h1 := nf_Psize p
  have z1 := es_cz e1 hA
  have z2 := pl_pz p hv
  have z3 := cz_nn (xA_ X)
  have z4 := pz_nn (xg_ X) (xn_ X)
  rw [h1, z1, z2]
  unfold sz_ at hs ⊢
  exact mm_w_id (by omega)
/-- behind a flush: repairs -/
theorem ct_S_reps {s : Nat} {bd sb si v : Int} {T : ab_T} {M0 M : mm_M} {R : Int → mm_M → Prop} (hs : sk_ s) (hbd : bd < 900000000) (hsb : sb ≤ 80) (hsi : si ≤ 12) (f : fr_ (sw_ s) M0 M) (k : cT_ M s T) (j : jT_ bd sb si T)
    (h : ∀ M', fr_ (sw_ s) M0 M' → cT_ M' s (rp3_ T) → R v M') : nk_Store_write_108 s v 0 M R := by
  obtain ⟨kt, ⟨k6, k7, k8⟩, kX⟩ := k
  obtain ⟨dd, b, ⟨c1, c2, c3, c4⟩, d, e⟩ := j
  have mc := fd_c (F := rep2_ (aTs_ T) (aTl_ T)) (s := (aTc_ T, aTX_ T)) (a := 25) (P := wX_ 21 bd) (fun i i0 i1 => jX_w (e i i0 i1) hsb) (fun c X hX => rep2_c (fun z => ⟨(hX z).2.2.1.1, by have := (hX z).2.2.1.2; omega⟩))
  have L : ∀ i : Int, i ≤ 4 → 0 ≤ i → ∀ M1, fr_ (sw_ s) M0 M1 → tb_ M1 (s + 3) (aTm_ T) (aTl_ T) (aTn_ T) (aTq_ T) → nn_rf M1 (s + 3) 6 = aTs_ T → nn_rf M1 (s + 3) 7 = aTi_ T → nn_rf M1 (s + 3) 8 = (fd_ (rep2_ (aTs_ T) (aTl_ T)) (aTc_ T, aTX_ T) i.toNat).1.1 → cXs_ M1 s (aTl_ T) (fd_ (rep2_ (aTs_ T) (aTl_ T)) (aTc_ T, aTX_ T) i.toNat).2 → nk_Store_write_108 s v i M1 R := by
    refine lp_up (fun i hi ih h0 M1 f1 a5 a6 a7 a8 aX => ?_)
    refine ng_Store_write_108 _ _ _ _ _ ⟨fun z => ?_, fun z => ⟨⟨h0, z⟩, ?_⟩⟩
    · have e4 : i.toNat = 4 := by omega
      rw [e4] at a8 aX
      exact h M1 f1 ⟨a5, ⟨a6, a7, a8⟩, aX⟩
    have nx := ih z (by omega)
    rw [show (i + 1).toNat = i.toNat + 1 by omega] at nx
    have ei : ((i.toNat : Nat) : Int) = i := by omega
    have eX : (fd_ (rep2_ (aTs_ T) (aTl_ T)) (aTc_ T, aTX_ T) i.toNat).2 i = aTX_ T i := fd_ge _ _ _ _ (by omega)
    have kx := aX i h0 z
    rw [eX] at kx
    have eF : (fd_ (rep2_ (aTs_ T) (aTl_ T)) (aTc_ T, aTX_ T) (i.toNat + 1)) = ((rep2_ (aTs_ T) (aTl_ T) (fd_ (rep2_ (aTs_ T) (aTl_ T)) (aTc_ T, aTX_ T) i.toNat).1 (aTX_ T i)).1, fun j => if j = i then (rep2_ (aTs_ T) (aTl_ T) (fd_ (rep2_ (aTs_ T) (aTl_ T)) (aTc_ T, aTX_ T) i.toNat).1 (aTX_ T i)).2 else (fd_ (rep2_ (aTs_ T) (aTl_ T)) (aTc_ T, aTX_ T) i.toNat).2 j) := by
      show ((rep2_ (aTs_ T) (aTl_ T) (fd_ (rep2_ (aTs_ T) (aTl_ T)) (aTc_ T, aTX_ T) i.toNat).1 ((fd_ (rep2_ (aTs_ T) (aTl_ T)) (aTc_ T, aTX_ T) i.toNat).2 (i.toNat : Int))).1, fun j => if j = (i.toNat : Int) then (rep2_ (aTs_ T) (aTl_ T) (fd_ (rep2_ (aTs_ T) (aTl_ T)) (aTc_ T, aTX_ T) i.toNat).1 ((fd_ (rep2_ (aTs_ T) (aTl_ T)) (aTc_ T, aTX_ T) i.toNat).2 (i.toNat : Int))).2 else (fd_ (rep2_ (aTs_ T) (aTl_ T)) (aTc_ T, aTX_ T) i.toNat).2 j) = _
      rw [ei, eX]
    rw [eF] at nx
    have mci : (aTc_ T).1 ≤ (fd_ (rep2_ (aTs_ T) (aTl_ T)) (aTc_ T, aTX_ T) i.toNat).1.1 ∧ (fd_ (rep2_ (aTs_ T) (aTl_ T)) (aTc_ T, aTX_ T) i.toNat).1.1 ≤ (aTc_ T).1 + 25 * ((i.toNat : Nat) : Int) ∧ _ := mc i.toNat (by omega)
    generalize (fd_ (rep2_ (aTs_ T) (aTl_ T)) (aTc_ T, aTX_ T) i.toNat) = G at nx a8 aX mci
    rw [mm_w_id (x := i + 1) (by omega)]
    have hin := e i h0 z
    have hsz : xh_ (aTX_ T i) ≠ 0 → sz_ (aTX_ T i) < 100000 := fun hz => by
      obtain ⟨a, _, _, _, _, _, _, _, q⟩ := hin hz
      omega
    have stay : (xh_ (aTX_ T i) = 0 ∨ sz_ (aTX_ T i) ≤ 96) → nk_Store_write_108 s v (i + 1) M1 R := by
      intro hz
      rw [rep2_0 hz] at nx
      refine nx M1 f1 a5 a6 a7 a8 (fun j j0 j1 => ?_)
      show cX_ M1 _ _ (if j = i then aTX_ T i else _)
      by_cases y : j = i
      · rw [if_pos y, y]; exact kx
      · rw [if_neg y]; exact aX j j0 j1
    have hsize : nn_rf M1 (s + 90 + 15 * i.toNat) 5 ≠ 0 → nc_Index_size (s + 90 + 15 * i.toNat) M1 ∧ nf_Index_size (s + 90 + 15 * i.toNat) M1 = sz_ (aTX_ T i) := fun hz => by
      rw [kx.1] at hz
      have hv := jX_vl hin hz
      exact nf_Isize kx hz hv.1 hv.2.2 (hsz hz)
    refine ⟨fun _ => ⟨h0, z⟩, fun hz => (hsize hz).1, fun _ => ⟨h0, z⟩, fun hz => ?_, fun hz => ?_⟩
    · refine stay ?_
      by_cases y : nn_rf M1 (s + 90 + 15 * i.toNat) 5 = 0
      · rw [kx.1] at y; exact Or.inl y
      · rw [(hsize y).2] at hz
        exact Or.inr (hz.resolve_left y)
    · rw [(hsize hz.1).2] at hz
      rw [kx.1] at hz
      have hn : ¬ (xh_ (aTX_ T i) = 0 ∨ sz_ (aTX_ T i) ≤ 96) := by omega
      rw [rep2_1 hn] at nx
      have hj := (jX_rpX (c := G.1) hz.1 c1.1 hin).1
      refine ct_X_rpX (nb := 21) (bd := bd) (st := aTs_ T) (lat := aTl_ T) (c := G.1) (t := s + 3) (by omega) kx hz.1 (jX_w hin hsb) (jX_vl hj hz.1).2.2 a6 a8 (a5.2.1.1) (by omega) (fun M2 f2 g8 gX => ?_)
      have f2' : fr_ (sw_ s) M1 M2 := fr_mono f2 (fun o b y => by unfold lf_ at y; unfold sw_; omega)
      have oth : ∀ o b, ¬ (lf_ (s + 3) (s + 90 + 15 * i.toNat) o b) → nn_rf M2 o b = nn_rf M1 o b := fun o b y => fr_rf f2 y
      refine nx M2 (fr_trans f1 f2') (tb_fr f2 (fun o b y y2 y3 => by unfold tr_ at y; unfold lf_ at y3; omega) a5) ?_ ?_ g8 (fun j j0 j1 => ?_)
      · rw [oth _ _ (by unfold lf_; omega)]; exact a6
      · rw [oth _ _ (by unfold lf_; omega)]; exact a7
      · show cX_ M2 _ _ (if j = i then _ else _)
        by_cases y : j = i
        · rw [if_pos y, y]; exact gX
        · rw [if_neg y]
          exact cX_fr f2 (fun o b y1 y2 y3 => by unfold lf_ at y3; omega) (aX j j0 j1)
  exact L 0 (by omega) (Int.le_refl _) M f kt k6 k7 k8 kX
theorem ct_S_flush {s : Nat} {bd sb si fan : Int} {T : ab_T} {M : mm_M} {R : mm_M → Prop} (hs : sk_ s) (hfan : 2 ≤ fan ∧ fan ≤ 4) (hf : nn_rf M s 8 = fan) (hbd : bd < 900000000) (hsb : sb ≤ 80) (k : cT_ M s T) (j : jT_ bd sb si T)
    (h : ∀ M', fr_ (sw_ s) M M' → cT_ M' s (fl2_ fan T) → R M') : nr_Store_flushed s M R := by
  have ff := fl_facts hfan.1 (by omega) j hsb
  obtain ⟨kt, ⟨k6, k7, k8⟩, kX⟩ := k
  obtain ⟨dd, b, ⟨c1, c2, c3, c4⟩, d, e⟩ := j
  refine ct_S_flushed (bd := bd) hs hfan hf kt k6 k7 k8 kX ff.1 (by omega) b.2 (by omega) (by omega) (by omega) dd d (fun M' u g6 g7 g8 gt gX => ?_)
  exact h M' (fr_mono u (fun o b y => by unfold sf_ tr_ at y; unfold sw_; omega)) ⟨gt, ⟨g6, g7, g8⟩, gX⟩
theorem ct_S_wr {s : Nat} {bd room fan key row : Int} {T : ab_T} {M : mm_M} {R : Int → mm_M → Prop} (hs : sk_ s) (hk : 0 ≤ key ∧ key < 32) (hrow : row = -1 ∨ (0 ≤ row ∧ row < 65536)) (hfan : 2 ≤ fan ∧ fan ≤ 4) (hroom : room ≤ 12) (hf : nn_rf M s 8 = fan) (hr : nn_rf M s 7 = room) (hbd : bd < 800000000) (k : cT_ M s T) (j : jT_ bd 64 11 T)
    (h : ∀ M', fr_ (sw_ s) M M' → cT_ M' s (wr_ room fan key row T) → R (aTs_ T + 1) M') : nr_Table_write (s + 3) key row M (fun M33 => nk_Store_write_48 s key row (nn_rf M33 (s + 3) 6) 0 M33 R) := by
  have j1 := jT_tk3 hk hrow (by omega) j
  obtain ⟨kt, ⟨k6, k7, k8⟩, kX⟩ := k
  obtain ⟨dd, b, ⟨c1, c2, c3, c4⟩, d, e⟩ := j
  have hlat : aTl_ (tk3_ key row T) = upd_ (aTl_ T) key.toNat (some (aTs_ T + 1, row)) := lk_upd
  refine ct_T_write hk kt (by omega) (by omega) (fun M1 f1 g6 g7 gt => ?_)
  rw [k6] at g6 gt
  rw [k7] at g7
  rw [g6]
  have f1' : fr_ (sw_ s) M M1 := fr_mono f1 (fun o b y => by unfold tx_ vr_ at y; unfold sw_; omega)
  have gX : cXs_ M1 s (aTl_ T) (aTX_ T) := cXs_fr f1 (fun o b y1 y2 y3 => by unfold tx_ vr_ at y3; omega) kX
  have g8 : nn_rf M1 (s + 3) 8 = (aTc_ T).1 := (fr_rf f1 (fun y => by unfold tx_ vr_ at y; omega)).trans k8
  have gf : nn_rf M1 s 8 = fan := (fr_rf f1 (fun y => by unfold tx_ vr_ at y; omega)).trans hf
  have gr : nn_rf M1 s 7 = room := (fr_rf f1 (fun y => by unfold tx_ vr_ at y; omega)).trans hr
  have gt : tb_ M1 (s + 3) (aTm_ (tk3_ key row T)) (aTl_ (tk3_ key row T)) (aTn_ T) (aTq_ T) := by rw [hlat]; exact gt
  have L : ∀ i : Int, i ≤ 4 → 0 ≤ i → ∀ M2, fr_ (sw_ s) M M2 → tb_ M2 (s + 3) (aTm_ (tk3_ key row T)) (aTl_ (tk3_ key row T)) (aTn_ T) (aTq_ T) → nn_rf M2 (s + 3) 6 = aTs_ T + 1 → nn_rf M2 (s + 3) 7 = aTi_ T + 1 → nn_rf M2 (s + 3) 8 = (aTc_ T).1 → nn_rf M2 s 8 = fan → nn_rf M2 s 7 = room → (∀ j, 0 ≤ j → j < 4 → cX_ M2 (s + 90 + 15 * j.toNat) (if j < i then aTl_ (tk3_ key row T) else aTl_ T) ((fd_ (tk2_ key row (aTs_ T + 1)) (aTc_ T, aTX_ T) i.toNat).2 j)) → nk_Store_write_48 s key row (aTs_ T + 1) i M2 R := by
    refine lp_up (fun i hi ih h0 M2 f2 a5 a6 a7 a8 af ar aX => ?_)
    refine ng_Store_write_48 _ _ _ _ _ _ _ ⟨fun z => ?_, fun z => ⟨⟨h0, z⟩, ?_⟩⟩
    · have e4 : i.toNat = 4 := by omega
      rw [e4] at aX
      have kc : cT_ M2 s (tk3_ key row T) := ⟨a5, ⟨a6, a7, a8⟩, fun j j0 j1 => by
        have := aX j j0 j1
        rw [if_pos (by omega)] at this
        exact this⟩
      rw [a7, ar]
      refine ⟨fun y => ?_, fun y => ?_⟩
      · have e1 : wr1_ room fan (tk3_ key row T) = tk3_ key row T := if_pos y
        refine ct_S_reps (bd := bd + 1) (sb := 65) (si := 12) hs (by omega) (by omega) (by omega) f2 kc j1 (fun M3 f3 k3 => ?_)
        refine h M3 f3 ?_
        unfold wr_
        rw [e1]
        exact k3
      · have e1 : wr1_ room fan (tk3_ key row T) = fl2_ fan (tk3_ key row T) := if_neg (by show ¬ (aTi_ T + 1 < room); omega)
        refine ct_S_flush (bd := bd + 1) (sb := 65) (si := 12) hs hfan af (by omega) (by omega) kc j1 (fun M3 f3 k3 => ?_)
        refine ct_S_reps (bd := bd + 1 + 200) (sb := 65) (si := 0) hs (by omega) (by omega) (by omega) (fr_trans f2 f3) k3 (jT_fl2 hfan.1 (by omega) (by omega) j1) (fun M4 f4 k4 => ?_)
        refine h M4 f4 ?_
        unfold wr_
        rw [e1]
        exact k4
    have nx := ih z (by omega)
    rw [show (i + 1).toNat = i.toNat + 1 by omega] at nx
    have ei : ((i.toNat : Nat) : Int) = i := by omega
    have eX : (fd_ (tk2_ key row (aTs_ T + 1)) (aTc_ T, aTX_ T) i.toNat).2 i = aTX_ T i := fd_ge _ _ _ _ (by omega)
    have kx := aX i h0 z
    rw [eX, if_neg (by omega)] at kx
    have eF : ∀ j, (fd_ (tk2_ key row (aTs_ T + 1)) (aTc_ T, aTX_ T) (i.toNat + 1)).2 j = if j = i then (tk2_ key row (aTs_ T + 1) (fd_ (tk2_ key row (aTs_ T + 1)) (aTc_ T, aTX_ T) i.toNat).1 (aTX_ T i)).2 else (fd_ (tk2_ key row (aTs_ T + 1)) (aTc_ T, aTX_ T) i.toNat).2 j := by
      intro j
      show (if j = (i.toNat : Int) then (tk2_ key row (aTs_ T + 1) (fd_ (tk2_ key row (aTs_ T + 1)) (aTc_ T, aTX_ T) i.toNat).1 ((fd_ (tk2_ key row (aTs_ T + 1)) (aTc_ T, aTX_ T) i.toNat).2 (i.toNat : Int))).2 else (fd_ (tk2_ key row (aTs_ T + 1)) (aTc_ T, aTX_ T) i.toNat).2 j) = _
      rw [ei, eX]
    rw [mm_w_id (x := i + 1) (by omega)]
    have hin := e i h0 z
    have rest : ∀ M3, fr_ (fun o _ => o = s + 90 + 15 * i.toNat + 4 ∨ o = s + 90 + 15 * i.toNat + 5 ∨ o = s + 90 + 15 * i.toNat + 14) M2 M3 → cX_ M3 (s + 90 + 15 * i.toNat) (aTl_ (tk3_ key row T)) (tk2_ key row (aTs_ T + 1) (fd_ (tk2_ key row (aTs_ T + 1)) (aTc_ T, aTX_ T) i.toNat).1 (aTX_ T i)).2 → nk_Store_write_48 s key row (aTs_ T + 1) (i + 1) M3 R := by
      intro M3 f3 gx
      have oth : ∀ o b, o < s + 90 → nn_rf M3 o b = nn_rf M2 o b := fun o b y => fr_rf f3 (fun y2 => by omega)
      refine nx M3 (fr_trans f2 (fr_mono f3 (fun o b y => by unfold sw_; omega))) (tb_fr f3 (fun o b y y2 y3 => by unfold tr_ at y; omega) a5) ?_ ?_ ?_ ?_ ?_ (fun j j0 j1 => ?_)
      · rw [oth _ _ (by omega)]; exact a6
      · rw [oth _ _ (by omega)]; exact a7
      · rw [oth _ _ (by omega)]; exact a8
      · rw [oth _ _ (by omega)]; exact af
      · rw [oth _ _ (by omega)]; exact ar
      · rw [eF]
        by_cases y : j = i
        · rw [if_pos y, if_pos (by omega), y]; exact gx
        · rw [if_neg y]
          have := cX_fr f3 (fun o b y1 y2 y3 => by omega) (aX j j0 j1)
          by_cases w : j < i
          · rw [if_pos w] at this; rw [if_pos (by omega)]; exact this
          · rw [if_neg w] at this; rw [if_neg (by omega)]; exact this
    refine ⟨fun hz => ?_, fun hz => ⟨⟨h0, z⟩, ?_⟩⟩
    · rw [kx.1] at hz
      refine rest M2 (fr_refl M2) ?_
      rw [tk2_0 (Or.inl hz)]
      exact ⟨kx.1, kx.2.1, fun y => absurd hz y⟩
    · rw [kx.1] at hz
      obtain ⟨_, ⟨_, q2⟩, _, q4, _, _, _, q8, _⟩ := hin hz
      refine ct_X_tak (c := (fd_ (tk2_ key row (aTs_ T + 1)) (aTc_ T, aTX_ T) i.toNat).1) (sk_x hs h0 z) hk hrow (by omega) kx hz q2 (fun y hy => ⟨(q4 y (Or.inl hy)).1, by have := (q4 y (Or.inl hy)).2.1.2; omega⟩) (by omega) (fun j hj jk => ?_) ?_ (fun M3 f3 gx => rest M3 f3 gx)
      · rw [hlat]; unfold upd_; rw [if_neg jk]
      · rw [hlat]; unfold upd_; rw [if_pos rfl]
  exact L 0 (by omega) (Int.le_refl _) M1 f1' gt g6 g7 g8 gf gr (fun j j0 j1 => by rw [if_neg (by omega)]; exact gX j j0 j1)
