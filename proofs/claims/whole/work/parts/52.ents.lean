/-! rows of numbers that stand for a set, strictly rising; Entries -/
def rp_ (n : Int) (e : Int → Int) (S : Int → Prop) : Prop := (∀ i, 0 ≤ i → i < n → S (e i)) ∧ (∀ x, S x → ∃ i, 0 ≤ i ∧ i < n ∧ e i = x) ∧ (∀ i j, 0 ≤ i → i < j → j < n → e i < e j)
theorem rp_cg {n : Int} {e f : Int → Int} {S : Int → Prop} (h : rp_ n e S) (he : ∀ i, 0 ≤ i → i < n → f i = e i) : rp_ n f S := by
  refine ⟨fun i h0 h1 => by rw [he i h0 h1]; exact h.1 i h0 h1, fun x hx => ?_, fun i j h0 h1 h2 => ?_⟩
  · obtain ⟨i, h0, h1, h2⟩ := h.2.1 x hx
    exact ⟨i, h0, h1, by rw [he i h0 h1]; exact h2⟩
  · rw [he i h0 (by omega), he j (by omega) h2]
    exact h.2.2 i j h0 h1 h2
theorem rp_S {n : Int} {e : Int → Int} {S T : Int → Prop} (h : rp_ n e S) (hs : ∀ x, S x ↔ T x) : rp_ n e T := ⟨fun i h0 h1 => (hs _).mp (h.1 i h0 h1), fun x hx => h.2.1 x ((hs x).mpr hx), h.2.2⟩
theorem rp_half {n m : Int} {e f : Int → Int} {S : Int → Prop} (h : rp_ n e S) (k : rp_ m f S) : ∀ t : Nat, ∀ i : Int, i = (t : Int) → i < n → i < m ∧ e i = f i := by
  intro t
  induction t using Nat.strongRecOn with
  | _ t ih =>
    intro i hi hn
    obtain ⟨j, j0, j1, j2⟩ := k.2.1 _ (h.1 i (by omega) hn)
    have hj : i ≤ j := by
      refine Int.not_lt.mp (fun q => ?_)
      obtain ⟨_, w⟩ := ih j.toNat (by omega) j (by omega) (by omega)
      have := h.2.2 j i j0 q hn
      omega
    have hm : i < m := by omega
    refine ⟨hm, ?_⟩
    obtain ⟨j', p0, p1, p2⟩ := h.2.1 _ (k.1 i (by omega) hm)
    have hj' : i ≤ j' := by
      refine Int.not_lt.mp (fun q => ?_)
      obtain ⟨hm', w⟩ := ih j'.toNat (by omega) j' (by omega) (by omega)
      have := k.2.2 j' i p0 q hm
      omega
    have a1 : e i ≤ e j' := by
      by_cases q : i = j'
      · rw [← q]; exact Int.le_refl _
      · exact Int.le_of_lt (h.2.2 i j' (by omega) (by omega) p1)
    have a2 : f i ≤ f j := by
      by_cases q : i = j
      · rw [← q]; exact Int.le_refl _
      · exact Int.le_of_lt (k.2.2 i j (by omega) (by omega) j1)
    omega
theorem rp_one {n m : Int} {e f : Int → Int} {S : Int → Prop} (hn : 0 ≤ n) (hm : 0 ≤ m) (h : rp_ n e S) (k : rp_ m f S) : n = m ∧ ∀ i, 0 ≤ i → i < n → e i = f i := by
  have a : n ≤ m := by
    refine Int.not_lt.mp (fun q => ?_)
    have := (rp_half h k m.toNat m (by omega) q).1
    omega
  have b : m ≤ n := by
    refine Int.not_lt.mp (fun q => ?_)
    have := (rp_half k h n.toNat n (by omega) q).1
    omega
  exact ⟨by omega, fun i h0 h1 => (rp_half h k i.toNat i (by omega) h1).2⟩
/-- one more, in its place -/
theorem rp_add {n a x : Int} {e f : Int → Int} {S : Int → Prop} (h : rp_ n e S) (ha : 0 ≤ a ∧ a ≤ n) (hlo : ∀ i, 0 ≤ i → i < a → e i < x) (hhi : ∀ i, a ≤ i → i < n → x < e i) (hf : ∀ i, 0 ≤ i → i ≤ n → f i = if i < a then e i else if i = a then x else e (i - 1)) : rp_ (n + 1) f (fun y => y = x ∨ S y) := by
  refine ⟨fun i h0 h1 => ?_, fun y hy => ?_, fun i j h0 h1 h2 => ?_⟩
  · rw [hf i h0 (by omega)]
    by_cases q : i < a
    · rw [if_pos q]; exact Or.inr (h.1 i h0 (by omega))
    · rw [if_neg q]
      by_cases r : i = a
      · rw [if_pos r]; exact Or.inl rfl
      · rw [if_neg r]; exact Or.inr (h.1 (i - 1) (by omega) (by omega))
  · rcases hy with rfl | hy
    · exact ⟨a, ha.1, by omega, by rw [hf a ha.1 (by omega), if_neg (by omega), if_pos rfl]⟩
    · obtain ⟨i, h0, h1, h2⟩ := h.2.1 y hy
      by_cases q : i < a
      · exact ⟨i, h0, by omega, by rw [hf i h0 (by omega), if_pos q, h2]⟩
      · exact ⟨i + 1, by omega, by omega, by rw [hf (i + 1) (by omega) (by omega), if_neg (by omega), if_neg (by omega), show i + 1 - 1 = i by omega, h2]⟩
  · rw [hf i h0 (by omega), hf j (by omega) (by omega)]
    by_cases q : j < a
    · rw [if_pos q, if_pos (by omega)]; exact h.2.2 i j h0 h1 (by omega)
    · rw [if_neg q]
      by_cases r : j = a
      · rw [if_pos r, if_pos (by omega)]; exact hlo i h0 (by omega)
      · rw [if_neg r]
        by_cases s : i < a
        · rw [if_pos s]
          have := hlo i h0 s
          have := hhi (j - 1) (by omega) (by omega)
          omega
        · rw [if_neg s]
          by_cases t : i = a
          · rw [if_pos t]; exact hhi (j - 1) (by omega) (by omega)
          · rw [if_neg t]; exact h.2.2 (i - 1) (j - 1) (by omega) (by omega) (by omega)
theorem lcmp_gt (x y : Int) : 0 < mm_lcmp x y ↔ y < x := by
  unfold mm_lcmp
  split
  · constructor <;> intro h <;> omega
  · split
    · constructor <;> intro h <;> omega
    · constructor <;> intro h <;> omega
theorem lcmp_le (x y : Int) : mm_lcmp x y ≤ 0 ↔ x ≤ y := by
  rw [← Int.not_lt, lcmp_gt, Int.not_lt]
theorem lcmp_eq (x y : Int) : mm_lcmp x y = 0 ↔ x = y := by
  unfold mm_lcmp
  split
  · constructor <;> intro h <;> omega
  · split
    · constructor <;> intro h <;> omega
    · constructor <;> intro h <;> omega
/-- Entries at v: so many, strictly rising, a set -/
def es_ (M : mm_M) (v : Nat) (S : Int → Prop) : Prop := 0 ≤ nn_rf M v 1 ∧ nn_rf M v 1 ≤ ((mm_kd (v + 1)).2 : Int) ∧ rp_ (nn_rf M v 1) (nn_ri M (v + 1)) S
def er_ (v o _b : Nat) : Prop := v ≤ o ∧ o < v + 2
theorem es_fr {P : Nat → Nat → Prop} {M M' : mm_M} (h : fr_ P M M') {v : Nat} {S : Int → Prop} (hv : ∀ o b, er_ v o b → ¬ P o b) (k : es_ M v S) : es_ M' v S := by
  unfold es_
  have e1 : nn_rf M' v 1 = nn_rf M v 1 := fr_rf h (hv v 1 ⟨by omega, by omega⟩)
  have e2 : nn_ri M' (v + 1) = nn_ri M (v + 1) := by
    funext i
    exact fr_ri h (hv (v + 1) _ ⟨by omega, by omega⟩)
  rw [e1, e2]
  exact k
theorem ct_E_add {v : Nat} {x : Int} {M : mm_M} {R : mm_M → Prop} {S : Int → Prop} (hs : es_ M v S) (hx : ¬ S x) (hcap : nn_rf M v 1 < ((mm_kd (v + 1)).2 : Int)) (hkd : ((mm_kd (v + 1)).2 : Int) < 2147483647)
    (h : ∀ M', fr_ (er_ v) M M' → es_ M' v (fun y => y = x ∨ S y) → nn_rf M' v 1 = nn_rf M v 1 + 1 → R M') : nr_Entries_add v x M R := by
  refine ng_Entries_add _ _ _ _ ⟨fun _ => ?_, fun c => absurd c (by omega)⟩
  obtain ⟨h0, h1, hr⟩ := hs
  have L : ∀ i : Int, 0 ≤ i → i ≤ nn_rf M v 1 → ∀ M1, fr_ (er_ v) M M1 → nn_rf M1 v 1 = nn_rf M v 1 → (∀ j, 0 ≤ j → j < i → nn_ri M1 (v + 1) j = nn_ri M (v + 1) j) → (∀ j, i ≤ j → j < nn_rf M v 1 → nn_ri M1 (v + 1) (j + 1) = nn_ri M (v + 1) j ∧ x < nn_ri M (v + 1) j) → nk_Entries_add_18 v x i M1 R := by
    refine lp_dn (fun i hi ih hn M1 f1 e1 lo hi2 => ?_)
    have wi : mm_w (i - 1) = i - 1 := mm_w_id (by omega)
    have bi : 0 ≤ i ∧ i < ((mm_kd (v + 1)).2 : Int) := by omega
    refine ng_Entries_add_18 _ _ _ _ _ ⟨fun _ => bi, fun c => by rw [wi]; omega, fun _ => bi, fun c => by rw [wi]; omega, fun _ => bi, fun q => ?_, fun q => ?_⟩
    · rintro _ rfl _ rfl
      have q2 : ∀ j, 0 ≤ j → j < i → nn_ri M (v + 1) j < x := by
        intro j j0 j1
        rcases q with q | q
        · omega
        · rw [wi, lcmp_le] at q
          rw [lo (i - 1) (by omega) (by omega)] at q
          have hne : nn_ri M (v + 1) (i - 1) ≠ x := fun z => hx (z ▸ hr.1 (i - 1) (by omega) (by omega))
          by_cases z : j = i - 1
          · rw [z]; omega
          · have := hr.2.2 j (i - 1) j0 (by omega) (by omega)
            omega
      have ee : nn_rf (nn_ui M1 (v + 1) i x) v 1 = nn_rf M v 1 := by
        rw [rd_fi, if_neg (by omega), e1]
      rw [ee, mm_w_id (by omega)]
      have e2 : nn_rf (nn_uf (nn_ui M1 (v + 1) i x) v 1 (nn_rf M v 1 + 1)) v 1 = nn_rf M v 1 + 1 := by
        rw [rd_ff, if_pos ⟨rfl, rfl⟩]
      refine h _ (fr_uf (fr_ui f1 ⟨by omega, by omega⟩) ⟨by omega, by omega⟩) ⟨by omega, by omega, ?_⟩ e2
      rw [e2]
      refine rp_add hr ⟨hi, hn⟩ q2 (fun j j0 j1 => (hi2 j j0 j1).2) (fun j j0 j1 => ?_)
      rw [rd_if, if_neg (by omega), rd_ii]
      by_cases z : j = i
      · rw [if_pos ⟨rfl, by rw [z]⟩, if_neg (by omega), if_pos z]
      · rw [if_neg (by omega), if_neg (c := j = i) z]
        by_cases y : j < i
        · rw [if_pos y, lo j j0 y]
        · rw [if_neg y]
          have := (hi2 (j - 1) (by omega) (by omega)).1
          rw [show j - 1 + 1 = j by omega] at this
          exact this
    · rintro _ rfl
      have q2 := q.2
      rw [wi, lcmp_gt, lo (i - 1) (by omega) (by omega)] at q2
      rw [wi, mm_w_id (x := i + (-1)) (by omega), show i + (-1) = i - 1 by omega]
      refine ih q.1 (by omega) _ (fr_ui f1 ⟨by omega, by omega⟩) ?_ ?_ ?_
      · rw [rd_fi, if_neg (by omega), e1]
      · intro j j0 j1
        rw [rd_ii, if_neg (by omega)]
        exact lo j j0 (by omega)
      · intro j j0 j1
        rw [rd_ii]
        by_cases z : j + 1 = i
        · rw [if_pos ⟨rfl, by rw [z]⟩, lo (i - 1) (by omega) (by omega), show j = i - 1 by omega]
          exact ⟨rfl, q2⟩
        · rw [if_neg (by omega)]
          by_cases y : j = i - 1
          · omega
          · exact hi2 j (by omega) j1
  exact L _ h0 (Int.le_refl _) M (fr_refl M) rfl (fun _ _ _ => rfl) (fun j j0 j1 => by omega)
theorem ct_E_copy {v w : Nat} {M : mm_M} {R : mm_M → Prop} {S : Int → Prop} (hd : v + 2 ≤ w ∨ w + 2 ≤ v) (hs : es_ M w S) (hkd : (mm_kd (v + 1)).2 = (mm_kd (w + 1)).2)
    (h : ∀ M', fr_ (er_ v) M M' → es_ M' v S → R M') : nr_Entries_copy v w M R := by
  obtain ⟨h0, h1, hr⟩ := hs
  refine ng_Entries_copy _ _ _ _ ?_
  rintro _ rfl
  have em : min (nn_rf M w 1) ((mm_kd (v + 1)).2 : Int) = nn_rf M w 1 := by
    rw [hkd]; omega
  rw [em]
  have e1 : nn_rf (nn_uf M v 1 (nn_rf M w 1)) v 1 = nn_rf M w 1 := by rw [rd_ff, if_pos ⟨rfl, rfl⟩]
  rw [e1]
  refine ⟨by rw [hkd]; omega, ?_⟩
  rintro _ rfl
  have e2 : nn_rf (mm_cp (nn_uf M v 1 (nn_rf M w 1)) (w + 1) 0 (v + 1) 0 (nn_rf M w 1)) v 1 = nn_rf M w 1 := by
    rw [rd_cf _ _ _ _ _ _ _ _ (by omega), e1]
  refine h _ (fr_cp (fr_uf (fr_refl M) ⟨by omega, by omega⟩) (fun _ _ _ => ⟨by omega, by omega⟩)) ⟨by omega, by rw [e2, hkd]; exact h1, ?_⟩
  rw [e2]
  refine rp_cg hr (fun i i0 i1 => ?_)
  rw [rd_cc _ _ _ _ _ _ _ i0, if_pos (by omega), rd_if, if_neg (by omega)]
  congr 1
  omega
