/-! texts: bytes' sorts, tokens; the class splits a text -/
def sb_ (c : Int) : Int := if 97 ≤ c ∧ c ≤ 122 then 1 else if 48 ≤ c ∧ c ≤ 57 then 2 else if c = 32 ∨ c = 10 then 0 else 3
theorem sb_c (c : Int) : ((97 ≤ c ∧ c ≤ 122) ∧ sb_ c = 1) ∨ ((48 ≤ c ∧ c ≤ 57) ∧ sb_ c = 2) ∨ ((c = 32 ∨ c = 10) ∧ sb_ c = 0) ∨ ((¬ (97 ≤ c ∧ c ≤ 122) ∧ ¬ (48 ≤ c ∧ c ≤ 57) ∧ c ≠ 32 ∧ c ≠ 10) ∧ sb_ c = 3) := by
  unfold sb_
  by_cases a : 97 ≤ c ∧ c ≤ 122
  · rw [if_pos a]; exact Or.inl ⟨a, rfl⟩
  · rw [if_neg a]
    by_cases b : 48 ≤ c ∧ c ≤ 57
    · rw [if_pos b]; exact Or.inr (Or.inl ⟨b, rfl⟩)
    · rw [if_neg b]
      by_cases d : c = 32 ∨ c = 10
      · rw [if_pos d]; exact Or.inr (Or.inr (Or.inl ⟨d, rfl⟩))
      · rw [if_neg d]; exact Or.inr (Or.inr (Or.inr ⟨⟨a, b, fun y => d (Or.inl y), fun y => d (Or.inr y)⟩, rfl⟩))
theorem ct_Rd_sortOf {c : Int} {M : mm_M} {R : Int → mm_M → Prop} (h : R (sb_ c) M) : nr_Reader_sortOf c M R := by
  have a1 : (97 ≤ c ∧ c ≤ 122) → R 1 M := fun y => by
    rcases sb_c c with w | w | w | w
    · rw [w.2] at h; exact h
    · omega
    · omega
    · omega
  have a2 : (48 ≤ c ∧ c ≤ 57) → R 2 M := fun y => by
    rcases sb_c c with w | w | w | w
    · omega
    · rw [w.2] at h; exact h
    · omega
    · omega
  have a0 : (c = 32 ∨ c = 10) → R 0 M := fun y => by
    rcases sb_c c with w | w | w | w
    · omega
    · omega
    · rw [w.2] at h; exact h
    · omega
  have a3 : ¬ (97 ≤ c ∧ c ≤ 122) → ¬ (48 ≤ c ∧ c ≤ 57) → c ≠ 32 → c ≠ 10 → R 3 M := fun y1 y2 y3 y4 => by
    rcases sb_c c with w | w | w | w
    · omega
    · omega
    · omega
    · rw [w.2] at h; exact h
  refine ng_Reader_sortOf _ _ _ ⟨fun y1 => ⟨fun y2 => ⟨a0, fun y3 => a3 (by omega) (by omega) y3.1 y3.2⟩, fun y2 => ⟨fun y3 => ⟨a0, fun y4 => a3 (by omega) (by omega) y4.1 y4.2⟩, fun y3 => a2 ⟨y2, y3⟩⟩⟩, fun y1 => ⟨fun y2 => ⟨fun y3 => ⟨a0, fun y4 => a3 (by omega) (by omega) y4.1 y4.2⟩, fun y3 => ⟨fun y4 => ⟨a0, fun y5 => a3 (by omega) (by omega) y5.1 y5.2⟩, fun y4 => a2 ⟨y3, y4⟩⟩⟩, fun y2 => a1 ⟨y1, y2⟩⟩⟩
/-- as far as bytes of one sort go -/
def ren_ (f : Int → Int) (n s : Int) : Nat → Int → Int
  | 0, p => p
  | k + 1, p => if p < n ∧ sb_ (f p) = s then ren_ f n s k (p + 1) else p
def rn_ (f : Int → Int) (n s p : Int) : Int := ren_ f n s (n - p).toNat p
theorem ren_spec {f : Int → Int} {n s : Int} : ∀ (k : Nat) (p : Int), (n - p).toNat = k → p ≤ ren_ f n s k p ∧ (∀ i, p ≤ i → i < ren_ f n s k p → i < n ∧ sb_ (f i) = s) ∧ ¬ (ren_ f n s k p < n ∧ sb_ (f (ren_ f n s k p)) = s) ∧ (p ≤ n → ren_ f n s k p ≤ n)
  | 0, p, h => by
    have e : ren_ f n s 0 p = p := rfl
    rw [e]
    exact ⟨Int.le_refl _, fun i i0 i1 => by omega, fun y => by omega, fun y => y⟩
  | k + 1, p, h => by
    unfold ren_
    by_cases z : p < n ∧ sb_ (f p) = s
    · rw [if_pos z]
      obtain ⟨h1, h2, h3, h4⟩ := ren_spec (f := f) (n := n) (s := s) k (p + 1) (by omega)
      refine ⟨by omega, fun i i0 i1 => ?_, h3, fun _ => h4 (by omega)⟩
      by_cases y : i = p
      · rw [y]; exact z
      · exact h2 i (by omega) i1
    · rw [if_neg z]
      exact ⟨Int.le_refl _, fun i i0 i1 => by omega, z, fun y => y⟩
theorem rn_spec (f : Int → Int) (n s p : Int) : p ≤ rn_ f n s p ∧ (∀ i, p ≤ i → i < rn_ f n s p → i < n ∧ sb_ (f i) = s) ∧ ¬ (rn_ f n s p < n ∧ sb_ (f (rn_ f n s p)) = s) ∧ (p ≤ n → rn_ f n s p ≤ n) := ren_spec _ p rfl
theorem rn_un {f : Int → Int} {n s p q : Int} (h0 : p ≤ q) (h1 : ∀ i, p ≤ i → i < q → i < n ∧ sb_ (f i) = s) (h2 : ¬ (q < n ∧ sb_ (f q) = s)) : q = rn_ f n s p := by
  obtain ⟨r0, r1, r2, _⟩ := rn_spec f n s p
  by_cases a : q < rn_ f n s p
  · exact absurd (r1 q h0 a) h2
  · by_cases b : rn_ f n s p < q
    · exact absurd (h1 _ r0 b) r2
    · omega
/-- a token's end; tokens -/
def te_ (f : Int → Int) (n p : Int) : Int := if sb_ (f p) = 3 then p + 1 else rn_ f n (sb_ (f p)) (p + 1)
def tS_ (f : Int → Int) (n : Int) : Nat → Int
  | 0 => rn_ f n 0 0
  | t + 1 => rn_ f n 0 (te_ f n (tS_ f n t))
theorem te_in {f : Int → Int} {n p : Int} (h : p < n) : p < te_ f n p ∧ te_ f n p ≤ n ∧ (∀ i, p < i → i < te_ f n p → sb_ (f i) = sb_ (f p) ∧ sb_ (f p) ≠ 3) ∧ (te_ f n p < n → sb_ (f p) = 3 ∨ sb_ (f (te_ f n p)) ≠ sb_ (f p)) := by
  unfold te_
  by_cases z : sb_ (f p) = 3
  · rw [if_pos z]
    exact ⟨by omega, by omega, fun i i0 i1 => by omega, fun _ => Or.inl z⟩
  · rw [if_neg z]
    obtain ⟨r0, r1, r2, r3⟩ := rn_spec f n (sb_ (f p)) (p + 1)
    exact ⟨by omega, r3 (by omega), fun i i0 i1 => ⟨(r1 i (by omega) i1).2, z⟩, fun y => Or.inr (fun w => r2 ⟨y, w⟩)⟩
/-- where a token begins -/
def sta_ (f : Int → Int) (n p : Int) : Prop := p < n ∧ sb_ (f p) ≠ 0 ∧ (p = 0 ∨ sb_ (f p) = 3 ∨ sb_ (f p) ≠ sb_ (f (p - 1)))
theorem tS_at {f : Int → Int} {n : Int} (hn : 0 ≤ n) : ∀ t : Nat, (∀ u, u < t → tS_ f n u < n) → 0 ≤ tS_ f n t ∧ tS_ f n t ≤ n ∧ (tS_ f n t < n → sta_ f n (tS_ f n t))
  | 0, _ => by
    obtain ⟨r0, r1, r2, r3⟩ := rn_spec f n 0 0
    have e : tS_ f n 0 = rn_ f n 0 0 := rfl
    rw [e]
    refine ⟨r0, r3 hn, fun y => ⟨y, fun w => r2 ⟨y, w⟩, ?_⟩⟩
    by_cases z : rn_ f n 0 0 = 0
    · exact Or.inl z
    · refine Or.inr (Or.inr (fun w => ?_))
      have := r1 (rn_ f n 0 0 - 1) (by omega) (by omega)
      rw [this.2] at w
      exact r2 ⟨y, w⟩
  | t + 1, h => by
    have hb := tS_at (f := f) hn t (fun u hu => h u (by omega))
    have ht := h t (by omega)
    have hq := hb.2.2 ht
    obtain ⟨e0, e1, e2, e3⟩ := te_in (f := f) ht
    obtain ⟨r0, r1, r2, r3⟩ := rn_spec f n 0 (te_ f n (tS_ f n t))
    have e : tS_ f n (t + 1) = rn_ f n 0 (te_ f n (tS_ f n t)) := rfl
    rw [e]
    refine ⟨by omega, r3 e1, fun y => ⟨y, fun w => r2 ⟨y, w⟩, ?_⟩⟩
    by_cases z : rn_ f n 0 (te_ f n (tS_ f n t)) = te_ f n (tS_ f n t)
    · rw [z] at y ⊢
      rcases e3 y with w | w
      · by_cases v : sb_ (f (te_ f n (tS_ f n t))) = 3
        · exact Or.inr (Or.inl v)
        · refine Or.inr (Or.inr (fun u => v ?_))
          have e4 : te_ f n (tS_ f n t) = tS_ f n t + 1 := if_pos w
          rw [e4, show tS_ f n t + 1 - 1 = tS_ f n t by omega] at u
          rw [e4, u]; exact w
      · refine Or.inr (Or.inr (fun u => w (u.trans ?_)))
        by_cases v : te_ f n (tS_ f n t) - 1 = tS_ f n t
        · rw [v]
        · exact (e2 _ (by omega) (by omega)).1
    · refine Or.inr (Or.inr (fun w => ?_))
      have := r1 (rn_ f n 0 (te_ f n (tS_ f n t)) - 1) (by omega) (by omega)
      rw [this.2] at w
      exact r2 ⟨y, w⟩
theorem tS_no0 {f : Int → Int} {n p : Int} (h0 : 0 ≤ p) (h1 : p < tS_ f n 0) : ¬ sta_ f n p := by
  obtain ⟨r0, r1, _⟩ := rn_spec f n 0 0
  intro w
  exact w.2.1 (r1 p h0 h1).2
theorem tS_nn {f : Int → Int} {n : Int} : ∀ t : Nat, 0 ≤ tS_ f n t
  | 0 => (rn_spec f n 0 0).1
  | t + 1 => by
    have h1 := tS_nn (f := f) (n := n) t
    have h2 := (rn_spec f n 0 (te_ f n (tS_ f n t))).1
    have h3 : tS_ f n t ≤ te_ f n (tS_ f n t) := by
      unfold te_
      split
      · omega
      · have := (rn_spec f n (sb_ (f (tS_ f n t))) (tS_ f n t + 1)).1
        omega
    have e : tS_ f n (t + 1) = rn_ f n 0 (te_ f n (tS_ f n t)) := rfl
    omega
theorem tS_no {f : Int → Int} {n p : Int} {t : Nat} (ht : tS_ f n t < n) (h0 : tS_ f n t < p) (h1 : p < tS_ f n (t + 1)) : ¬ sta_ f n p := by
  obtain ⟨e0, e1, e2, e3⟩ := te_in (f := f) ht
  obtain ⟨r0, r1, _⟩ := rn_spec f n 0 (te_ f n (tS_ f n t))
  have h1 : p < rn_ f n 0 (te_ f n (tS_ f n t)) := h1
  intro w
  by_cases z : p < te_ f n (tS_ f n t)
  · have h2 := e2 p h0 z
    have hp := tS_nn (f := f) (n := n) t
    rcases w.2.2 with y | y | y
    · omega
    · rw [h2.1] at y; exact h2.2 y
    · by_cases v : p - 1 = tS_ f n t
      · rw [v] at y; exact y h2.1
      · rw [(e2 (p - 1) (by omega) (by omega)).1] at y; exact y h2.1
  · exact w.2.1 (r1 p (by omega) h1).2
/-- what a token is -/
def wmb_ (f : Int → Int) (p e : Int) (l : List Int) : Bool := decide (e - p = l.length) && (List.range l.length).all (fun i => f (p + (i : Int)) == l.getD i 0)
theorem wmb_t {f : Int → Int} {p e : Int} {l : List Int} : wmb_ f p e l = true ↔ e - p = l.length ∧ ∀ i : Int, 0 ≤ i → i < l.length → f (p + i) = l.getD i.toNat 0 := by
  unfold wmb_
  rw [Bool.and_eq_true, decide_eq_true_eq, List.all_eq_true]
  constructor
  · rintro ⟨h1, h2⟩
    refine ⟨h1, fun i i0 i1 => ?_⟩
    have := h2 i.toNat (List.mem_range.mpr (by omega))
    rw [beq_iff_eq, show ((i.toNat : Nat) : Int) = i by omega] at this
    exact this
  · rintro ⟨h1, h2⟩
    refine ⟨h1, fun i hi => ?_⟩
    rw [beq_iff_eq]
    exact h2 i (by omega) (by have := List.mem_range.mp hi; omega)
def wkd_ (f : Int → Int) (p e : Int) : Int := if e - p = 1 ∧ f p - 97 < 4 then 2 else if wmb_ f p e (mm_strs.getD 0 []) = true then 3 else if wmb_ f p e (mm_strs.getD 1 []) = true then 4 else if wmb_ f p e (mm_strs.getD 2 []) = true then 5 else if wmb_ f p e (mm_strs.getD 3 []) = true then 6 else if wmb_ f p e (mm_strs.getD 4 []) = true then 7 else 13
def kd_ (f : Int → Int) (n p : Int) : Int := if n ≤ p then 0 else if sb_ (f p) = 1 then wkd_ f p (te_ f n p) else if sb_ (f p) = 3 then nf_Reader_sign (f p) else if te_ f n p - p > 2 then 13 else 1
def nb_ (f : Int → Int) (n p : Int) : Int := if sb_ (f p) = 1 then f p - 97 else if sb_ (f p) = 3 then 0 else if te_ f n p - p > 2 then 0 else if te_ f n p - p = 1 then f p - 48 else 10 * (f p - 48) + (f (p + 1) - 48)
theorem ct_Rd_isWord {o : Nat} {n p e : Int} {j : Nat} {f : Int → Int} {M : mm_M} {R : Int → mm_M → Prop} (hj : j < 5) (ho : n ≤ ((mm_kd o).2 : Int)) (hn : n ≤ 200) (hp : 0 ≤ p ∧ p ≤ e ∧ e ≤ n) (hf : ∀ i, 0 ≤ i → i < n → nn_ri M o i = f i) (h1 : wmb_ f p e (mm_strs.getD j []) = true → R 1 M) (h0 : ¬ wmb_ f p e (mm_strs.getD j []) = true → R 0 M) : nr_Reader_isWord o p e (6000 + j) M R := by
  refine ng_Reader_isWord _ _ _ _ _ _ ⟨by omega, ?_⟩
  rw [show 6000 + j - 6000 = j by omega, mm_w_id (x := e - p) (by omega)]
  have hl : (mm_strs.getD j []).length ≤ 10 := by
    have : ∀ j, j < 5 → (mm_strs.getD j []).length ≤ 10 := by decide
    exact this j hj
  have no : ∀ i : Int, 0 ≤ i → ¬ wmb_ f p e (mm_strs.getD j []) = true → nk_Reader_isWord_20 o p (6000 + j) 0 i M R := by
    intro i i0 hno
    refine ng_Reader_isWord_20 _ _ _ _ _ _ _ ⟨by omega, ?_⟩
    exact ⟨fun _ => ⟨Or.inl rfl, h0 hno⟩, fun _ => ⟨fun _ => ⟨Or.inl rfl, h0 hno⟩, fun w => absurd rfl w⟩⟩
  refine ⟨fun y => no 0 (Int.le_refl _) (fun w => y (wmb_t.mp w).1), fun y => ?_⟩
  have L : ∀ i : Int, i ≤ ((mm_strs.getD j []).length : Int) → 0 ≤ i → (∀ q : Int, 0 ≤ q → q < i → f (p + q) = (mm_strs.getD j []).getD q.toNat 0) → nk_Reader_isWord_20 o p (6000 + j) 1 i M R := by
    refine lp_up (fun i hi ih i0 hq => ?_)
    refine ng_Reader_isWord_20 _ _ _ _ _ _ _ ⟨by omega, ?_⟩
    rw [show 6000 + j - 6000 = j by omega]
    refine ⟨fun c => ⟨Or.inr rfl, h1 (wmb_t.mpr ⟨y, fun q q0 q1 => hq q q0 (by omega)⟩)⟩, fun c => ⟨fun w => absurd w (by decide), fun _ => ?_⟩⟩
    rw [mm_w_id (x := p + i) (by omega), mm_w_id (x := i + 1) (by omega), hf (p + i) (by omega) (by omega)]
    refine ⟨by omega, ⟨by omega, i0, c⟩, fun w => no _ (by omega) (fun v => w ((wmb_t.mp v).2 i i0 c)), fun w => ih c (by omega) (fun q q0 q1 => ?_)⟩
    by_cases v : q = i
    · rw [v]; exact w
    · exact hq q q0 (by omega)
  exact L 0 (by omega) (Int.le_refl _) (fun q q0 q1 => by omega)
theorem ct_Rd_word {o : Nat} {n p e : Int} {f : Int → Int} {M : mm_M} {R : Int → mm_M → Prop} (ho : n ≤ ((mm_kd o).2 : Int)) (hn : n ≤ 200) (hp : 0 ≤ p ∧ p < e ∧ e ≤ n) (hc : 0 ≤ f p ∧ f p ≤ 255) (hf : ∀ i, 0 ≤ i → i < n → nn_ri M o i = f i) (h : R (wkd_ f p e) M) : nr_Reader_word o p e M R := by
  have hp' : 0 ≤ p ∧ p ≤ e ∧ e ≤ n := by omega
  unfold wkd_ at h
  refine ng_Reader_word _ _ _ _ _ ?_
  rw [mm_w_id (x := e - p) (by omega), hf p hp.1 (by omega), mm_w_id (x := f p - 97) (by omega)]
  refine ⟨fun _ => by omega, fun y => ?_, fun y => ?_⟩
  · rw [if_neg (c := e - p = 1 ∧ f p - 97 < 4) (fun w => by omega)] at h
    refine ct_Rd_isWord (j := 0) (by decide) ho hn hp' hf (fun w => ?_) (fun w => ?_)
    · rw [if_pos w] at h
      exact ⟨fun v => absurd v (by decide), fun _ => h⟩
    rw [if_neg w] at h
    refine ⟨fun _ => ?_, fun v => absurd rfl v⟩
    refine ct_Rd_isWord (j := 1) (by decide) ho hn hp' hf (fun w => ?_) (fun w => ?_)
    · rw [if_pos w] at h
      exact ⟨fun v => absurd v (by decide), fun _ => h⟩
    rw [if_neg w] at h
    refine ⟨fun _ => ?_, fun v => absurd rfl v⟩
    refine ct_Rd_isWord (j := 2) (by decide) ho hn hp' hf (fun w => ?_) (fun w => ?_)
    · rw [if_pos w] at h
      exact ⟨fun v => absurd v (by decide), fun _ => h⟩
    rw [if_neg w] at h
    refine ⟨fun _ => ?_, fun v => absurd rfl v⟩
    refine ct_Rd_isWord (j := 3) (by decide) ho hn hp' hf (fun w => ?_) (fun w => ?_)
    · rw [if_pos w] at h
      exact ⟨fun v => absurd v (by decide), fun _ => h⟩
    rw [if_neg w] at h
    refine ⟨fun _ => ?_, fun v => absurd rfl v⟩
    refine ct_Rd_isWord (j := 4) (by decide) ho hn hp' hf (fun w => ?_) (fun w => ?_)
    · rw [if_pos w] at h
      exact ⟨fun v => absurd v (by decide), fun _ => h⟩
    rw [if_neg w] at h
    exact ⟨fun _ => h, fun v => absurd rfl v⟩
  · rw [if_pos (c := e - p = 1 ∧ f p - 97 < 4) y] at h
    exact h
def tkc_ (t : Int) (o b : Nat) : Prop := (o = 403 ∨ o = 405) ∧ b = t.toNat
theorem ct_Rd_name {o : Nat} {n p t : Int} {f : Int → Int} {M : mm_M} {R : mm_M → Prop} (hoo : o < 403) (ho : n ≤ ((mm_kd o).2 : Int)) (hn : n ≤ 200) (hp : 0 ≤ p ∧ p < n) (hs : sb_ (f p) ≠ 0) (ht : 0 ≤ t ∧ t < 201) (hb : ∀ i, 0 ≤ i → i < n → 0 ≤ f i ∧ f i ≤ 255) (hf : ∀ i, 0 ≤ i → i < n → nn_ri M o i = f i) (hst : nn_ri M 404 t = p)
    (h : ∀ M', fr_ (tkc_ t) M M' → nn_ri M' 403 t = kd_ f n p → nn_ri M' 405 t = nb_ f n p → R M') : nr_Reader_name t (sb_ (f p)) o (te_ f n p) M R := by
  obtain ⟨e0, e1, e2, e3⟩ := te_in (f := f) hp.2
  unfold kd_ nb_ at h
  rw [if_neg (c := n ≤ p) (by omega)] at h
  have hc := hb p hp.1 hp.2
  refine ng_Reader_name _ _ _ _ _ _ ⟨ht, ht, ?_⟩
  intro M1 q1
  have f1 : fr_ (tkc_ t) M M1 := by rw [q1]; exact fr_ui (fr_refl M) ⟨Or.inr rfl, rfl⟩
  have g1 : ∀ i, 0 ≤ i → i < n → nn_ri M1 o i = f i := fun i i0 i1 => by rw [q1, rd_ii, if_neg (by omega)]; exact hf i i0 i1
  rw [hst, mm_w_id (x := te_ f n p - p) (by omega)]
  refine ⟨fun n1 => ⟨fun n3 => ?_, fun y3 => ?_⟩, fun y1 => ?_⟩
  · have s2 : sb_ (f p) = 2 := by
      rcases sb_c (f p) with w | w | w | w
      · exact absurd w.2 n1
      · exact w.2
      · exact absurd w.2 hs
      · exact absurd w.2 n3
    rw [if_neg n1, if_neg n3, if_neg n1, if_neg n3] at h
    have dig : ∀ i, p ≤ i → i < te_ f n p → 48 ≤ f i ∧ f i ≤ 57 := by
      intro i i0 i1
      have e4 : sb_ (f i) = 2 := by
        by_cases z : i = p
        · rw [z]; exact s2
        · rw [(e2 i (by omega) i1).1]; exact s2
      rcases sb_c (f i) with w | w | w | w
      · omega
      · exact w.1
      · omega
      · omega
    refine ⟨fun c => ⟨ht, ?_⟩, fun c => ⟨ht, ?_⟩⟩
    · intro M2 q2
      have f2 : fr_ (tkc_ t) M M2 := by rw [q2]; exact fr_ui f1 ⟨Or.inl rfl, rfl⟩
      have g2 : ∀ i, 0 ≤ i → i < n → nn_ri M2 o i = f i := fun i i0 i1 => by rw [q2, rd_ii, if_neg (by omega)]; exact g1 i i0 i1
      have k2 : nn_ri M2 403 t = 1 := by rw [q2, rd_ii, if_pos ⟨rfl, rfl⟩]
      have z2 : nn_ri M2 405 t = 0 := by rw [q2, rd_ii, if_neg (by omega), q1, rd_ii, if_pos ⟨rfl, rfl⟩]
      rw [if_neg (c := te_ f n p - p > 2) (by omega), if_neg (c := te_ f n p - p > 2) (by omega)] at h
      have d0 := dig p (Int.le_refl _) e0
      refine ng_Reader_name_96 _ _ _ _ _ _ _ ?_
      rw [mm_w_id (x := te_ f n p - p) (by omega), z2, g2 p hp.1 hp.2, mm_w_id (x := 0 * 10) (by omega), mm_w_id (x := 0 * 10 + f p) (by omega), mm_w_id (x := 0 * 10 + f p - 48) (by omega), mm_w_id (x := p + 1) (by omega)]
      refine ⟨fun _ => ht, fun _ => by omega, fun _ => ht, fun y => by omega, fun _ => ?_⟩
      intro M3 q3
      have f3 : fr_ (tkc_ t) M M3 := by rw [q3]; exact fr_ui f2 ⟨Or.inr rfl, rfl⟩
      have g3 : ∀ i, 0 ≤ i → i < n → nn_ri M3 o i = f i := fun i i0 i1 => by rw [q3, rd_ii, if_neg (by omega)]; exact g2 i i0 i1
      have k3 : nn_ri M3 403 t = 1 := by rw [q3, rd_ii, if_neg (by omega)]; exact k2
      have z3 : nn_ri M3 405 t = f p - 48 := by rw [q3, rd_ii, if_pos ⟨rfl, rfl⟩]; omega
      refine ng_Reader_name_96 _ _ _ _ _ _ _ ?_
      by_cases c1 : te_ f n p - p = 1
      · rw [if_pos c1] at h
        refine ⟨fun y => by omega, fun y => by omega, fun y => by omega, fun _ => h M3 f3 k3 z3, fun y => by omega⟩
      · rw [if_neg c1] at h
        have d1 := dig (p + 1) (by omega) (by omega)
        rw [mm_w_id (x := te_ f n p - p) (by omega), z3, g3 (p + 1) (by omega) (by omega), mm_w_id (x := (f p - 48) * 10) (by omega), mm_w_id (x := (f p - 48) * 10 + f (p + 1)) (by omega), mm_w_id (x := (f p - 48) * 10 + f (p + 1) - 48) (by omega), mm_w_id (x := p + 1 + 1) (by omega)]
        refine ⟨fun _ => ht, fun _ => by omega, fun _ => ht, fun y => by omega, fun _ => ?_⟩
        intro M4 q4
        have f4 : fr_ (tkc_ t) M M4 := by rw [q4]; exact fr_ui f3 ⟨Or.inr rfl, rfl⟩
        have k4 : nn_ri M4 403 t = 1 := by rw [q4, rd_ii, if_neg (by omega)]; exact k3
        have z4 : nn_ri M4 405 t = 10 * (f p - 48) + (f (p + 1) - 48) := by rw [q4, rd_ii, if_pos ⟨rfl, rfl⟩]; omega
        refine ng_Reader_name_96 _ _ _ _ _ _ _ ?_
        exact ⟨fun y => by omega, fun y => by omega, fun y => by omega, fun _ => h M4 f4 k4 z4, fun y => by omega⟩
    · intro M2 q2
      have f2 : fr_ (tkc_ t) M M2 := by rw [q2]; exact fr_ui f1 ⟨Or.inl rfl, rfl⟩
      have k2 : nn_ri M2 403 t = 13 := by rw [q2, rd_ii, if_pos ⟨rfl, rfl⟩]
      have z2 : nn_ri M2 405 t = 0 := by rw [q2, rd_ii, if_neg (by omega), q1, rd_ii, if_pos ⟨rfl, rfl⟩]
      rw [if_pos (c := te_ f n p - p > 2) c, if_pos (c := te_ f n p - p > 2) c] at h
      refine ng_Reader_name_96 _ _ _ _ _ _ _ ?_
      rw [mm_w_id (x := te_ f n p - p) (by omega)]
      exact ⟨fun y => by omega, fun y => by omega, fun y => by omega, fun _ => h M2 f2 k2 z2, fun y => by omega⟩
  · have n1 : sb_ (f p) ≠ 1 := by rw [y3]; decide
    rw [if_neg n1, if_pos y3, if_neg n1, if_pos y3] at h
    refine ⟨by omega, ht, ?_⟩
    intro M2 q2
    rw [g1 p hp.1 hp.2] at q2
    refine h M2 (by rw [q2]; exact fr_ui f1 ⟨Or.inl rfl, rfl⟩) (by rw [q2, rd_ii, if_pos ⟨rfl, rfl⟩]) ?_
    rw [q2, rd_ii, if_neg (by omega), q1, rd_ii, if_pos ⟨rfl, rfl⟩]
  · rw [if_pos y1, if_pos y1] at h
    refine ct_Rd_word ho hn ⟨hp.1, e0, e1⟩ hc g1 ⟨ht, ?_⟩
    intro M2 q2
    have g2 : ∀ i, 0 ≤ i → i < n → nn_ri M2 o i = f i := fun i i0 i1 => by rw [q2, rd_ii, if_neg (by omega)]; exact g1 i i0 i1
    rw [g2 p hp.1 hp.2, mm_w_id (x := f p - 97) (by omega)]
    refine ⟨by omega, ht, ?_⟩
    intro M3 q3
    refine h M3 (by rw [q3]; exact fr_ui (by rw [q2]; exact fr_ui f1 ⟨Or.inl rfl, rfl⟩) ⟨Or.inr rfl, rfl⟩) ?_ (by rw [q3, rd_ii, if_pos ⟨rfl, rfl⟩])
    rw [q3, rd_ii, if_neg (by omega), q2, rd_ii, if_pos ⟨rfl, rfl⟩]
/-- the reader shows the tokens of a text, T of them, and the end -/
def rd_ (M : mm_M) (f : Int → Int) (n T : Int) : Prop := (0 ≤ T ∧ T ≤ n) ∧ (∀ u : Nat, (u : Int) < T → tS_ f n u < n) ∧ tS_ f n T.toNat = n ∧ ∀ t, 0 ≤ t → t ≤ T → nn_ri M 404 t = tS_ f n t.toNat ∧ nn_ri M 403 t = kd_ f n (tS_ f n t.toNat) ∧ (t < T → nn_ri M 405 t = nb_ f n (tS_ f n t.toNat))
def rdc_ (o _b : Nat) : Prop := o = 403 ∨ o = 404 ∨ o = 405
theorem ct_Rd_split {o : Nat} {n : Int} {f : Int → Int} {M : mm_M} {R : mm_M → Prop} (hoo : o < 403) (ho : n ≤ ((mm_kd o).2 : Int)) (hn : 0 ≤ n ∧ n ≤ 200) (hb : ∀ i, 0 ≤ i → i < n → 0 ≤ f i ∧ f i ≤ 255) (hf : ∀ i, 0 ≤ i → i < n → nn_ri M o i = f i)
    (h : ∀ M' T, fr_ rdc_ M M' → rd_ M' f n T → R M') : nr_Reader_split o n M R := by
  refine ng_Reader_split _ _ _ _ ?_
  have L : ∀ i : Int, i ≤ n → 0 ≤ i → ∀ (t : Int) (M1 : mm_M), 0 ≤ t → t ≤ i → fr_ rdc_ M M1 → (∀ u : Nat, (u : Int) < t → tS_ f n u < n) → i ≤ tS_ f n t.toNat → (∀ p, i ≤ p → p < tS_ f n t.toNat → ¬ sta_ f n p) → (∀ u, 0 ≤ u → u < t → nn_ri M1 404 u = tS_ f n u.toNat ∧ nn_ri M1 403 u = kd_ f n (tS_ f n u.toNat) ∧ nn_ri M1 405 u = nb_ f n (tS_ f n u.toNat)) → nk_Reader_split_5 o n t i M1 R := by
    refine lp_up (fun i hi ih i0 t M1 t0 t1 f1 hu hs hno hr => ?_)
    obtain ⟨a1, a2, a3⟩ := tS_at (f := f) hn.1 t.toNat (fun u hu2 => hu u (by omega))
    have g1 : ∀ i, 0 ≤ i → i < n → nn_ri M1 o i = f i := fun i i0 i1 => (fr_ri f1 (by unfold rdc_; omega)).trans (hf i i0 i1)
    refine ng_Reader_split_5 _ _ _ _ _ _ ⟨fun c => ⟨by omega, ?_⟩, fun c => ⟨by omega, ?_⟩⟩
    · have e : tS_ f n t.toNat = n := by omega
      intro M2 q2
      refine ⟨by omega, ?_⟩
      intro M3 q3
      refine h M3 t (by rw [q3, q2]; exact fr_ui (fr_ui f1 (Or.inr (Or.inl rfl))) (Or.inl rfl)) ⟨⟨t0, by omega⟩, hu, e, fun u u0 u1 => ?_⟩
      by_cases z : u = t
      · rw [z, e]
        refine ⟨?_, ?_, fun y => by omega⟩
        · rw [q3, rd_ii, if_neg (by omega), q2, rd_ii, if_pos ⟨rfl, rfl⟩]
        · rw [q3, rd_ii, if_pos ⟨rfl, rfl⟩]
          unfold kd_
          rw [if_pos (Int.le_refl _)]
      · obtain ⟨r1, r2, r3⟩ := hr u u0 (by omega)
        refine ⟨?_, ?_, fun _ => ?_⟩
        · rw [q3, rd_ii, if_neg (by omega), q2, rd_ii, if_neg (by omega)]; exact r1
        · rw [q3, rd_ii, if_neg (by omega), q2, rd_ii, if_neg (by omega)]; exact r2
        · rw [q3, rd_ii, if_neg (by omega), q2, rd_ii, if_neg (by omega)]; exact r3
    rw [mm_w_id (x := i + 1) (by omega)]
    -- no token begins here
    have skip : ¬ sta_ f n i → nk_Reader_split_5 o n t (i + 1) M1 R := by
      intro w
      have : tS_ f n t.toNat ≠ i := fun y => w (by rw [← y]; exact a3 (by omega))
      exact ih c (by omega) t M1 t0 (by omega) f1 hu (by omega) (fun p p0 p1 => hno p (by omega) p1) hr
    -- one does
    have take : sta_ f n i → nk_Reader_split_68 o n t i (sb_ (f i)) (i + 1) M1 R := by
      intro w
      have es : tS_ f n t.toNat = i := by
        by_cases y : tS_ f n t.toNat = i
        · exact y
        · exact absurd w (hno i (Int.le_refl _) (by omega))
      obtain ⟨e0, e1, e2, e3⟩ := te_in (f := f) c
      have out : nk_Reader_split_68 o n t i (sb_ (f i)) (te_ f n i) M1 R ∧ ∀ M2 : mm_M, M2 = nn_ui M1 404 t i → nr_Reader_name t (sb_ (f i)) o (te_ f n i) M2 (fun M113 => nk_Reader_split_5 o n (mm_w (t + 1)) (mm_w (i + 1)) M113 R) := by
        have key : ∀ M2 : mm_M, M2 = nn_ui M1 404 t i → nr_Reader_name t (sb_ (f i)) o (te_ f n i) M2 (fun M113 => nk_Reader_split_5 o n (mm_w (t + 1)) (mm_w (i + 1)) M113 R) := by
          intro M2 q2
          have f2 : fr_ rdc_ M M2 := by rw [q2]; exact fr_ui f1 (Or.inr (Or.inl rfl))
          refine ct_Rd_name hoo ho hn.2 ⟨i0, c⟩ w.2.1 (by omega) hb (fun i i0 i1 => (fr_ri f2 (by unfold rdc_; omega)).trans (hf i i0 i1)) (by rw [q2, rd_ii, if_pos ⟨rfl, rfl⟩]) (fun M3 f3 k3 z3 => ?_)
          rw [mm_w_id (x := t + 1) (by omega), mm_w_id (x := i + 1) (by omega)]
          have st3 : nn_ri M3 404 t = i := by rw [fr_ri f3 (by unfold tkc_; omega), q2, rd_ii, if_pos ⟨rfl, rfl⟩]
          have e5 : (t + 1).toNat = t.toNat + 1 := by omega
          have hgt : te_ f n i ≤ tS_ f n (t.toNat + 1) := by
            have := (rn_spec f n 0 (te_ f n (tS_ f n t.toNat))).1
            rw [es] at this
            show te_ f n i ≤ rn_ f n 0 (te_ f n (tS_ f n t.toNat))
            rw [es]; exact this
          refine ih c (by omega) (t + 1) M3 (by omega) (by omega) (fr_trans f2 (fr_mono f3 (fun o b y => by unfold tkc_ at y; unfold rdc_; omega))) (fun u hu2 => ?_) ?_ (fun p p0 p1 => ?_) (fun u u0 u1 => ?_)
          · by_cases y : (u : Int) < t
            · exact hu u y
            · rw [show u = t.toNat by omega, es]; exact c
          · rw [e5]; omega
          · rw [e5] at p1
            exact tS_no (t := t.toNat) (by omega) (by omega) p1
          · by_cases y : u = t
            · rw [y, es]; exact ⟨st3, k3, z3⟩
            · obtain ⟨r1, r2, r3⟩ := hr u u0 (by omega)
              have d : ∀ o', nn_ri M3 o' u = nn_ri M1 o' u := fun o' => by rw [fr_ri f3 (by unfold tkc_; omega), q2, rd_ii, if_neg (by omega)]
              exact ⟨(d _).trans r1, (d _).trans r2, (d _).trans r3⟩
        refine ⟨?_, key⟩
        refine ng_Reader_split_68 _ _ _ _ _ _ _ _ ⟨fun _ => by omega, fun _ => by omega, fun y => by omega, fun _ => key, fun y => ?_⟩
        refine ct_Rd_sortOf ⟨fun _ => ⟨by omega, key⟩, fun y2 => ?_⟩
        rw [g1 _ (by omega) y.1] at y2
        exfalso
        rcases e3 y.1 with v | v
        · exact y.2 v
        · exact v y2.symm
      by_cases z3 : sb_ (f i) = 3
      · have e4 : te_ f n i = i + 1 := if_pos z3
        rw [e4] at out
        exact out.1
      · have e4 : te_ f n i = rn_ f n (sb_ (f i)) (i + 1) := if_neg z3
        have LL : ∀ q : Int, q ≤ te_ f n i → i + 1 ≤ q → nk_Reader_split_68 o n t i (sb_ (f i)) q M1 R := by
          refine lp_up (fun q hq ihq q0 => ?_)
          by_cases y : q = te_ f n i
          · rw [y]; exact out.1
          · have e5 := (e2 q (by omega) (by omega)).1
            refine ng_Reader_split_68 _ _ _ _ _ _ _ _ ⟨fun y => by omega, fun y => by omega, fun y => by omega, fun y => by omega, fun y2 => ?_⟩
            refine ct_Rd_sortOf ?_
            rw [g1 q (by omega) (by omega), e5, mm_w_id (x := q + 1) (by omega)]
            exact ⟨fun v => absurd rfl v, fun _ => ihq (by omega) (by omega)⟩
        exact LL (i + 1) (by omega) (Int.le_refl _)
    refine ct_Rd_sortOf ?_
    rw [g1 i i0 c]
    refine ⟨fun y => ⟨fun z => skip (fun w => w.2.1 z), fun z => take ⟨c, z, Or.inl (by omega)⟩⟩, fun y => ⟨fun y3 => ⟨fun z => skip (fun w => w.2.1 z), fun z => take ⟨c, z, Or.inr (Or.inl y3)⟩⟩, fun y3 => ?_⟩⟩
    rw [mm_w_id (x := i - 1) (by omega)]
    refine ⟨by omega, ct_Rd_sortOf ?_⟩
    rw [g1 (i - 1) (by omega) (by omega)]
    refine ⟨fun z => skip (fun w => ?_), fun z => take ⟨c, z.2, Or.inr (Or.inr z.1)⟩⟩
    rcases z with z | z
    · rcases w.2.2 with v | v | v
      · omega
      · exact y3 v
      · exact v z
    · exact w.2.1 z
  have s0 := tS_at (f := f) hn.1 0 (fun u hu => by omega)
  exact L 0 hn.1 (Int.le_refl _) 0 M (Int.le_refl _) (Int.le_refl _) (fr_refl M) (fun u hu => by omega) s0.1 (fun p p0 p1 => tS_no0 p0 p1) (fun u u0 u1 => by omega)
