/-! LATEST, searched for, behind a merge of the table's runs -/
theorem or_assoc (a b c : Option (Int × Int)) : or_ (or_ a b) c = or_ a (or_ b c) := by cases a <;> rfl
theorem or_none (a : Option (Int × Int)) : or_ a none = a := by cases a <;> rfl
theorem lkr_add (q : Int → ab_R) (k : Nat) : ∀ (a b : Nat) (i : Int), lkr_ q k (a + b) i = or_ (lkr_ q k a i) (lkr_ q k b (i + a))
  | 0, b, i => by rw [show 0 + b = b by omega, show i + ((0 : Nat) : Int) = i by omega]; rfl
  | a + 1, b, i => by
    rw [show a + 1 + b = (a + b) + 1 by omega]
    show or_ ((q i).2.2.2.2.2 k) (lkr_ q k (a + b) (i + 1)) = or_ (or_ ((q i).2.2.2.2.2 k) (lkr_ q k a (i + 1))) (lkr_ q k b (i + ((a + 1 : Nat) : Int)))
    rw [lkr_add q k a b (i + 1), or_assoc, show i + 1 + (a : Int) = i + ((a + 1 : Nat) : Int) by omega]
theorem lkr_cg {q q' : Int → ab_R} {k : Nat} : ∀ {m : Nat} {i i' : Int}, (∀ j : Int, 0 ≤ j → j < m → (q (i + j)).2.2.2.2.2 k = (q' (i' + j)).2.2.2.2.2 k) → lkr_ q k m i = lkr_ q' k m i'
  | 0, _, _, _ => rfl
  | m + 1, i, i', h => by
    have h0 := h 0 (by omega) (by omega)
    rw [show i + 0 = i by omega, show i' + 0 = i' by omega] at h0
    show or_ ((q i).2.2.2.2.2 k) (lkr_ q k m (i + 1)) = or_ ((q' i').2.2.2.2.2 k) (lkr_ q' k m (i' + 1))
    rw [h0, lkr_cg (m := m) (i := i + 1) (i' := i' + 1) (fun j j0 j1 => ?_)]
    have := h (j + 1) (by omega) (by omega)
    rw [show i + 1 + j = i + (j + 1) by omega, show i' + 1 + j = i' + (j + 1) by omega]
    exact this
theorem mgv_lkr (q : Int → ab_R) (f : Int) (k : Nat) : ∀ m : Nat, mgv_ q f m k = lkr_ q k (m + 1) f
  | 0 => by
    show (q f).2.2.2.2.2 k = or_ ((q f).2.2.2.2.2 k) none
    rw [or_none]
  | m + 1 => by
    rw [lkr_add q k (m + 1) 1 f, ← mgv_lkr q f k m]
    show or_ (mgv_ q f m k) ((q (f + m + 1)).2.2.2.2.2 k) = or_ _ (or_ ((q (f + ((m + 1 : Nat) : Int))).2.2.2.2.2 k) none)
    rw [or_none, show f + ((m + 1 : Nat) : Int) = f + m + 1 by omega]
theorem lkr_some {q : Int → ab_R} {k : Nat} {p : Int × Int} : ∀ {m : Nat} {i : Int}, lkr_ q k m i = some p → ∃ r, i ≤ r ∧ r < i + m ∧ (q r).2.2.2.2.2 k = some p
  | 0, _, h => by cases h
  | m + 1, i, h => by
    have h2 : or_ ((q i).2.2.2.2.2 k) (lkr_ q k m (i + 1)) = some p := h
    cases e : (q i).2.2.2.2.2 k with
    | some x =>
      rw [e] at h2
      exact ⟨i, by omega, by omega, by rw [e]; exact h2⟩
    | none =>
      rw [e] at h2
      obtain ⟨r, r0, r1, r2⟩ := lkr_some (m := m) (i := i + 1) h2
      exact ⟨r, by omega, by omega, r2⟩
/-- versions that can be: rows, stamps, newer ones ahead -/
def dv_ (st : Int) (V : ab_V) : Prop := ∀ k p, V k = some p → (p.2 = -1 ∨ (0 ≤ p.2 ∧ p.2 < 65536)) ∧ 0 < p.1 ∧ p.1 ≤ st
def dl_ (V W : ab_V) : Prop := ∀ k p p', V k = some p → W k = some p' → p'.1 < p.1
def dT_ (st : Int) (mem : ab_V) (n : Int) (q : Int → ab_R) : Prop := dv_ st mem ∧ (∀ r, 0 ≤ r → r < n → dv_ st (q r).2.2.2.2.2 ∧ (q r).2.2.2.2.1 ≤ st ∧ dl_ mem (q r).2.2.2.2.2) ∧ ∀ r r', 0 ≤ r → r < r' → r' < n → dl_ (q r).2.2.2.2.2 (q r').2.2.2.2.2
theorem mgv_some {q : Int → ab_R} {f : Int} {m k : Nat} {p : Int × Int} (h : mgv_ q f m k = some p) : ∃ r, f ≤ r ∧ r < f + m + 1 ∧ (q r).2.2.2.2.2 k = some p := by
  rw [mgv_lkr] at h
  obtain ⟨r, r0, r1, r2⟩ := lkr_some h
  exact ⟨r, r0, by omega, r2⟩
theorem fg_some {sure : Int} {x : Option (Int × Int)} {p : Int × Int} (h : fg_ sure x = some p) : x = some p := by
  cases x with
  | none => cases h
  | some y =>
    unfold fg_ at h
    dsimp only at h
    by_cases z : y.2 = -1 ∧ (sure = -1 ∨ y.1 ≤ sure)
    · rw [if_pos z] at h; cases h
    · rw [if_neg z] at h; exact h
theorem mg1_some {q : Int → ab_R} {f many n sure : Int} {k : Nat} {p : Int × Int} (hm : 1 ≤ many) (h : mg1_ q f many n sure k = some p) : ∃ r, f ≤ r ∧ r < f + many ∧ (q r).2.2.2.2.2 k = some p := by
  have h2 : mgv_ q f (many - 1).toNat k = some p := by
    unfold mg1_ at h
    by_cases z : f + many = n
    · rw [if_pos z] at h; exact fg_some h
    · rw [if_neg z] at h; exact h
  obtain ⟨r, r0, r1, r2⟩ := mgv_some h2
  exact ⟨r, r0, by omega, r2⟩
/-- each run behind a merge comes from one, or some, that stood there: its place, its versions -/
theorem mgq_from {q : Int → ab_R} {f many n sure level cid mid : Int} (hf : 0 ≤ f) (hm : 1 ≤ many) (hn : f + many ≤ n) {r : Int} (r0 : 0 ≤ r) (r1 : r < mgn_ q f many n sure) :
    (r = f ∧ mgk_ q f many n sure = 1 ∧ mgq_ q f many n sure level cid mid r = mgr_ q f many n sure level cid mid) ∨ ∃ r', 0 ≤ r' ∧ r' < n ∧ mgq_ q f many n sure level cid mid r = q r' ∧ ((r' = r ∧ r < f) ∨ (f + many ≤ r' ∧ r' = r + (many - mgk_ q f many n sure))) := by
  have hk := mgk_in q f many n sure
  unfold mgn_ at r1
  unfold mgq_ cu_ st_
  by_cases z : r < f + mgk_ q f many n sure
  · rw [if_pos z]
    by_cases y : r = f
    · rw [if_pos y]
      exact Or.inl ⟨y, by omega, rfl⟩
    · rw [if_neg y]
      exact Or.inr ⟨r, r0, by omega, rfl, Or.inl ⟨rfl, by omega⟩⟩
  · rw [if_neg z, if_neg (by omega)]
    exact Or.inr ⟨_, by omega, by omega, rfl, Or.inr ⟨by omega, rfl⟩⟩
theorem mgt_le {q : Int → ab_R} {f b : Int} : ∀ {m : Nat}, (∀ r, f ≤ r → r < f + m + 1 → (q r).2.2.2.2.1 ≤ b) → mgt_ q f m ≤ b
  | 0, h => h f (by omega) (by omega)
  | m + 1, h => by
    unfold mgt_
    have h1 := mgt_le (q := q) (f := f) (b := b) (m := m) (fun r r0 r1 => h r r0 (by omega))
    have h2 := h (f + m + 1) (by omega) (by omega)
    omega
theorem dT_tm1 {st : Int} {mem : ab_V} {q : Int → ab_R} {f many n sure level cid mid : Int} (hf : 0 ≤ f) (hm : 1 ≤ many) (hn : f + many ≤ n) (d : dT_ st mem n q) : dT_ st mem (mgn_ q f many n sure) (mgq_ q f many n sure level cid mid) := by
  obtain ⟨d1, d2, d3⟩ := d
  have hk := mgk_in q f many n sure
  refine ⟨d1, fun r r0 r1 => ?_, fun r r' r0 rr r1 => ?_⟩
  · rcases mgq_from (sure := sure) (level := level) (cid := cid) (mid := mid) hf hm hn r0 r1 with ⟨_, _, e⟩ | ⟨r2, a0, a1, e, _⟩
    · rw [e]
      refine ⟨fun k p hp => ?_, ?_, fun k p p' hp hp' => ?_⟩
      · obtain ⟨r3, b0, b1, b2⟩ := mg1_some hm hp
        exact (d2 r3 (by omega) (by omega)).1 k p b2
      · exact mgt_le (fun r3 b0 b1 => (d2 r3 (by omega) (by omega)).2.1)
      · obtain ⟨r3, b0, b1, b2⟩ := mg1_some hm hp'
        exact (d2 r3 (by omega) (by omega)).2.2 k p p' hp b2
    · rw [e]; exact d2 r2 a0 a1
  · have hn' : mgn_ q f many n sure = n - (many - mgk_ q f many n sure) := rfl
    intro k p p' hp hp'
    have h1 := mgq_from (sure := sure) (level := level) (cid := cid) (mid := mid) hf hm hn r0 (by omega : r < mgn_ q f many n sure)
    have h2 := mgq_from (sure := sure) (level := level) (cid := cid) (mid := mid) hf hm hn (by omega : 0 ≤ r') r1
    rcases h1 with ⟨e0, ek, e⟩ | ⟨r2, a0, a1, e, a2⟩
    · rcases h2 with ⟨g0, _, _⟩ | ⟨r3, c0, c1, g, c2⟩
      · omega
      · rw [e] at hp
        rw [g] at hp'
        obtain ⟨r4, b0, b1, b2⟩ := mg1_some hm hp
        exact d3 r4 r3 (by omega) (by omega) c1 k p p' b2 hp'
    · rw [e] at hp
      rcases h2 with ⟨g0, _, g⟩ | ⟨r3, c0, c1, g, c2⟩
      · rw [g] at hp'
        obtain ⟨r4, b0, b1, b2⟩ := mg1_some hm hp'
        exact d3 r2 r4 a0 (by omega) (by omega) k p p' hp b2
      · rw [g] at hp'
        exact d3 r2 r3 a0 (by omega) c1 k p p' hp hp'
theorem or_some {a b : Option (Int × Int)} {p : Int × Int} (h : or_ a b = some p) : a = some p ∨ (a = none ∧ b = some p) := by
  cases a with
  | none => exact Or.inr ⟨rfl, h⟩
  | some x => exact Or.inl h
theorem em_no {V : ab_V} (h : em_ V = true) (k : Nat) (hk : k < 32) : V k = none := (em_iff V).mp h k hk
/-- LATEST is searched for, and found where the class keeps it -/
theorem mgl_lk {st : Int} {mem : ab_V} {q : Int → ab_R} {f many n sure level cid mid : Int} (hf : 0 ≤ f) (hm : 1 ≤ many) (hn : f + many ≤ n) (d : dT_ st mem n q) (k : Nat) (hk : k < 32) : mgl_ q f many n sure (lk_ mem n q) k = lk_ mem (mgn_ q f many n sure) (mgq_ q f many n sure level cid mid) k := by
  obtain ⟨d1, d2, d3⟩ := d
  have hkp := mgk_in q f many n sure
  have e1 : lk_ mem n q k = or_ (mem k) (or_ (lkr_ q k f.toNat 0) (or_ (mgv_ q f (many - 1).toNat k) (lkr_ q k (n - f - many).toNat (f + many)))) := by
    unfold lk_
    rw [mgv_lkr, show (many - 1).toNat + 1 = many.toNat by omega, show n.toNat = f.toNat + (many.toNat + (n - f - many).toNat) by omega, lkr_add, lkr_add, show (0 : Int) + (f.toNat : Int) = f by omega, show f + (many.toNat : Int) = f + many by omega]
  have e2 : lk_ mem (mgn_ q f many n sure) (mgq_ q f many n sure level cid mid) k = or_ (mem k) (or_ (lkr_ q k f.toNat 0) (or_ (mg1_ q f many n sure k) (lkr_ q k (n - f - many).toNat (f + many)))) := by
    unfold lk_
    have hq : ∀ r, 0 ≤ r → r < mgn_ q f many n sure → (r < f → (mgq_ q f many n sure level cid mid r) = q r) ∧ (r = f → mgk_ q f many n sure = 1 → mgq_ q f many n sure level cid mid r = mgr_ q f many n sure level cid mid) ∧ (f + mgk_ q f many n sure ≤ r → mgq_ q f many n sure level cid mid r = q (r + (many - mgk_ q f many n sure))) := by
      intro r r0 r1
      have hn' : mgn_ q f many n sure = n - (many - mgk_ q f many n sure) := rfl
      refine ⟨fun z => ?_, fun z1 z2 => ?_, fun z => ?_⟩
      · rcases mgq_from (sure := sure) (level := level) (cid := cid) (mid := mid) hf hm hn r0 r1 with ⟨_, _, e⟩ | ⟨r2, a0, a1, e, a2⟩
        · omega
        · rw [e, show r2 = r by omega]
      · rcases mgq_from (sure := sure) (level := level) (cid := cid) (mid := mid) hf hm hn r0 r1 with ⟨_, _, e⟩ | ⟨r2, a0, a1, e, a2⟩
        · exact e
        · omega
      · rcases mgq_from (sure := sure) (level := level) (cid := cid) (mid := mid) hf hm hn r0 r1 with ⟨_, _, e⟩ | ⟨r2, a0, a1, e, a2⟩
        · omega
        · rw [e, show r2 = r + (many - mgk_ q f many n sure) by omega]
    have hn' : mgn_ q f many n sure = n - (many - mgk_ q f many n sure) := rfl
    rw [show (mgn_ q f many n sure).toNat = f.toNat + ((mgk_ q f many n sure).toNat + (n - f - many).toNat) by omega, lkr_add, lkr_add, show (0 : Int) + (f.toNat : Int) = f by omega]
    rw [lkr_cg (q' := q) (i := 0) (i' := 0) (m := f.toNat) (fun j j0 j1 => by rw [(hq (0 + j) (by omega) (by omega)).1 (by omega)])]
    rw [lkr_cg (q' := q) (i := f + ((mgk_ q f many n sure).toNat : Int)) (i' := f + many) (m := (n - f - many).toNat) (fun j j0 j1 => by rw [(hq (f + ((mgk_ q f many n sure).toNat : Int) + j) (by omega) (by omega)).2.2 (by omega), show f + ((mgk_ q f many n sure).toNat : Int) + j + (many - mgk_ q f many n sure) = f + many + j by omega])]
    congr 2
    by_cases z : em_ (mg1_ q f many n sure) = true
    · have k0 : mgk_ q f many n sure = 0 := if_pos z
      rw [k0, em_no z k hk]
      rfl
    · have k1 : mgk_ q f many n sure = 1 := if_neg z
      rw [k1]
      show or_ (or_ ((mgq_ q f many n sure level cid mid f).2.2.2.2.2 k) none) _ = _
      rw [or_none, (hq f hf (by omega)).2.1 rfl k1]
      rfl
  rw [e2]
  unfold mgl_
  by_cases z : f + many = n
  · rw [if_pos z, e1]
    unfold mg1_
    rw [if_pos z, show (n - f - many).toNat = 0 by omega]
    show lg_ sure (mgv_ q f (many - 1).toNat k) (or_ (mem k) (or_ (lkr_ q k f.toNat 0) (or_ (mgv_ q f (many - 1).toNat k) none))) = or_ (mem k) (or_ (lkr_ q k f.toNat 0) (or_ (fg_ sure (mgv_ q f (many - 1).toNat k)) none))
    rw [or_none, or_none, ← or_assoc, ← or_assoc]
    cases hA : or_ (mem k) (lkr_ q k f.toNat 0) with
    | some r =>
      show lg_ sure _ (some r) = some r
      cases hv : mgv_ q f (many - 1).toNat k with
      | none => rfl
      | some p =>
        refine if_neg (fun y => ?_)
        obtain ⟨r3, b0, b1, b2⟩ := mgv_some hv
        rcases or_some hA with h1 | ⟨_, h1⟩
        · have := (d2 r3 (by omega) (by omega)).2.2 k _ _ h1 b2
          omega
        · obtain ⟨r4, c0, c1, c2⟩ := lkr_some h1
          have := d3 r4 r3 c0 (by omega) (by omega) k _ _ c2 b2
          omega
    | none =>
      show lg_ sure (mgv_ q f (many - 1).toNat k) (mgv_ q f (many - 1).toNat k) = fg_ sure (mgv_ q f (many - 1).toNat k)
      cases hv : mgv_ q f (many - 1).toNat k with
      | none => rfl
      | some p =>
        unfold lg_ fg_
        dsimp only
        by_cases y : p.2 = -1 ∧ (sure = -1 ∨ p.1 ≤ sure)
        · rw [if_pos ⟨y, rfl⟩, if_pos y]
        · rw [if_neg (fun w => y w.1), if_neg y]
  · rw [if_neg z, e1]
    unfold mg1_
    rw [if_neg z]
/-- LATEST stays, or what was gone is none -/
def lz_ (l l' : Option (Int × Int)) : Prop := l' = l ∨ (l' = none ∧ ∃ p, l = some p ∧ p.2 = -1)
theorem lz_trans {a b c : Option (Int × Int)} (h : lz_ a b) (k : lz_ b c) : lz_ a c := by
  rcases h with e | ⟨e, w⟩
  · rw [e] at k; exact k
  · rw [e] at k
    rcases k with k | ⟨k, _⟩
    · exact Or.inr ⟨k, w⟩
    · exact Or.inr ⟨k, w⟩
theorem lz_vk {l l' : Option (Int × Int)} (h : lz_ l l') (u : ab_U) : vk_ u l' = vk_ u l := by
  rcases h with e | ⟨e, p, w, y⟩
  · rw [e]
  · rw [e, w]
    show (-1 : Int) = if p.2 = -1 then -1 else _
    rw [if_pos y]
theorem lk_some {mem : ab_V} {n : Int} {q : Int → ab_R} {k : Nat} {p : Int × Int} (h : lk_ mem n q k = some p) : mem k = some p ∨ ∃ r, 0 ≤ r ∧ r < n ∧ (q r).2.2.2.2.2 k = some p := by
  rcases or_some h with h1 | ⟨_, h1⟩
  · exact Or.inl h1
  · obtain ⟨r, r0, r1, r2⟩ := lkr_some h1
    exact Or.inr ⟨r, r0, by omega, r2⟩
theorem dT_one {st : Int} {mem : ab_V} {n : Int} {q : Int → ab_R} (d : dT_ st mem n q) {k : Nat} {p : Int × Int} (h : lk_ mem n q k = some p) {r : Int} (r0 : 0 ≤ r) (r1 : r < n) {p' : Int × Int} (hr : (q r).2.2.2.2.2 k = some p') (e : p'.1 = p.1) : p' = p := by
  rcases lk_some h with h1 | ⟨r2, a0, a1, a2⟩
  · have := (d.2.1 r r0 r1).2.2 k p p' h1 hr
    omega
  · by_cases z : r = r2
    · rw [z, a2] at hr
      exact (Option.some.inj hr).symm
    · by_cases y : r < r2
      · have := d.2.2 r r2 r0 y a1 k p' p hr a2
        omega
      · have := d.2.2 r2 r a0 (by omega) r1 k p p' a2 hr
        omega
theorem mgl_lz {st : Int} {mem : ab_V} {q : Int → ab_R} {f many n sure : Int} (hf : 0 ≤ f) (hm : 1 ≤ many) (hn : f + many ≤ n) (d : dT_ st mem n q) (k : Nat) : lz_ (lk_ mem n q k) (mgl_ q f many n sure (lk_ mem n q) k) := by
  unfold mgl_
  by_cases z : f + many = n
  · rw [if_pos z]
    show lz_ (lk_ mem n q k) (lg_ sure (mgv_ q f (many - 1).toNat k) (lk_ mem n q k))
    cases hl : lk_ mem n q k with
    | none =>
      cases mgv_ q f (many - 1).toNat k <;> exact Or.inl rfl
    | some p =>
      cases hv : mgv_ q f (many - 1).toNat k with
      | none => exact Or.inl rfl
      | some x =>
        unfold lg_
        dsimp only
        by_cases y : (x.2 = -1 ∧ (sure = -1 ∨ x.1 ≤ sure)) ∧ p.1 = x.1
        · rw [if_pos y]
          obtain ⟨r3, b0, b1, b2⟩ := mgv_some hv
          have := dT_one d hl (by omega) (by omega) b2 y.2.symm
          exact Or.inr ⟨rfl, p, rfl, by rw [← this]; exact y.1.1⟩
        · rw [if_neg y]
          exact Or.inl rfl
  · rw [if_neg z]
    exact Or.inl rfl
theorem lk_out {mem : ab_V} {n : Int} {q : Int → ab_R} {k : Nat} (h1 : mem k = none) (h2 : ∀ r, 0 ≤ r → r < n → (q r).2.2.2.2.2 k = none) : lk_ mem n q k = none := by
  cases h : lk_ mem n q k with
  | none => rfl
  | some p =>
    rcases lk_some h with e | ⟨r, r0, r1, e⟩
    · rw [h1] at e; cases e
    · rw [h2 r r0 r1] at e; cases e
