/-! the core of a state: STAMP, SINCE; MEMORY, RUNS of the table; the ids (the class's, the Model's); the indexes. A write, a flush, repairs -/
abbrev ab_T : Type := (Int × Int) × ab_V × Int × (Int → ab_R) × (Int × Int) × (Int → ab_X)
abbrev aTs_ (T : ab_T) : Int := T.1.1
abbrev aTi_ (T : ab_T) : Int := T.1.2
abbrev aTm_ (T : ab_T) : ab_V := T.2.1
abbrev aTn_ (T : ab_T) : Int := T.2.2.1
abbrev aTq_ (T : ab_T) : Int → ab_R := T.2.2.2.1
abbrev aTc_ (T : ab_T) : Int × Int := T.2.2.2.2.1
abbrev aTX_ (T : ab_T) : Int → ab_X := T.2.2.2.2.2
abbrev aTl_ (T : ab_T) : ab_V := lk_ T.2.1 T.2.2.1 T.2.2.2.1
def cT_ (M : mm_M) (s : Nat) (T : ab_T) : Prop := tb_ M (s + 3) (aTm_ T) (aTl_ T) (aTn_ T) (aTq_ T) ∧ (nn_rf M (s + 3) 6 = aTs_ T ∧ nn_rf M (s + 3) 7 = aTi_ T ∧ nn_rf M (s + 3) 8 = (aTc_ T).1) ∧ cXs_ M s (aTl_ T) (aTX_ T)
def jT_ (bd sb si : Int) (T : ab_T) : Prop := dT_ (aTs_ T) (aTm_ T) (aTn_ T) (aTq_ T) ∧ (0 ≤ aTn_ T ∧ aTn_ T ≤ 20) ∧ ((0 ≤ aTs_ T ∧ aTs_ T ≤ bd) ∧ (0 ≤ aTi_ T ∧ aTi_ T ≤ si ∧ aTi_ T ≤ aTs_ T) ∧ (0 ≤ (aTc_ T).1 ∧ (aTc_ T).1 ≤ bd) ∧ (0 ≤ (aTc_ T).2 ∧ (aTc_ T).2 ≤ bd)) ∧ (∀ r, 0 ≤ r → r < aTn_ T → -1 ≤ lvl_ (aTq_ T) r ∧ lvl_ (aTq_ T) r ≤ bd) ∧ ∀ i, 0 ≤ i → i < 4 → jX_ (aTs_ T) (aTi_ T) bd sb 19 (aTm_ T) (aTl_ T) (aTX_ T i)
def tk3_ (key row : Int) (T : ab_T) : ab_T := ((aTs_ T + 1, aTi_ T + 1), upd_ (aTm_ T) key.toNat (some (aTs_ T + 1, row)), aTn_ T, aTq_ T, aTc_ T, (fd_ (tk2_ key row (aTs_ T + 1)) (aTc_ T, aTX_ T) 4).2)
noncomputable def fl2_ (fan : Int) (T : ab_T) : ab_T := ((aTs_ T, 0), nov_, (flT_ (aTs_ T) (aTi_ T) fan (aTm_ T) (aTn_ T) (aTq_ T) (aTc_ T) (aTX_ T)).2.2.2.2.1, (flT_ (aTs_ T) (aTi_ T) fan (aTm_ T) (aTn_ T) (aTq_ T) (aTc_ T) (aTX_ T)).2.2.2.2.2, (flG_ (aTs_ T) (aTi_ T) fan (aTm_ T) (aTn_ T) (aTq_ T) (aTc_ T) (aTX_ T)).1, (flG_ (aTs_ T) (aTi_ T) fan (aTm_ T) (aTn_ T) (aTq_ T) (aTc_ T) (aTX_ T)).2)
noncomputable def rp3_ (T : ab_T) : ab_T := (T.1, aTm_ T, aTn_ T, aTq_ T, (fd_ (rep2_ (aTs_ T) (aTl_ T)) (aTc_ T, aTX_ T) 4).1, (fd_ (rep2_ (aTs_ T) (aTl_ T)) (aTc_ T, aTX_ T) 4).2)
noncomputable def wr1_ (room fan : Int) (T : ab_T) : ab_T := if aTi_ T < room then T else fl2_ fan T
noncomputable def wr_ (room fan key row : Int) (T : ab_T) : ab_T := rp3_ (wr1_ room fan (tk3_ key row T))
theorem lk_upd {mem : ab_V} {n : Int} {q : Int → ab_R} {key : Nat} {p : Int × Int} : lk_ (upd_ mem key (some p)) n q = upd_ (lk_ mem n q) key (some p) := by
  funext k
  unfold lk_ upd_
  by_cases z : k = key
  · rw [if_pos z, if_pos z]; rfl
  · rw [if_neg z, if_neg z]
theorem fd_c1 {F : Int × Int → ab_X → (Int × Int) × ab_X} {s : (Int × Int) × (Int → ab_X)} (h : ∀ c X, (F c X).1 = c) : ∀ k : Nat, (fd_ F s k).1 = s.1
  | 0 => rfl
  | k + 1 => (h _ _).trans (fd_c1 h k)
theorem tk2_c {key row st : Int} {c : Int × Int} {X : ab_X} : (tk2_ key row st c X).1 = c := by
  unfold tk2_
  split <;> rfl
theorem jT_up {bd sb si bd' sb' si' : Int} {T : ab_T} (h1 : bd ≤ bd') (h2 : sb ≤ sb') (h3 : si ≤ si') (k : jT_ bd sb si T) : jT_ bd' sb' si' T := by
  obtain ⟨a, b, ⟨c1, c2, c3, c4⟩, d, e⟩ := k
  exact ⟨a, b, ⟨⟨c1.1, by omega⟩, ⟨c2.1, by omega, c2.2.2⟩, ⟨c3.1, by omega⟩, c4.1, by omega⟩, fun r r0 r1 => ⟨(d r r0 r1).1, by have := (d r r0 r1).2; omega⟩, fun i i0 i1 => jX_up h1 h2 (Int.le_refl _) (e i i0 i1)⟩
theorem jT_tk3 {bd sb si key row : Int} {T : ab_T} (hk : 0 ≤ key ∧ key < 32) (hrow : row = -1 ∨ (0 ≤ row ∧ row < 65536)) (hbd : bd < 1000000000) (k : jT_ bd sb si T) : jT_ (bd + 1) (sb + 1) (si + 1) (tk3_ key row T) := by
  obtain ⟨⟨d1, d2, d3⟩, b, ⟨c1, c2, c3, c4⟩, d, e⟩ := k
  refine ⟨⟨fun k p hp => ?_, fun r r0 r1 => ⟨fun k p hp => ?_, ?_, fun k p p' hp hp' => ?_⟩, d3⟩, b, ⟨⟨by show 0 ≤ aTs_ T + 1; omega, by show aTs_ T + 1 ≤ bd + 1; omega⟩, ⟨by show 0 ≤ aTi_ T + 1; omega, by show aTi_ T + 1 ≤ si + 1; omega, by show aTi_ T + 1 ≤ aTs_ T + 1; omega⟩, ⟨c3.1, by show (aTc_ T).1 ≤ bd + 1; omega⟩, c4.1, by show (aTc_ T).2 ≤ bd + 1; omega⟩, fun r r0 r1 => ⟨(d r r0 r1).1, by have := (d r r0 r1).2; show lvl_ (aTq_ T) r ≤ bd + 1; omega⟩, fun i i0 i1 => ?_⟩
  · have hp : upd_ (aTm_ T) key.toNat (some (aTs_ T + 1, row)) k = some p := hp
    unfold upd_ at hp
    by_cases z : k = key.toNat
    · rw [if_pos z] at hp
      have hp := Option.some.inj hp
      rw [← hp]
      exact ⟨hrow, by show 0 < aTs_ T + 1; omega, Int.le_refl _⟩
    · rw [if_neg z] at hp
      have := d1 k p hp
      exact ⟨this.1, this.2.1, by have := this.2.2; show p.1 ≤ aTs_ T + 1; omega⟩
  · have := (d2 r r0 r1).1 k p hp
    exact ⟨this.1, this.2.1, by have := this.2.2; show p.1 ≤ aTs_ T + 1; omega⟩
  · have := (d2 r r0 r1).2.1
    show (aTq_ T r).2.2.2.2.1 ≤ aTs_ T + 1
    omega
  · have hp : upd_ (aTm_ T) key.toNat (some (aTs_ T + 1, row)) k = some p := hp
    unfold upd_ at hp
    by_cases z : k = key.toNat
    · rw [if_pos z] at hp
      have hp := Option.some.inj hp
      have := ((d2 r r0 r1).1 k p' hp').2.2
      rw [← hp]
      show p'.1 < aTs_ T + 1
      omega
    · rw [if_neg z] at hp
      exact (d2 r r0 r1).2.2 k p p' hp hp'
  · have : aTl_ (tk3_ key row T) = upd_ (aTl_ T) key.toNat (some (aTs_ T + 1, row)) := lk_upd
    rw [this]
    have key2 := fd_all (F := tk2_ key row (aTs_ T + 1)) (s := (aTc_ T, aTX_ T)) (P := jX_ (aTs_ T) (aTi_ T) bd sb 19 (aTm_ T) (aTl_ T)) (Q := jX_ (aTs_ T + 1) (aTi_ T + 1) (bd + 1) (sb + 1) 19 (upd_ (aTm_ T) key.toNat (some (aTs_ T + 1, row))) (upd_ (aTl_ T) key.toNat (some (aTs_ T + 1, row)))) (fun c X hX => jX_up (by omega) (Int.le_refl _) (Int.le_refl _) (jX_tak hk (by omega) hrow hX)) e
    exact key2 i i0 i1
theorem fl_facts {bd sb si fan : Int} {T : ab_T} (hfan : 2 ≤ fan) (hbd : bd < 1000000000) (k : jT_ bd sb si T) (hsb : sb ≤ 80) : (∀ i, 0 ≤ i → i < 4 → wX_ 21 bd (aTX_ T i)) ∧ (∀ j, j < 32 → lz_ (aTl_ T j) (aTl_ (fl2_ fan T) j)) ∧ dT_ (aTs_ T) nov_ (aTn_ (fl2_ fan T)) (aTq_ (fl2_ fan T)) ∧ 0 ≤ aTn_ (fl2_ fan T) ∧ aTn_ (fl2_ fan T) ≤ 20 := by
  obtain ⟨dd, b, ⟨c1, c2, c3, c4⟩, d, e⟩ := k
  have elk : lk_ nov_ (aTn_ T + 1) (sh_ ((flL_ (aTs_ T) (aTm_ T) (aTc_ T) (aTX_ T)).1.1 + 1, (flL_ (aTs_ T) (aTm_ T) (aTc_ T) (aTX_ T)).1.2 + 1, 0, aTs_ T - aTi_ T + 1, aTs_ T, aTm_ T) (aTq_ T)) = aTl_ T := lk_sh b.1 rfl
  obtain ⟨tl1, tl2, tl3⟩ := tmf_lat (st := aTs_ T) (mem := nov_) (fan := fan) (sure := sur_ (flL_ (aTs_ T) (aTm_ T) (aTc_ T) (aTX_ T)).2) (s := flS_ (aTs_ T) (aTi_ T) (aTm_ T) (aTn_ T) (aTq_ T) (aTc_ T) (aTX_ T)) hfan (dT_sh dd rfl (Int.le_refl _)) (fun j _ => (congrFun elk j).symm)
  have hlb := lb_sh (x := ((flL_ (aTs_ T) (aTm_ T) (aTc_ T) (aTX_ T)).1.1 + 1, (flL_ (aTs_ T) (aTm_ T) (aTc_ T) (aTX_ T)).1.2 + 1, 0, aTs_ T - aTi_ T + 1, aTs_ T, aTm_ T)) 0 ((flL_ (aTs_ T) (aTm_ T) (aTc_ T) (aTX_ T)).1.1 + 1) ((flL_ (aTs_ T) (aTm_ T) (aTc_ T) (aTX_ T)).1.2 + 1) (aTl_ T) rfl (by omega : (0 : Int) ≤ bd) d
  have tc := tmf_bd (fan := fan) (sure := sur_ (flL_ (aTs_ T) (aTm_ T) (aTc_ T) (aTX_ T)).2) (s := flS_ (aTs_ T) (aTi_ T) (aTm_ T) (aTn_ T) (aTq_ T) (aTc_ T) (aTX_ T)) (b := bd) hfan (by omega) ⟨show 0 ≤ aTn_ T + 1 by omega, show aTn_ T + 1 ≤ 24 by omega⟩ hlb
  refine ⟨fun i i0 i1 => jX_w (e i i0 i1) hsb, fun j hj => ?_, tl1, tc.1, tmf_n⟩
  have := tl3 j hj
  rw [show lk_ nov_ (flS_ (aTs_ T) (aTi_ T) (aTm_ T) (aTn_ T) (aTq_ T) (aTc_ T) (aTX_ T)).2.2.2.2.1 (flS_ (aTs_ T) (aTi_ T) (aTm_ T) (aTn_ T) (aTq_ T) (aTc_ T) (aTX_ T)).2.2.2.2.2 j = aTl_ T j from congrFun elk j] at this
  exact this
theorem jT_fl2 {bd sb si fan : Int} {T : ab_T} (hfan : 2 ≤ fan) (hbd : bd < 1000000000) (hsb : sb ≤ 80) (k : jT_ bd sb si T) : jT_ (bd + 200) sb 0 (fl2_ fan T) := by
  obtain ⟨f1, f2, f3, f4, f5⟩ := fl_facts hfan hbd k hsb
  obtain ⟨dd, b, ⟨c1, c2, c3, c4⟩, d, e⟩ := k
  have lc := fd_c (F := lay_ (aTs_ T) (aTm_ T)) (s := (aTc_ T, aTX_ T)) (a := 1) (P := fun _ => True) (fun _ _ _ => trivial) (fun c X _ => lay_c) 4 (Nat.le_refl _)
  have lc : (aTc_ T).1 ≤ (flL_ (aTs_ T) (aTm_ T) (aTc_ T) (aTX_ T)).1.1 ∧ (flL_ (aTs_ T) (aTm_ T) (aTc_ T) (aTX_ T)).1.1 ≤ (aTc_ T).1 + 1 * ((4 : Nat) : Int) ∧ (aTc_ T).2 ≤ (flL_ (aTs_ T) (aTm_ T) (aTc_ T) (aTX_ T)).1.2 ∧ (flL_ (aTs_ T) (aTm_ T) (aTc_ T) (aTX_ T)).1.2 ≤ (aTc_ T).2 + 1 * ((4 : Nat) : Int) := lc
  have hlb := lb_sh (x := ((flL_ (aTs_ T) (aTm_ T) (aTc_ T) (aTX_ T)).1.1 + 1, (flL_ (aTs_ T) (aTm_ T) (aTc_ T) (aTX_ T)).1.2 + 1, 0, aTs_ T - aTi_ T + 1, aTs_ T, aTm_ T)) 0 ((flL_ (aTs_ T) (aTm_ T) (aTc_ T) (aTX_ T)).1.1 + 1) ((flL_ (aTs_ T) (aTm_ T) (aTc_ T) (aTX_ T)).1.2 + 1) (aTl_ T) rfl (by omega : (0 : Int) ≤ bd) d
  have tc := tmf_bd (fan := fan) (sure := sur_ (flL_ (aTs_ T) (aTm_ T) (aTc_ T) (aTX_ T)).2) (s := flS_ (aTs_ T) (aTi_ T) (aTm_ T) (aTn_ T) (aTq_ T) (aTc_ T) (aTX_ T)) (b := bd) hfan (by omega) ⟨show 0 ≤ aTn_ T + 1 by omega, show aTn_ T + 1 ≤ 24 by omega⟩ hlb
  obtain ⟨_, _, _, tc1, tc2, tc3⟩ := tc
  have tc1 : (flL_ (aTs_ T) (aTm_ T) (aTc_ T) (aTX_ T)).1.1 + 1 ≤ (flT_ (aTs_ T) (aTi_ T) fan (aTm_ T) (aTn_ T) (aTq_ T) (aTc_ T) (aTX_ T)).2.1 ∧ (flT_ (aTs_ T) (aTi_ T) fan (aTm_ T) (aTn_ T) (aTq_ T) (aTc_ T) (aTX_ T)).2.1 ≤ (flL_ (aTs_ T) (aTm_ T) (aTc_ T) (aTX_ T)).1.1 + 1 + 25 := tc1
  have tc2 : (flL_ (aTs_ T) (aTm_ T) (aTc_ T) (aTX_ T)).1.2 + 1 ≤ (flT_ (aTs_ T) (aTi_ T) fan (aTm_ T) (aTn_ T) (aTq_ T) (aTc_ T) (aTX_ T)).2.2.1 ∧ (flT_ (aTs_ T) (aTi_ T) fan (aTm_ T) (aTn_ T) (aTq_ T) (aTc_ T) (aTX_ T)).2.2.1 ≤ (flL_ (aTs_ T) (aTm_ T) (aTc_ T) (aTX_ T)).1.2 + 1 + 25 := tc2
  have w1 : ∀ i, 0 ≤ i → i < 4 → jX_ (aTs_ T) 0 bd sb 20 nov_ (aTl_ T) ((flL_ (aTs_ T) (aTm_ T) (aTc_ T) (aTX_ T)).2 i) := fd_all (F := lay_ (aTs_ T) (aTm_ T)) (s := (aTc_ T, aTX_ T)) (P := jX_ (aTs_ T) (aTi_ T) bd sb 19 (aTm_ T) (aTl_ T)) (Q := jX_ (aTs_ T) 0 bd sb 20 nov_ (aTl_ T)) (fun c X hX => jX_lay c1.1 (by omega) hX) e
  have w2 : ∀ i, 0 ≤ i → i < 4 → jX_ (aTs_ T) 0 bd sb 20 nov_ (aTl_ (fl2_ fan T)) ((flL_ (aTs_ T) (aTm_ T) (aTc_ T) (aTX_ T)).2 i) := fun i i0 i1 => jX_lz f2 (w1 i i0 i1)
  have mc := fd_c (F := mrg_ fan (aTs_ T) (aTl_ (fl2_ fan T))) (s := (((flT_ (aTs_ T) (aTi_ T) fan (aTm_ T) (aTn_ T) (aTq_ T) (aTc_ T) (aTX_ T)).2.1, (flT_ (aTs_ T) (aTi_ T) fan (aTm_ T) (aTn_ T) (aTq_ T) (aTc_ T) (aTX_ T)).2.2.1), (flL_ (aTs_ T) (aTm_ T) (aTc_ T) (aTX_ T)).2)) (a := 25) (P := wX_ 22 bd) (fun i i0 i1 => jX_w (w2 i i0 i1) hsb) (fun c X hX => mrg_c (bd := bd) hfan (by omega) (fun z => ⟨(hX z).2.2.1.1, by have := (hX z).2.2.1.2; omega⟩) (fun z => (hX z).2.2.2.2)) 4 (Nat.le_refl _)
  have mc : (flT_ (aTs_ T) (aTi_ T) fan (aTm_ T) (aTn_ T) (aTq_ T) (aTc_ T) (aTX_ T)).2.1 ≤ (flG_ (aTs_ T) (aTi_ T) fan (aTm_ T) (aTn_ T) (aTq_ T) (aTc_ T) (aTX_ T)).1.1 ∧ (flG_ (aTs_ T) (aTi_ T) fan (aTm_ T) (aTn_ T) (aTq_ T) (aTc_ T) (aTX_ T)).1.1 ≤ (flT_ (aTs_ T) (aTi_ T) fan (aTm_ T) (aTn_ T) (aTq_ T) (aTc_ T) (aTX_ T)).2.1 + 25 * ((4 : Nat) : Int) ∧ (flT_ (aTs_ T) (aTi_ T) fan (aTm_ T) (aTn_ T) (aTq_ T) (aTc_ T) (aTX_ T)).2.2.1 ≤ (flG_ (aTs_ T) (aTi_ T) fan (aTm_ T) (aTn_ T) (aTq_ T) (aTc_ T) (aTX_ T)).1.2 ∧ (flG_ (aTs_ T) (aTi_ T) fan (aTm_ T) (aTn_ T) (aTq_ T) (aTc_ T) (aTX_ T)).1.2 ≤ (flT_ (aTs_ T) (aTi_ T) fan (aTm_ T) (aTn_ T) (aTq_ T) (aTc_ T) (aTX_ T)).2.2.1 + 25 * ((4 : Nat) : Int) := mc
  have w3 : ∀ i, 0 ≤ i → i < 4 → jX_ (aTs_ T) 0 (bd + 25) sb 19 nov_ (aTl_ (fl2_ fan T)) ((flG_ (aTs_ T) (aTi_ T) fan (aTm_ T) (aTn_ T) (aTq_ T) (aTc_ T) (aTX_ T)).2 i) := fd_all (F := mrg_ fan (aTs_ T) (aTl_ (fl2_ fan T))) (s := (((flT_ (aTs_ T) (aTi_ T) fan (aTm_ T) (aTn_ T) (aTq_ T) (aTc_ T) (aTX_ T)).2.1, (flT_ (aTs_ T) (aTi_ T) fan (aTm_ T) (aTn_ T) (aTq_ T) (aTc_ T) (aTX_ T)).2.2.1), (flL_ (aTs_ T) (aTm_ T) (aTc_ T) (aTX_ T)).2)) (P := jX_ (aTs_ T) 0 bd sb 20 nov_ (aTl_ (fl2_ fan T))) (Q := jX_ (aTs_ T) 0 (bd + 25) sb 19 nov_ (aTl_ (fl2_ fan T))) (fun c X hX => jX_mrg hfan c1.1 (by omega) (by omega) hX) w2
  refine ⟨f3, ⟨f4, f5⟩, ⟨⟨c1.1, by show aTs_ T ≤ bd + 200; omega⟩, ⟨Int.le_refl _, Int.le_refl _, c1.1⟩, ⟨?_, ?_⟩, ?_, ?_⟩, fun r r0 r1 => ⟨(tc3 r r0 r1).1, ?_⟩, fun i i0 i1 => jX_up (by omega) (Int.le_refl _) (Int.le_refl _) (w3 i i0 i1)⟩
  · show 0 ≤ (flG_ (aTs_ T) (aTi_ T) fan (aTm_ T) (aTn_ T) (aTq_ T) (aTc_ T) (aTX_ T)).1.1; omega
  · show (flG_ (aTs_ T) (aTi_ T) fan (aTm_ T) (aTn_ T) (aTq_ T) (aTc_ T) (aTX_ T)).1.1 ≤ bd + 200; omega
  · show 0 ≤ (flG_ (aTs_ T) (aTi_ T) fan (aTm_ T) (aTn_ T) (aTq_ T) (aTc_ T) (aTX_ T)).1.2; omega
  · show (flG_ (aTs_ T) (aTi_ T) fan (aTm_ T) (aTn_ T) (aTq_ T) (aTc_ T) (aTX_ T)).1.2 ≤ bd + 200; omega
  · have := (tc3 r r0 r1).2
    show lvl_ (aTq_ (fl2_ fan T)) r ≤ bd + 200
    have this : lvl_ (aTq_ (fl2_ fan T)) r ≤ bd + 25 := this
    omega
theorem rep2_c {st : Int} {lat : ab_V} {c : Int × Int} {X : ab_X} (hn : xh_ X ≠ 0 → 0 ≤ xn_ X ∧ xn_ X ≤ 24) : c.1 ≤ (rep2_ st lat c X).1.1 ∧ (rep2_ st lat c X).1.1 ≤ c.1 + 25 ∧ c.2 ≤ (rep2_ st lat c X).1.2 ∧ (rep2_ st lat c X).1.2 ≤ c.2 + 25 := by
  by_cases hz : xh_ X = 0 ∨ sz_ X ≤ 96
  · rw [rep2_0 hz]; dsimp only; omega
  · rw [rep2_1 hz]
    have h1 := hn (fun z => hz (Or.inl z))
    have h2 := rpn_c (lat := lat) (st := st) (xn_ X).toNat (xn_ X, c.1, c.2, xg_ X)
    show c.1 ≤ (rpn_ lat st (xn_ X).toNat (xn_ X, c.1, c.2, xg_ X)).2.1 ∧ (rpn_ lat st (xn_ X).toNat (xn_ X, c.1, c.2, xg_ X)).2.1 ≤ c.1 + 25 ∧ c.2 ≤ (rpn_ lat st (xn_ X).toNat (xn_ X, c.1, c.2, xg_ X)).2.2.1 ∧ (rpn_ lat st (xn_ X).toNat (xn_ X, c.1, c.2, xg_ X)).2.2.1 ≤ c.2 + 25
    dsimp only at h2
    omega
theorem jT_rp3 {bd sb si : Int} {T : ab_T} (hsi : si ≤ 12) (hsb : sb ≤ 80) (k : jT_ bd sb si T) : jT_ (bd + 100) 64 si (rp3_ T) := by
  obtain ⟨dd, b, ⟨c1, c2, c3, c4⟩, d, e⟩ := k
  have mc := fd_c (F := rep2_ (aTs_ T) (aTl_ T)) (s := (aTc_ T, aTX_ T)) (a := 25) (P := wX_ 21 bd) (fun i i0 i1 => jX_w (e i i0 i1) hsb) (fun c X hX => rep2_c (fun z => ⟨(hX z).2.2.1.1, by have := (hX z).2.2.1.2; omega⟩)) 4 (Nat.le_refl _)
  have mc : (aTc_ T).1 ≤ (aTc_ (rp3_ T)).1 ∧ (aTc_ (rp3_ T)).1 ≤ (aTc_ T).1 + 25 * ((4 : Nat) : Int) ∧ (aTc_ T).2 ≤ (aTc_ (rp3_ T)).2 ∧ (aTc_ (rp3_ T)).2 ≤ (aTc_ T).2 + 25 * ((4 : Nat) : Int) := mc
  have w : ∀ i, 0 ≤ i → i < 4 → jX_ (aTs_ T) (aTi_ T) bd 64 19 (aTm_ T) (aTl_ T) ((fd_ (rep2_ (aTs_ T) (aTl_ T)) (aTc_ T, aTX_ T) 4).2 i) := fd_all (F := rep2_ (aTs_ T) (aTl_ T)) (s := (aTc_ T, aTX_ T)) (P := jX_ (aTs_ T) (aTi_ T) bd sb 19 (aTm_ T) (aTl_ T)) (Q := jX_ (aTs_ T) (aTi_ T) bd 64 19 (aTm_ T) (aTl_ T)) (fun c X hX => jX_rep c1.1 (by omega) hX) e
  exact ⟨dd, b, ⟨⟨c1.1, by show aTs_ T ≤ bd + 100; omega⟩, c2, ⟨by omega, by omega⟩, by omega, by omega⟩, fun r r0 r1 => ⟨(d r r0 r1).1, by have := (d r r0 r1).2; show lvl_ (aTq_ T) r ≤ bd + 100; omega⟩, fun i i0 i1 => jX_up (by omega) (Int.le_refl _) (Int.le_refl _) (w i i0 i1)⟩
theorem jT_wr {bd room fan key row : Int} {T : ab_T} (hk : 0 ≤ key ∧ key < 32) (hrow : row = -1 ∨ (0 ≤ row ∧ row < 65536)) (hfan : 2 ≤ fan) (hroom : room ≤ 12) (hbd : bd < 900000000) (k : jT_ bd 64 11 T) : jT_ (bd + 400) 64 11 (wr_ room fan key row T) := by
  have k1 := jT_tk3 hk hrow (by omega) k
  have k2 : jT_ (bd + 300) 65 11 (wr1_ room fan (tk3_ key row T)) := by
    unfold wr1_
    by_cases z : aTi_ (tk3_ key row T) < room
    · rw [if_pos z]
      have := jT_up (bd' := bd + 300) (sb' := 65) (si' := 12) (by omega) (by omega) (by omega) k1
      obtain ⟨dd, b, ⟨c1, c2, c3, c4⟩, d, e⟩ := this
      exact ⟨dd, b, ⟨c1, ⟨c2.1, by omega, c2.2.2⟩, c3, c4⟩, d, e⟩
    · rw [if_neg z]
      exact jT_up (by omega) (by omega) (by omega) (jT_fl2 hfan (by omega) (by omega) k1)
  exact jT_up (by omega) (Int.le_refl _) (Int.le_refl _) (jT_rp3 (by omega) (by omega) k2)
