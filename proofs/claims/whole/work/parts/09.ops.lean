/-! each instruction: what its condition says, the machine does -/
def mm_wq (call : mm_K) (R : mm_P) (P : mm_C → Prop) (M : mm_M) (s : Option mm_S) : Prop := match s with
  | none => False
  | some (.inl c') => P c'
  | some (.inr (.inl (C, c'))) => C ∧ P c'
  | some (.inr (.inr (.inl (C, c1, c2)))) => (C → P c1) ∧ (¬ C → P c2)
  | some (.inr (.inr (.inr (.inl (C, y, as, k))))) => C ∧ call y as M (fun v M => P (k v M))
  | some (.inr (.inr (.inr (.inr (.inl v))))) => R v M
  | some (.inr (.inr (.inr (.inr (.inr (C, v)))))) => C ∧ R v M
def mm_okl (n : Nat) (st : List mm_V) : Prop := ∀ v ∈ st, mm_okv n v
theorem mm_okl_c {n : Nat} {v : mm_V} {st : List mm_V} (h : mm_okv n v) (h2 : mm_okl n st) : mm_okl n (v :: st) := by
  intro u hu
  rcases List.mem_cons.mp hu with e | e
  · rw [e]; exact h
  · exact h2 u e
theorem mm_okl_h {n : Nat} {v : mm_V} {st : List mm_V} (h : mm_okl n (v :: st)) : mm_okv n v := h v List.mem_cons_self
theorem mm_okl_t {n : Nat} {v : mm_V} {st : List mm_V} (h : mm_okl n (v :: st)) : mm_okl n st := fun u hu => h u (List.mem_cons_of_mem _ hu)
theorem mm_chk_d {y : Nat} {e : mm_E} (h : mm_chk y e = true) : decode (mm_b y) e.1 = .ok (e.2.1, e.2.2.1) ∧ mm_ln e.2.1 e.2.2.1 = true ∧ mm_chi y e = true := by
  unfold mm_chk at h
  rw [Bool.and_eq_true, Bool.and_eq_true] at h
  exact ⟨of_decide_eq_true h.1, h.2.1, h.2.2⟩
def mm_X (p : Program) (l : Launch) (e : Env) (R : Room) (s : State) (m : MethodId) (args : Array Value) (below : List Frame) (meth : Method) (c : Code) (Q : State → Prop) (γ : mm_G) (y n0 : Nat) (Mf : mm_M) (k : mm_C) : Prop :=
  k.2.2.2.1 ≤ Mf.1 ∧ ∀ (H : Heap) (locs : List Loc) (cells slots : Nat) (ls : Array Slot), mm_Rel γ k.2.2.2 H → (∀ q ∈ locs, γ.1.size ≤ q.base) → cells + n0 = k.2.2.2.1 → slots + mm_ss n0 = mm_ss k.2.2.2.1 → lv_has ls (mm_mx y) (mm_E1 γ k.2.1) → (∀ q ∈ k.2.1, mm_okv k.2.2.2.1 q.2) → mm_okl k.2.2.2.1 k.2.2.1 →
    W p l e R s m args below meth c H locs cells slots Q (F0 m k.1 ls (k.2.2.1.map (mm_ev γ)))
def mm_tg (t : Nat) (u : mm_V) : Prop := match t, u with
  | 0, .inl _ => True
  | 1, .inr (.inl _) => True
  | 3, .inr (.inr _) => True
  | _, _ => False
section Ops
variable {p : Program} {l : Launch} {e : Env} {R : Room} {s : State} {m : MethodId} {args : Array Value} {below : List Frame} {meth : Method} {c : Code} {Q : State → Prop} {γ : mm_G} {y d n0 : Nat} {Mf : mm_M} {call : mm_K} {Rf : mm_P}
variable {pc len w a b z : Nat} {v : Int} {lv : mm_L} {st : List mm_V} {M : mm_M}
theorem mm_o_push {u : mm_V} (hu : ∀ n, n ≤ mm_max → mm_okv n u) (row : ∀ (H : Heap) (locs : List Loc) (cells slots : Nat) (ls : Array Slot) (rest : List Value), W p l e R s m args below meth c H locs cells slots Q (F0 m (pc + len) ls (mm_ev γ u :: rest)) → W p l e R s m args below meth c H locs cells slots Q (F0 m pc ls rest))
    (hw : mm_X p l e R s m args below meth c Q γ y n0 Mf (pc + len, lv, u :: st, M)) : mm_X p l e R s m args below meth c Q γ y n0 Mf (pc, lv, st, M) :=
  ⟨hw.1, fun H locs cells slots ls hR hlo hce hsl hL hlv hst => row _ _ _ _ _ _ (hw.2 H locs cells slots ls hR hlo hce hsl hL hlv (mm_okl_c (hu _ hR.2.1) hst))⟩
theorem mm_o_b2 (f : Int → Int → Int) (g : Int32 → Int32 → Int32) (hf : ∀ x y : Int, (-2147483648 ≤ x ∧ x < 2147483648) → (-2147483648 ≤ y ∧ y < 2147483648) → (-2147483648 ≤ f x y ∧ f x y < 2147483648) ∧ Int32.ofInt (f x y) = g (Int32.ofInt x) (Int32.ofInt y))
    (row : ∀ (H : Heap) (locs : List Loc) (cells slots : Nat) (ls : Array Slot) (rest : List Value) (x y : Int32), W p l e R s m args below meth c H locs cells slots Q (F0 m (pc + len) ls (.int (g x y) :: rest)) → W p l e R s m args below meth c H locs cells slots Q (F0 m pc ls (.int y :: .int x :: rest)))
    (hw : mm_wq call Rf (mm_X p l e R s m args below meth c Q γ y n0 Mf) M (mm_b2 f (pc + len) lv st M)) : mm_X p l e R s m args below meth c Q γ y n0 Mf (pc, lv, st, M) := by
  rcases st with _ | ⟨y1 | y1 | y1, _ | ⟨x1 | x1 | x1, r⟩⟩
  all_goals first
    | exact False.elim hw
    | skip
  refine ⟨hw.1, fun H locs cells slots ls hR hlo hce hsl hL hlv hst => ?_⟩
  have hy := mm_okl_h hst
  have hx := mm_okl_h (mm_okl_t hst)
  have hr := mm_okl_t (mm_okl_t hst)
  obtain ⟨h1, h2⟩ := hf x1 y1 hx hy
  refine row _ _ _ _ _ _ (Int32.ofInt x1) (Int32.ofInt y1) ?_
  rw [← h2]
  exact hw.2 H locs cells slots ls hR hlo hce hsl hL hlv (mm_okl_c h1 hr)
theorem mm_o_b2l (f : Int → Int → Int) (g : Int64 → Int64 → Int64) (hf : ∀ x y : Int, (-9223372036854775808 ≤ x ∧ x < 9223372036854775808) → (-9223372036854775808 ≤ y ∧ y < 9223372036854775808) → (-9223372036854775808 ≤ f x y ∧ f x y < 9223372036854775808) ∧ Int64.ofInt (f x y) = g (Int64.ofInt x) (Int64.ofInt y))
    (row : ∀ (H : Heap) (locs : List Loc) (cells slots : Nat) (ls : Array Slot) (rest : List Value) (x y : Int64), W p l e R s m args below meth c H locs cells slots Q (F0 m (pc + len) ls (.long (g x y) :: rest)) → W p l e R s m args below meth c H locs cells slots Q (F0 m pc ls (.long y :: .long x :: rest)))
    (hw : mm_wq call Rf (mm_X p l e R s m args below meth c Q γ y n0 Mf) M (mm_b2l f (pc + len) lv st M)) : mm_X p l e R s m args below meth c Q γ y n0 Mf (pc, lv, st, M) := by
  rcases st with _ | ⟨y1 | y1 | y1, _ | ⟨x1 | x1 | x1, r⟩⟩
  all_goals first
    | exact False.elim hw
    | skip
  refine ⟨hw.1, fun H locs cells slots ls hR hlo hce hsl hL hlv hst => ?_⟩
  have hy := mm_okl_h hst
  have hx := mm_okl_h (mm_okl_t hst)
  have hr := mm_okl_t (mm_okl_t hst)
  obtain ⟨h1, h2⟩ := hf x1 y1 hx hy
  refine row _ _ _ _ _ _ (Int64.ofInt x1) (Int64.ofInt y1) ?_
  rw [← h2]
  exact hw.2 H locs cells slots ls hR hlo hce hsl hL hlv (mm_okl_c h1 hr)
theorem mm_o_bsl (f : Int → Int → Int) (g : Int64 → Int32 → Int64) (hf : ∀ x y : Int, (-9223372036854775808 ≤ f x y ∧ f x y < 9223372036854775808) ∧ Int64.ofInt (f x y) = g (Int64.ofInt x) (Int32.ofInt y))
    (row : ∀ (H : Heap) (locs : List Loc) (cells slots : Nat) (ls : Array Slot) (rest : List Value) (x : Int64) (y : Int32), W p l e R s m args below meth c H locs cells slots Q (F0 m (pc + len) ls (.long (g x y) :: rest)) → W p l e R s m args below meth c H locs cells slots Q (F0 m pc ls (.int y :: .long x :: rest)))
    (hw : mm_wq call Rf (mm_X p l e R s m args below meth c Q γ y n0 Mf) M (mm_bsl f (pc + len) lv st M)) : mm_X p l e R s m args below meth c Q γ y n0 Mf (pc, lv, st, M) := by
  rcases st with _ | ⟨y1 | y1 | y1, _ | ⟨x1 | x1 | x1, r⟩⟩
  all_goals first
    | exact False.elim hw
    | skip
  refine ⟨hw.1, fun H locs cells slots ls hR hlo hce hsl hL hlv hst => ?_⟩
  have hr := mm_okl_t (mm_okl_t hst)
  obtain ⟨h1, h2⟩ := hf x1 y1
  refine row _ _ _ _ _ _ (Int64.ofInt x1) (Int32.ofInt y1) ?_
  rw [← h2]
  exact hw.2 H locs cells slots ls hR hlo hce hsl hL hlv (mm_okl_c h1 hr)
theorem mm_o_ld {i t : Nat} (row : ∀ (H : Heap) (locs : List Loc) (cells slots : Nat) (ls : Array Slot) (rest : List Value) (u : mm_V), mm_tg t u → ls[i]? = some (.val (mm_ev γ u)) → W p l e R s m args below meth c H locs cells slots Q (F0 m (pc + len) ls (mm_ev γ u :: rest)) → W p l e R s m args below meth c H locs cells slots Q (F0 m pc ls rest))
    (hw : mm_wq call Rf (mm_X p l e R s m args below meth c Q γ y n0 Mf) M (mm_ld i (pc + len) t lv st M)) : mm_X p l e R s m args below meth c Q γ y n0 Mf (pc, lv, st, M) := by
  unfold mm_ld at hw
  have main : ∀ u : mm_V, mm_lk lv i = some u → mm_tg t u → mm_X p l e R s m args below meth c Q γ y n0 Mf (pc + len, lv, u :: st, M) → mm_X p l e R s m args below meth c Q γ y n0 Mf (pc, lv, st, M) := by
    intro u hu ht hX
    refine ⟨hX.1, fun H locs cells slots ls hR hlo hce hsl hL hlv hst => ?_⟩
    have hm := mm_lk_mem hu
    exact row _ _ _ _ _ _ u ht (hL.2.2 (i, mm_ev γ u) (List.mem_map.mpr ⟨(i, u), hm, rfl⟩)) (hX.2 H locs cells slots ls hR hlo hce hsl hL hlv (mm_okl_c (hlv _ hm) hst))
  cases hk : mm_lk lv i with
  | none => rw [hk] at hw; rcases t with _ | _ | _ | _ | t <;> exact False.elim hw
  | some u =>
    rw [hk] at hw
    rcases t with _ | _ | _ | _ | t <;> rcases u with x | x | x <;> first
      | exact False.elim hw
      | exact main _ hk trivial hw
theorem mm_o_sto {i t : Nat} (row : ∀ (H : Heap) (locs : List Loc) (cells slots : Nat) (ls : Array Slot) (rest : List Value) (u : mm_V), mm_tg t u → lv_has ls (mm_mx y) (mm_E1 γ lv) → (∀ ls' : Array Slot, lv_has ls' (mm_mx y) (mm_E1 γ (mm_set i u lv)) → W p l e R s m args below meth c H locs cells slots Q (F0 m (pc + len) ls' rest)) → W p l e R s m args below meth c H locs cells slots Q (F0 m pc ls (mm_ev γ u :: rest)))
    (hw : mm_wq call Rf (mm_X p l e R s m args below meth c Q γ y n0 Mf) M (mm_sto i (pc + len) t lv st M)) : mm_X p l e R s m args below meth c Q γ y n0 Mf (pc, lv, st, M) := by
  have main : ∀ (u : mm_V) (r : List mm_V), st = u :: r → mm_tg t u → mm_X p l e R s m args below meth c Q γ y n0 Mf (pc + len, mm_set i u lv, r, M) → mm_X p l e R s m args below meth c Q γ y n0 Mf (pc, lv, st, M) := by
    intro u r hs ht hX
    subst hs
    refine ⟨hX.1, fun H locs cells slots ls hR hlo hce hsl hL hlv hst => ?_⟩
    exact row _ _ _ _ _ _ u ht hL (fun ls' hL' => hX.2 H locs cells slots ls' hR hlo hce hsl hL' (mm_set_ok hlv (mm_okl_h hst)) (mm_okl_t hst))
  unfold mm_sto at hw
  rcases t with _ | _ | _ | _ | t <;> rcases st with _ | ⟨x | x | x, r⟩ <;> first
    | exact False.elim hw
    | exact main _ _ rfl trivial hw
end Ops
