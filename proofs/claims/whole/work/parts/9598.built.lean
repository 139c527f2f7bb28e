/-! what the constructors make -/
def xnw_ (o : Option (Option mm_V × xM_)) (n : Nat) (chk : List (Nat × Nat × Int) → Bool) : Bool := match o with
  | some (none, m) => decide (m.1 = n) && chk m.2
  | _ => false
theorem xnw_e {o : Option (Option mm_V × xM_)} {n : Nat} {chk : List (Nat × Nat × Int) → Bool} (h : xnw_ o n chk = true) : ∃ W, o = some (none, (n, W)) ∧ chk W = true := by
  rcases o with _ | ⟨_ | v, m⟩
  · cases h
  · have h : (decide (m.1 = n) && chk m.2) = true := h
    obtain ⟨h1, h2⟩ := Bool.and_eq_true_iff.mp h
    refine ⟨m.2, ?_, h2⟩
    rw [← of_decide_eq_true h1]
  · cases h
theorem rg_all {n : Nat} {p : Nat → Bool} (h : (List.range n).all p = true) {i : Nat} (hi : i < n) : p i = true := List.all_eq_true.mp h i (List.mem_range.mpr hi)
theorem nn_off_11 {c b : Nat} (h : 11 ≤ b) : nn_off c b = 0 := by
  unfold nn_off
  split <;> first | rfl | (split <;> first | rfl | omega)
def chT_ (W : List (Nat × Nat × Int)) (t : Nat) : Bool := decide (xlk_ W t 5 = 0 ∧ xlk_ W t 6 = 0 ∧ xlk_ W t 7 = 0 ∧ xlk_ W t 8 = 0 ∧ xlk_ W (t + 1) 2 = 0 ∧ xlk_ W (t + 4) 2 = 0) && (List.range 24).all (fun i => decide (xlk_ W (t + 7) i = ((t + 10 + 3 * i : Nat) : Int)))
def chS_ (W : List (Nat × Nat × Int)) (s : Nat) : Bool := decide (xlk_ W s 7 = 4 ∧ xlk_ W s 8 = 2 ∧ xlk_ W s 11 = 0 ∧ xlk_ W s 12 = 0 ∧ xlk_ W s 9 = 0 ∧ xlk_ W s 10 = -1 ∧ xlk_ W (s + 1) 1 = 0) && ((List.range 6).all (fun i => decide (xlk_ W (s + 88) i = -1)) && ((List.range 5).all (fun i => decide (xlk_ W (s + 87) i = 0)) && (chT_ W (s + 3) && ((List.range 4).all (fun i => decide (xlk_ W (s + 90 + 15 * i) 5 = 0 ∧ xlk_ W (s + 90 + 15 * i + 10) 0 = 0)) && (List.range 3).all (fun i => (List.range 7).all (fun b => Nat.blt b 2 || decide (xlk_ W (s + 150 + 3 * i) b = 0)))))))
def chO1_ (W : List (Nat × Nat × Int)) (o : Nat) (q : Nat × Nat) : Bool := match q with
  | (c, _) => (List.range 11).all (fun b => decide (nn_off c b = 0) || decide (xlk_ W o b = ((o + nn_off c b : Nat) : Int))) && (decide (c ≠ 42) || (List.range 24).all (fun b => decide (xlk_ W o b = ((o + 3 + 3 * b : Nat) : Int))))
def chO_ (W : List (Nat × Nat × Int)) (lo n : Nat) : Bool := (List.range n).all (fun j => chO1_ W (lo + j) (mm_kd (lo + j)))
theorem xst_410 : xnw_ (xcl_ 410 4 126 [.inr (.inr 411)] (411, [])) 569 (fun W => chS_ W 411 && chO_ W 411 159) = true := by decide +kernel
theorem xst_569 : xnw_ (xcl_ 569 4 126 [.inr (.inr 570)] (570, [])) 728 (fun W => chS_ W 570 && chO_ W 570 159) = true := by decide +kernel
theorem xst_728 : xnw_ (xcl_ 728 4 126 [.inr (.inr 729)] (729, [])) 887 (fun W => chS_ W 729 && chO_ W 729 159) = true := by decide +kernel
theorem xst_LI : xnw_ (xcl_ 0 5 1 [.inr (.inr 1)] (1, [])) 406 (fun W => chS_ W 2 && (chS_ W 161 && (chT_ W 320 && (chO_ W 1 406 && (List.range 3).all (fun b => decide (xlk_ W 406 b = 0)))))) = true := by decide +kernel
theorem xst_M : xnw_ (xcl_ 406 3 179 [.inr (.inr 407)] (407, [])) 410 (fun W => chO_ W 407 4 && (decide (xlk_ W 408 3 = 4 ∧ xlk_ W 408 4 = 2 ∧ xlk_ W 408 9 = -1 ∧ xlk_ W 408 22 = -1) && W.all (fun w => decide (w.1 = 407 ∨ (w.1 = 408 ∧ (w.2.1 = 3 ∨ w.2.1 = 4 ∨ w.2.1 = 9 ∨ w.2.1 = 22)))))) = true := by decide +kernel
theorem xlk_nob {o b : Nat} : ∀ {W : List (Nat × Nat × Int)}, (∀ w, w ∈ W → w.1 = o → w.2.1 ≠ b) → xlk_ W o b = 0
  | [], _ => rfl
  | (o', b', x) :: t, h => by
    rw [xlk_c, if_neg (fun z => h (o', b', x) List.mem_cons_self z.1.symm z.2.symm)]
    exact xlk_nob (fun w hw => h w (List.mem_cons_of_mem _ hw))
