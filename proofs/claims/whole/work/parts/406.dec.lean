/-! methods walked by program (wip/whole/dec.py) -/
def nf_M_isTerm  (M : mm_M) : Int := (if (nn_rf M 407 7) ≠ 0 then 0 else (if (nn_rf M 407 5) = 2 then 1 else (if (nf_M_isColumn M) = 0 then 0 else 1)))
theorem nz_M_isTerm  (M : mm_M) : nf_M_isTerm M = 0 ∨ nf_M_isTerm M = 1 := by
  unfold nf_M_isTerm
  repeat' split
  all_goals first | exact Or.inl rfl | exact Or.inr rfl | apply nz_M_isColumn
set_option maxRecDepth 20000 in
theorem np_M_isTerm  {M : mm_M} {n d : Nat} {P : mm_P} (hd : 2 ≤ d) (L : nn_L M) (N : M.1 = n)  (h : P (some (.inl (nf_M_isTerm M))) M) : mm_run d mi_M_isTerm [.inr (.inr 407)] M P := by
  have NN := nn_L_n L N
  unfold nf_M_isTerm at h
  refine nn_run_le hd ?_
  show mm_Go (mm_run 1) mc_M_isTerm _ (0, [(0, .inr (.inr 407))], [], M)
  refine mm_s1 rfl ?_
  refine mm_s1 rfl ⟨(nn_c407 NN).1, ?_⟩
  show mm_Go (mm_run 1) mc_M_isTerm _ (4, [(0, .inr (.inr 407))], [.inl (nn_rf M 407 7)], M)
  refine mm_s1 rfl ⟨fun c4 => ?_, fun c4 => ?_⟩
  · show mm_Go (mm_run 1) mc_M_isTerm _ (26, [(0, .inr (.inr 407))], [], M)
    rw [if_pos (show (nn_rf M 407 7) ≠ 0 from c4)] at h
    refine mm_s1 rfl ?_
    exact mm_s1 rfl ⟨(Or.inl rfl), h⟩
  · show mm_Go (mm_run 1) mc_M_isTerm _ (7, [(0, .inr (.inr 407))], [], M)
    rw [if_neg (show ¬ ((nn_rf M 407 7) ≠ 0) from c4)] at h
    replace c4 := Decidable.not_not.mp c4
    refine mm_s1 rfl ?_
    refine mm_s1 rfl ⟨(nn_c407 NN).1, ?_⟩
    show mm_Go (mm_run 1) mc_M_isTerm _ (11, [(0, .inr (.inr 407))], [.inl (nn_rf M 407 5)], M)
    refine mm_s1 rfl ?_
    refine mm_s1 rfl ⟨fun c12 => ?_, fun c12 => ?_⟩
    · show mm_Go (mm_run 1) mc_M_isTerm _ (22, [(0, .inr (.inr 407))], [], M)
      rw [if_pos (show (nn_rf M 407 5) = 2 from c12)] at h
      refine mm_s1 rfl ?_
      refine mm_s1 rfl ?_
      show mm_Go (mm_run 1) mc_M_isTerm _ (27, [(0, .inr (.inr 407))], [.inl 1], M)
      exact mm_s1 rfl ⟨(Or.inr rfl), h⟩
    · show mm_Go (mm_run 1) mc_M_isTerm _ (15, [(0, .inr (.inr 407))], [], M)
      rw [if_neg (show ¬ ((nn_rf M 407 5) = 2) from c12)] at h
      refine mm_s1 rfl ?_
      refine mm_s1 rfl ⟨(nn_c407 NN).1, ?_⟩
      refine np_M_isColumn (by decide) L N ?_
      show mm_Go (mm_run 1) mc_M_isTerm _ (19, [(0, .inr (.inr 407))], [.inl (nf_M_isColumn M)], M)
      refine mm_s1 rfl ⟨fun c19 => ?_, fun c19 => ?_⟩
      · show mm_Go (mm_run 1) mc_M_isTerm _ (26, [(0, .inr (.inr 407))], [], M)
        rw [if_pos (show (nf_M_isColumn M) = 0 from c19)] at h
        refine mm_s1 rfl ?_
        exact mm_s1 rfl ⟨(Or.inl rfl), h⟩
      · show mm_Go (mm_run 1) mc_M_isTerm _ (22, [(0, .inr (.inr 407))], [], M)
        rw [if_neg (show ¬ ((nf_M_isColumn M) = 0) from c19)] at h
        refine mm_s1 rfl ?_
        refine mm_s1 rfl ?_
        show mm_Go (mm_run 1) mc_M_isTerm _ (27, [(0, .inr (.inr 407))], [.inl 1], M)
        exact mm_s1 rfl ⟨(Or.inr rfl), h⟩
def nr_M_end (v1 : Int) (M : mm_M) (R : Int → mm_M → Prop) : Prop := ∀ n, nn_L M → M.1 = n → mm_run 2 mi_M_end [.inr (.inr 407), .inl v1] M (nw_I n R)
set_option maxRecDepth 20000 in
theorem ng_M_end (v1 : Int) (M : mm_M) (R : Int → mm_M → Prop) (h : (((nf_M_isIn v1 0 (nn_ri M 408 20)) ≠ 0 → (∀ M24 : mm_M, M24 = nn_ui M 408 20 v1 → R v1 M24)) ∧ ((nf_M_isIn v1 0 (nn_ri M 408 20)) = 0 → R (-1) M))) : nr_M_end v1 M R := by
  intro n L N 
  have NN := nn_L_n L N
  show mm_Go (mm_run 1) mc_M_end _ (0, [(0, .inr (.inr 407)), (1, .inl v1)], [], M)
  refine mm_s1 rfl ?_
  refine mm_s1 rfl ?_
  refine mm_s1 rfl ?_
  refine nn_getr rfl (nn_c407 NN).1 (lf_13_0 L N (nn_c407 NN)) ?_
  refine mm_s1 rfl ?_
  show mm_Go (mm_run 1) mc_M_end _ (8, [(0, .inr (.inr 407)), (1, .inl v1)], [.inl 20, .inr (.inr 408), .inl 0, .inl v1], M)
  refine mm_s1 rfl ⟨nn_bd (na_13_0 NN (nn_c407 NN)) (by decide), ?_⟩
  show mm_Go (mm_run 1) mc_M_end _ (9, [(0, .inr (.inr 407)), (1, .inl v1)], [.inl (nn_ri M 408 20), .inl 0, .inl v1], M)
  refine mm_s1 rfl ⟨trivial, ?_⟩
  refine np_M_isIn (by decide) L N ?_
  show mm_Go (mm_run 1) mc_M_end _ (12, [(0, .inr (.inr 407)), (1, .inl v1)], [.inl (nf_M_isIn v1 0 (nn_ri M 408 20))], M)
  refine mm_s1 rfl ⟨fun c12 => ?_, fun c12 => ?_⟩
  · show mm_Go (mm_run 1) mc_M_end _ (17, [(0, .inr (.inr 407)), (1, .inl v1)], [], M)
    replace h := h.1 c12
    refine mm_s1 rfl ?_
    refine nn_getr rfl (nn_c407 NN).1 (lf_13_0 L N (nn_c407 NN)) ?_
    refine mm_s1 rfl ?_
    refine mm_s1 rfl ?_
    refine mm_s1 rfl ⟨nn_bd (na_13_0 NN (nn_c407 NN)) (show (0 : Int) ≤ 20 ∧ (20 : Int) < 32844 by decide), ?_⟩
    show mm_Go (mm_run 1) mc_M_end _ (25, [(0, .inr (.inr 407)), (1, .inl v1)], [], (nn_ui M 408 20 v1))
    have L : nn_L (nn_ui M 408 20 v1) := nn_L_ua L (congrArg Prod.fst (na_13_0 NN (nn_c407 NN))) (by decide)
    have N : (nn_ui M 408 20 v1).1 = n := N
    generalize e_M24 : (nn_ui M 408 20 v1) = M24 at L N ⊢
    replace h := h _ e_M24.symm
    show mm_Go (mm_run 1) mc_M_end _ (25, [(0, .inr (.inr 407)), (1, .inl v1)], [], M24)
    refine mm_s1 rfl ?_
    exact mm_s1 rfl ⟨_, rfl, L, N, h⟩
  · show mm_Go (mm_run 1) mc_M_end _ (15, [(0, .inr (.inr 407)), (1, .inl v1)], [], M)
    replace c12 := Decidable.not_not.mp c12
    replace h := h.2 c12
    refine mm_s1 rfl ?_
    exact mm_s1 rfl ⟨_, rfl, L, N, h⟩
def nr_M_set (v1 : Int) (v2 : Int) (M : mm_M) (R : Int → mm_M → Prop) : Prop := ∀ n, nn_L M → M.1 = n → mm_run 2 mi_M_set [.inr (.inr 407), .inl v1, .inl v2] M (nw_Z n R)
set_option maxRecDepth 20000 in
theorem ng_M_set (v1 : Int) (v2 : Int) (M : mm_M) (R : Int → mm_M → Prop) (h : (((v1 ≠ 0) ∧ (v1 = 1) ∧ ((nf_M_isIn v2 2 4) ≠ 0) → ((0 : Int) ≤ (mm_w (3 + v1)) ∧ (mm_w (3 + v1)) < (32844 : Int))) ∧ ((v1 = 0) ∧ ((nf_M_isIn v2 2 12) ≠ 0) → ((0 : Int) ≤ (mm_w (3 + v1)) ∧ (mm_w (3 + v1)) < (32844 : Int))) ∧ ((v1 = 0) ∧ ((nf_M_isIn v2 2 12) = 0) ∧ (v1 = 1) ∧ ((nf_M_isIn v2 2 4) ≠ 0) → ((0 : Int) ≤ (mm_w (3 + v1)) ∧ (mm_w (3 + v1)) < (32844 : Int))) ∧ (((v1 ≠ 0 ∧ (v1 ≠ 1 ∨ ((nf_M_isIn v2 2 4) = 0))) ∨ (v1 = 0 ∧ ((nf_M_isIn v2 2 12) = 0 ∧ (v1 ≠ 1 ∨ ((nf_M_isIn v2 2 4) = 0))))) → R 0 M) ∧ (((v1 ≠ 0 ∧ (v1 = 1 ∧ ((nf_M_isIn v2 2 4) ≠ 0))) ∨ (v1 = 0 ∧ ((nf_M_isIn v2 2 12) ≠ 0 ∨ (v1 = 1 ∧ ((nf_M_isIn v2 2 4) ≠ 0))))) → (∀ M46 : mm_M, M46 = nn_ui M 408 (mm_w (3 + v1)) v2 → R 1 M46)))) : nr_M_set v1 v2 M R := by
  intro n L N 
  have NN := nn_L_n L N
  show mm_Go (mm_run 1) mc_M_set _ (0, [(0, .inr (.inr 407)), (1, .inl v1), (2, .inl v2)], [], M)
  refine mm_s1 rfl ?_
  refine mm_s1 rfl ⟨fun c1 => ?_, fun c1 => ?_⟩
  · show mm_Go (mm_run 1) mc_M_set _ (14, [(0, .inr (.inr 407)), (1, .inl v1), (2, .inl v2)], [], M)
    refine mm_s1 rfl ?_
    refine mm_s1 rfl ?_
    refine mm_s1 rfl ⟨fun c16 => ?_, fun c16 => ?_⟩
    · show mm_Go (mm_run 1) mc_M_set _ (32, [(0, .inr (.inr 407)), (1, .inl v1), (2, .inl v2)], [], M)
      refine mm_s1 rfl ?_
      refine mm_s1 rfl ?_
      show mm_Go (mm_run 1) mc_M_set _ (34, [(0, .inr (.inr 407)), (1, .inl v1), (2, .inl v2), (3, .inl 0)], [], M)
      refine mm_s1 rfl ?_
      refine mm_s1 rfl ⟨fun _ => ?_, fun c => absurd (show (0 : Int) = 0 by decide) c⟩
      show mm_Go (mm_run 1) mc_M_set _ (47, [(0, .inr (.inr 407)), (1, .inl v1), (2, .inl v2), (3, .inl 0)], [], M)
      refine mm_s1 rfl ?_
      replace h := h.2.2.2.1 (Or.inl ⟨c1, (Or.inl c16)⟩)
      exact mm_s1 rfl ⟨(Or.inl rfl), _, rfl, (Or.inl rfl), L, N, h⟩
    · show mm_Go (mm_run 1) mc_M_set _ (19, [(0, .inr (.inr 407)), (1, .inl v1), (2, .inl v2)], [], M)
      replace c16 := Decidable.not_not.mp c16
      refine mm_s1 rfl ?_
      refine mm_s1 rfl ?_
      refine mm_s1 rfl ?_
      refine mm_s1 rfl ⟨trivial, ?_⟩
      refine np_M_isIn (by decide) L N ?_
      show mm_Go (mm_run 1) mc_M_set _ (25, [(0, .inr (.inr 407)), (1, .inl v1), (2, .inl v2)], [.inl (nf_M_isIn v2 2 4)], M)
      refine mm_s1 rfl ⟨fun c25 => ?_, fun c25 => ?_⟩
      · show mm_Go (mm_run 1) mc_M_set _ (32, [(0, .inr (.inr 407)), (1, .inl v1), (2, .inl v2)], [], M)
        refine mm_s1 rfl ?_
        refine mm_s1 rfl ?_
        show mm_Go (mm_run 1) mc_M_set _ (34, [(0, .inr (.inr 407)), (1, .inl v1), (2, .inl v2), (3, .inl 0)], [], M)
        refine mm_s1 rfl ?_
        refine mm_s1 rfl ⟨fun _ => ?_, fun c => absurd (show (0 : Int) = 0 by decide) c⟩
        show mm_Go (mm_run 1) mc_M_set _ (47, [(0, .inr (.inr 407)), (1, .inl v1), (2, .inl v2), (3, .inl 0)], [], M)
        refine mm_s1 rfl ?_
        replace h := h.2.2.2.1 (Or.inl ⟨c1, (Or.inr c25)⟩)
        exact mm_s1 rfl ⟨(Or.inl rfl), _, rfl, (Or.inl rfl), L, N, h⟩
      · show mm_Go (mm_run 1) mc_M_set _ (28, [(0, .inr (.inr 407)), (1, .inl v1), (2, .inl v2)], [], M)
        refine mm_s1 rfl ?_
        refine mm_s1 rfl ?_
        show mm_Go (mm_run 1) mc_M_set _ (33, [(0, .inr (.inr 407)), (1, .inl v1), (2, .inl v2)], [.inl 1], M)
        refine mm_s1 rfl ?_
        show mm_Go (mm_run 1) mc_M_set _ (34, [(0, .inr (.inr 407)), (1, .inl v1), (2, .inl v2), (3, .inl 1)], [], M)
        refine mm_s1 rfl ?_
        refine mm_s1 rfl ⟨fun c => absurd c (show ¬ ((1 : Int) = 0) by decide), fun _ => ?_⟩
        show mm_Go (mm_run 1) mc_M_set _ (38, [(0, .inr (.inr 407)), (1, .inl v1), (2, .inl v2), (3, .inl 1)], [], M)
        refine mm_s1 rfl ?_
        refine nn_getr rfl (nn_c407 NN).1 (lf_13_0 L N (nn_c407 NN)) ?_
        refine mm_s1 rfl ?_
        refine mm_s1 rfl ?_
        refine mm_s1 rfl ?_
        show mm_Go (mm_run 1) mc_M_set _ (45, [(0, .inr (.inr 407)), (1, .inl v1), (2, .inl v2), (3, .inl 1)], [.inl (mm_w (3 + v1)), .inr (.inr 408)], M)
        refine mm_s1 rfl ?_
        have b46 := h.1 ⟨c1, c16, c25⟩
        replace h := h.2.2.2.2 (Or.inl ⟨c1, ⟨c16, c25⟩⟩)
        refine mm_s1 rfl ⟨nn_bd (na_13_0 NN (nn_c407 NN)) b46, ?_⟩
        show mm_Go (mm_run 1) mc_M_set _ (47, [(0, .inr (.inr 407)), (1, .inl v1), (2, .inl v2), (3, .inl 1)], [], (nn_ui M 408 (mm_w (3 + v1)) v2))
        have L : nn_L (nn_ui M 408 (mm_w (3 + v1)) v2) := nn_L_ua L (congrArg Prod.fst (na_13_0 NN (nn_c407 NN))) (by decide)
        have N : (nn_ui M 408 (mm_w (3 + v1)) v2).1 = n := N
        generalize e_M46 : (nn_ui M 408 (mm_w (3 + v1)) v2) = M46 at L N ⊢
        replace h := h _ e_M46.symm
        show mm_Go (mm_run 1) mc_M_set _ (47, [(0, .inr (.inr 407)), (1, .inl v1), (2, .inl v2), (3, .inl 1)], [], M46)
        refine mm_s1 rfl ?_
        exact mm_s1 rfl ⟨(Or.inr rfl), _, rfl, (Or.inr rfl), L, N, h⟩
  · show mm_Go (mm_run 1) mc_M_set _ (4, [(0, .inr (.inr 407)), (1, .inl v1), (2, .inl v2)], [], M)
    replace c1 := Decidable.not_not.mp c1
    refine mm_s1 rfl ?_
    refine mm_s1 rfl ?_
    refine mm_s1 rfl ?_
    refine mm_s1 rfl ⟨trivial, ?_⟩
    refine np_M_isIn (by decide) L N ?_
    show mm_Go (mm_run 1) mc_M_set _ (11, [(0, .inr (.inr 407)), (1, .inl v1), (2, .inl v2)], [.inl (nf_M_isIn v2 2 12)], M)
    refine mm_s1 rfl ⟨fun c11 => ?_, fun c11 => ?_⟩
    · show mm_Go (mm_run 1) mc_M_set _ (28, [(0, .inr (.inr 407)), (1, .inl v1), (2, .inl v2)], [], M)
      refine mm_s1 rfl ?_
      refine mm_s1 rfl ?_
      show mm_Go (mm_run 1) mc_M_set _ (33, [(0, .inr (.inr 407)), (1, .inl v1), (2, .inl v2)], [.inl 1], M)
      refine mm_s1 rfl ?_
      show mm_Go (mm_run 1) mc_M_set _ (34, [(0, .inr (.inr 407)), (1, .inl v1), (2, .inl v2), (3, .inl 1)], [], M)
      refine mm_s1 rfl ?_
      refine mm_s1 rfl ⟨fun c => absurd c (show ¬ ((1 : Int) = 0) by decide), fun _ => ?_⟩
      show mm_Go (mm_run 1) mc_M_set _ (38, [(0, .inr (.inr 407)), (1, .inl v1), (2, .inl v2), (3, .inl 1)], [], M)
      refine mm_s1 rfl ?_
      refine nn_getr rfl (nn_c407 NN).1 (lf_13_0 L N (nn_c407 NN)) ?_
      refine mm_s1 rfl ?_
      refine mm_s1 rfl ?_
      refine mm_s1 rfl ?_
      show mm_Go (mm_run 1) mc_M_set _ (45, [(0, .inr (.inr 407)), (1, .inl v1), (2, .inl v2), (3, .inl 1)], [.inl (mm_w (3 + v1)), .inr (.inr 408)], M)
      refine mm_s1 rfl ?_
      have b46 := h.2.1 ⟨c1, c11⟩
      replace h := h.2.2.2.2 (Or.inr ⟨c1, (Or.inl c11)⟩)
      refine mm_s1 rfl ⟨nn_bd (na_13_0 NN (nn_c407 NN)) b46, ?_⟩
      show mm_Go (mm_run 1) mc_M_set _ (47, [(0, .inr (.inr 407)), (1, .inl v1), (2, .inl v2), (3, .inl 1)], [], (nn_ui M 408 (mm_w (3 + v1)) v2))
      have L : nn_L (nn_ui M 408 (mm_w (3 + v1)) v2) := nn_L_ua L (congrArg Prod.fst (na_13_0 NN (nn_c407 NN))) (by decide)
      have N : (nn_ui M 408 (mm_w (3 + v1)) v2).1 = n := N
      generalize e_M46 : (nn_ui M 408 (mm_w (3 + v1)) v2) = M46 at L N ⊢
      replace h := h _ e_M46.symm
      show mm_Go (mm_run 1) mc_M_set _ (47, [(0, .inr (.inr 407)), (1, .inl v1), (2, .inl v2), (3, .inl 1)], [], M46)
      refine mm_s1 rfl ?_
      exact mm_s1 rfl ⟨(Or.inr rfl), _, rfl, (Or.inr rfl), L, N, h⟩
    · show mm_Go (mm_run 1) mc_M_set _ (14, [(0, .inr (.inr 407)), (1, .inl v1), (2, .inl v2)], [], M)
      replace c11 := Decidable.not_not.mp c11
      refine mm_s1 rfl ?_
      refine mm_s1 rfl ?_
      refine mm_s1 rfl ⟨fun c16 => ?_, fun c16 => ?_⟩
      · show mm_Go (mm_run 1) mc_M_set _ (32, [(0, .inr (.inr 407)), (1, .inl v1), (2, .inl v2)], [], M)
        refine mm_s1 rfl ?_
        refine mm_s1 rfl ?_
        show mm_Go (mm_run 1) mc_M_set _ (34, [(0, .inr (.inr 407)), (1, .inl v1), (2, .inl v2), (3, .inl 0)], [], M)
        refine mm_s1 rfl ?_
        refine mm_s1 rfl ⟨fun _ => ?_, fun c => absurd (show (0 : Int) = 0 by decide) c⟩
        show mm_Go (mm_run 1) mc_M_set _ (47, [(0, .inr (.inr 407)), (1, .inl v1), (2, .inl v2), (3, .inl 0)], [], M)
        refine mm_s1 rfl ?_
        replace h := h.2.2.2.1 (Or.inr ⟨c1, ⟨c11, (Or.inl c16)⟩⟩)
        exact mm_s1 rfl ⟨(Or.inl rfl), _, rfl, (Or.inl rfl), L, N, h⟩
      · show mm_Go (mm_run 1) mc_M_set _ (19, [(0, .inr (.inr 407)), (1, .inl v1), (2, .inl v2)], [], M)
        replace c16 := Decidable.not_not.mp c16
        refine mm_s1 rfl ?_
        refine mm_s1 rfl ?_
        refine mm_s1 rfl ?_
        refine mm_s1 rfl ⟨trivial, ?_⟩
        refine np_M_isIn (by decide) L N ?_
        show mm_Go (mm_run 1) mc_M_set _ (25, [(0, .inr (.inr 407)), (1, .inl v1), (2, .inl v2)], [.inl (nf_M_isIn v2 2 4)], M)
        refine mm_s1 rfl ⟨fun c25 => ?_, fun c25 => ?_⟩
        · show mm_Go (mm_run 1) mc_M_set _ (32, [(0, .inr (.inr 407)), (1, .inl v1), (2, .inl v2)], [], M)
          refine mm_s1 rfl ?_
          refine mm_s1 rfl ?_
          show mm_Go (mm_run 1) mc_M_set _ (34, [(0, .inr (.inr 407)), (1, .inl v1), (2, .inl v2), (3, .inl 0)], [], M)
          refine mm_s1 rfl ?_
          refine mm_s1 rfl ⟨fun _ => ?_, fun c => absurd (show (0 : Int) = 0 by decide) c⟩
          show mm_Go (mm_run 1) mc_M_set _ (47, [(0, .inr (.inr 407)), (1, .inl v1), (2, .inl v2), (3, .inl 0)], [], M)
          refine mm_s1 rfl ?_
          replace h := h.2.2.2.1 (Or.inr ⟨c1, ⟨c11, (Or.inr c25)⟩⟩)
          exact mm_s1 rfl ⟨(Or.inl rfl), _, rfl, (Or.inl rfl), L, N, h⟩
        · show mm_Go (mm_run 1) mc_M_set _ (28, [(0, .inr (.inr 407)), (1, .inl v1), (2, .inl v2)], [], M)
          refine mm_s1 rfl ?_
          refine mm_s1 rfl ?_
          show mm_Go (mm_run 1) mc_M_set _ (33, [(0, .inr (.inr 407)), (1, .inl v1), (2, .inl v2)], [.inl 1], M)
          refine mm_s1 rfl ?_
          show mm_Go (mm_run 1) mc_M_set _ (34, [(0, .inr (.inr 407)), (1, .inl v1), (2, .inl v2), (3, .inl 1)], [], M)
          refine mm_s1 rfl ?_
          refine mm_s1 rfl ⟨fun c => absurd c (show ¬ ((1 : Int) = 0) by decide), fun _ => ?_⟩
          show mm_Go (mm_run 1) mc_M_set _ (38, [(0, .inr (.inr 407)), (1, .inl v1), (2, .inl v2), (3, .inl 1)], [], M)
          refine mm_s1 rfl ?_
          refine nn_getr rfl (nn_c407 NN).1 (lf_13_0 L N (nn_c407 NN)) ?_
          refine mm_s1 rfl ?_
          refine mm_s1 rfl ?_
          refine mm_s1 rfl ?_
          show mm_Go (mm_run 1) mc_M_set _ (45, [(0, .inr (.inr 407)), (1, .inl v1), (2, .inl v2), (3, .inl 1)], [.inl (mm_w (3 + v1)), .inr (.inr 408)], M)
          refine mm_s1 rfl ?_
          have b46 := h.2.2.1 ⟨c1, c11, c16, c25⟩
          replace h := h.2.2.2.2 (Or.inr ⟨c1, (Or.inr ⟨c16, c25⟩)⟩)
          refine mm_s1 rfl ⟨nn_bd (na_13_0 NN (nn_c407 NN)) b46, ?_⟩
          show mm_Go (mm_run 1) mc_M_set _ (47, [(0, .inr (.inr 407)), (1, .inl v1), (2, .inl v2), (3, .inl 1)], [], (nn_ui M 408 (mm_w (3 + v1)) v2))
          have L : nn_L (nn_ui M 408 (mm_w (3 + v1)) v2) := nn_L_ua L (congrArg Prod.fst (na_13_0 NN (nn_c407 NN))) (by decide)
          have N : (nn_ui M 408 (mm_w (3 + v1)) v2).1 = n := N
          generalize e_M46 : (nn_ui M 408 (mm_w (3 + v1)) v2) = M46 at L N ⊢
          replace h := h _ e_M46.symm
          show mm_Go (mm_run 1) mc_M_set _ (47, [(0, .inr (.inr 407)), (1, .inl v1), (2, .inl v2), (3, .inl 1)], [], M46)
          refine mm_s1 rfl ?_
          exact mm_s1 rfl ⟨(Or.inr rfl), _, rfl, (Or.inr rfl), L, N, h⟩
def nf_M_isIndex (v1 : Int) (M : mm_M) : Int := (if (nf_M_isIn v1 0 3) = 0 then 0 else (if (nn_ri M 408 (mm_w ((nf_M_at 0 v1) + 0))) ≤ 0 then 0 else 1))
def nc_M_isIndex (v1 : Int) (M : mm_M) : Prop := ((nf_M_isIn v1 0 3) ≠ 0 → ((0 : Int) ≤ (mm_w ((nf_M_at 0 v1) + 0)) ∧ (mm_w ((nf_M_at 0 v1) + 0)) < (32844 : Int)))
theorem nz_M_isIndex (v1 : Int) (M : mm_M) : nf_M_isIndex v1 M = 0 ∨ nf_M_isIndex v1 M = 1 := by
  unfold nf_M_isIndex
  repeat' split
  all_goals first | exact Or.inl rfl | exact Or.inr rfl
set_option maxRecDepth 20000 in
theorem np_M_isIndex {v1 : Int} {M : mm_M} {n d : Nat} {P : mm_P} (hd : 2 ≤ d) (L : nn_L M) (N : M.1 = n)  (b : nc_M_isIndex v1 M) (h : P (some (.inl (nf_M_isIndex v1 M))) M) : mm_run d mi_M_isIndex [.inr (.inr 407), .inl v1] M P := by
  have NN := nn_L_n L N
  unfold nc_M_isIndex at b
  unfold nf_M_isIndex at h
  refine nn_run_le hd ?_
  show mm_Go (mm_run 1) mc_M_isIndex _ (0, [(0, .inr (.inr 407)), (1, .inl v1)], [], M)
  refine mm_s1 rfl ?_
  refine mm_s1 rfl ?_
  refine mm_s1 rfl ?_
  refine mm_s1 rfl ⟨trivial, ?_⟩
  refine np_M_isIn (by decide) L N ?_
  show mm_Go (mm_run 1) mc_M_isIndex _ (6, [(0, .inr (.inr 407)), (1, .inl v1)], [.inl (nf_M_isIn v1 0 3)], M)
  refine mm_s1 rfl ⟨fun c6 => ?_, fun c6 => ?_⟩
  · show mm_Go (mm_run 1) mc_M_isIndex _ (28, [(0, .inr (.inr 407)), (1, .inl v1)], [], M)
    rw [if_pos (show (nf_M_isIn v1 0 3) = 0 from c6)] at h
    refine mm_s1 rfl ?_
    exact mm_s1 rfl ⟨(Or.inl rfl), h⟩
  · show mm_Go (mm_run 1) mc_M_isIndex _ (9, [(0, .inr (.inr 407)), (1, .inl v1)], [], M)
    rw [if_neg (show ¬ ((nf_M_isIn v1 0 3) = 0) from c6)] at h
    replace b := b c6
    refine mm_s1 rfl ?_
    refine nn_getr rfl (nn_c407 NN).1 (lf_13_0 L N (nn_c407 NN)) ?_
    refine mm_s1 rfl ?_
    refine mm_s1 rfl ?_
    refine mm_s1 rfl ⟨trivial, ?_⟩
    refine np_M_at (by decide) L N ?_
    show mm_Go (mm_run 1) mc_M_isIndex _ (18, [(0, .inr (.inr 407)), (1, .inl v1)], [.inl (nf_M_at 0 v1), .inr (.inr 408)], M)
    refine mm_s1 rfl ?_
    refine mm_s1 rfl ?_
    have b20 := b
    refine mm_s1 rfl ⟨nn_bd (na_13_0 NN (nn_c407 NN)) b20, ?_⟩
    show mm_Go (mm_run 1) mc_M_isIndex _ (21, [(0, .inr (.inr 407)), (1, .inl v1)], [.inl (nn_ri M 408 (mm_w ((nf_M_at 0 v1) + 0)))], M)
    refine mm_s1 rfl ⟨fun c21 => ?_, fun c21 => ?_⟩
    · show mm_Go (mm_run 1) mc_M_isIndex _ (28, [(0, .inr (.inr 407)), (1, .inl v1)], [], M)
      rw [if_pos (show (nn_ri M 408 (mm_w ((nf_M_at 0 v1) + 0))) ≤ 0 from c21)] at h
      refine mm_s1 rfl ?_
      exact mm_s1 rfl ⟨(Or.inl rfl), h⟩
    · show mm_Go (mm_run 1) mc_M_isIndex _ (24, [(0, .inr (.inr 407)), (1, .inl v1)], [], M)
      rw [if_neg (show ¬ ((nn_ri M 408 (mm_w ((nf_M_at 0 v1) + 0))) ≤ 0) from c21)] at h
      replace c21 := Int.not_le.mp c21
      refine mm_s1 rfl ?_
      refine mm_s1 rfl ?_
      show mm_Go (mm_run 1) mc_M_isIndex _ (29, [(0, .inr (.inr 407)), (1, .inl v1)], [.inl 1], M)
      exact mm_s1 rfl ⟨(Or.inr rfl), h⟩
def nf_M_isKey (v0 : Int) : Int := nf_M_isIn v0 0 31
theorem nz_M_isKey (v0 : Int) : nf_M_isKey v0 = 0 ∨ nf_M_isKey v0 = 1 := by
  unfold nf_M_isKey
  repeat' split
  all_goals first | exact Or.inl rfl | exact Or.inr rfl | apply nz_M_isIn
set_option maxRecDepth 20000 in
theorem np_M_isKey {v0 : Int} {M : mm_M} {n d : Nat} {P : mm_P} (hd : 2 ≤ d) (L : nn_L M) (N : M.1 = n)  (h : P (some (.inl (nf_M_isKey v0))) M) : mm_run d mi_M_isKey [.inl v0] M P := by
  have NN := nn_L_n L N
  unfold nf_M_isKey at h
  refine nn_run_le hd ?_
  show mm_Go (mm_run 1) mc_M_isKey _ (0, [(0, .inl v0)], [], M)
  refine mm_s1 rfl ?_
  refine mm_s1 rfl ?_
  refine mm_s1 rfl ?_
  refine mm_s1 rfl ⟨trivial, ?_⟩
  refine np_M_isIn (by decide) L N ?_
  show mm_Go (mm_run 1) mc_M_isKey _ (7, [(0, .inl v0)], [.inl (nf_M_isIn v0 0 31)], M)
  exact mm_s1 rfl ⟨(nz_M_isIn v0 0 31), h⟩
def nf_M_areRow (v0 : Int) (v1 : Int) (v2 : Int) (v3 : Int) : Int := (if (nf_M_isIn v0 0 15) = 0 then 0 else (if (nf_M_isIn v1 0 15) = 0 then 0 else (if (nf_M_isIn v2 0 15) = 0 then 0 else (if (nf_M_isIn v3 0 15) = 0 then 0 else 1))))
theorem nz_M_areRow (v0 : Int) (v1 : Int) (v2 : Int) (v3 : Int) : nf_M_areRow v0 v1 v2 v3 = 0 ∨ nf_M_areRow v0 v1 v2 v3 = 1 := by
  unfold nf_M_areRow
  repeat' split
  all_goals first | exact Or.inl rfl | exact Or.inr rfl | apply nz_M_isIn
set_option maxRecDepth 20000 in
theorem np_M_areRow {v0 : Int} {v1 : Int} {v2 : Int} {v3 : Int} {M : mm_M} {n d : Nat} {P : mm_P} (hd : 2 ≤ d) (L : nn_L M) (N : M.1 = n)  (h : P (some (.inl (nf_M_areRow v0 v1 v2 v3))) M) : mm_run d mi_M_areRow [.inl v0, .inl v1, .inl v2, .inl v3] M P := by
  have NN := nn_L_n L N
  unfold nf_M_areRow at h
  refine nn_run_le hd ?_
  show mm_Go (mm_run 1) mc_M_areRow _ (0, [(0, .inl v0), (1, .inl v1), (2, .inl v2), (3, .inl v3)], [], M)
  refine mm_s1 rfl ?_
  refine mm_s1 rfl ?_
  refine mm_s1 rfl ?_
  refine mm_s1 rfl ⟨trivial, ?_⟩
  refine np_M_isIn (by decide) L N ?_
  show mm_Go (mm_run 1) mc_M_areRow _ (7, [(0, .inl v0), (1, .inl v1), (2, .inl v2), (3, .inl v3)], [.inl (nf_M_isIn v0 0 15)], M)
  refine mm_s1 rfl ⟨fun c7 => ?_, fun c7 => ?_⟩
  · show mm_Go (mm_run 1) mc_M_areRow _ (44, [(0, .inl v0), (1, .inl v1), (2, .inl v2), (3, .inl v3)], [], M)
    rw [if_pos (show (nf_M_isIn v0 0 15) = 0 from c7)] at h
    refine mm_s1 rfl ?_
    exact mm_s1 rfl ⟨(Or.inl rfl), h⟩
  · show mm_Go (mm_run 1) mc_M_areRow _ (10, [(0, .inl v0), (1, .inl v1), (2, .inl v2), (3, .inl v3)], [], M)
    rw [if_neg (show ¬ ((nf_M_isIn v0 0 15) = 0) from c7)] at h
    refine mm_s1 rfl ?_
    refine mm_s1 rfl ?_
    refine mm_s1 rfl ?_
    refine mm_s1 rfl ⟨trivial, ?_⟩
    refine np_M_isIn (by decide) L N ?_
    show mm_Go (mm_run 1) mc_M_areRow _ (17, [(0, .inl v0), (1, .inl v1), (2, .inl v2), (3, .inl v3)], [.inl (nf_M_isIn v1 0 15)], M)
    refine mm_s1 rfl ⟨fun c17 => ?_, fun c17 => ?_⟩
    · show mm_Go (mm_run 1) mc_M_areRow _ (44, [(0, .inl v0), (1, .inl v1), (2, .inl v2), (3, .inl v3)], [], M)
      rw [if_pos (show (nf_M_isIn v1 0 15) = 0 from c17)] at h
      refine mm_s1 rfl ?_
      exact mm_s1 rfl ⟨(Or.inl rfl), h⟩
    · show mm_Go (mm_run 1) mc_M_areRow _ (20, [(0, .inl v0), (1, .inl v1), (2, .inl v2), (3, .inl v3)], [], M)
      rw [if_neg (show ¬ ((nf_M_isIn v1 0 15) = 0) from c17)] at h
      refine mm_s1 rfl ?_
      refine mm_s1 rfl ?_
      refine mm_s1 rfl ?_
      refine mm_s1 rfl ⟨trivial, ?_⟩
      refine np_M_isIn (by decide) L N ?_
      show mm_Go (mm_run 1) mc_M_areRow _ (27, [(0, .inl v0), (1, .inl v1), (2, .inl v2), (3, .inl v3)], [.inl (nf_M_isIn v2 0 15)], M)
      refine mm_s1 rfl ⟨fun c27 => ?_, fun c27 => ?_⟩
      · show mm_Go (mm_run 1) mc_M_areRow _ (44, [(0, .inl v0), (1, .inl v1), (2, .inl v2), (3, .inl v3)], [], M)
        rw [if_pos (show (nf_M_isIn v2 0 15) = 0 from c27)] at h
        refine mm_s1 rfl ?_
        exact mm_s1 rfl ⟨(Or.inl rfl), h⟩
      · show mm_Go (mm_run 1) mc_M_areRow _ (30, [(0, .inl v0), (1, .inl v1), (2, .inl v2), (3, .inl v3)], [], M)
        rw [if_neg (show ¬ ((nf_M_isIn v2 0 15) = 0) from c27)] at h
        refine mm_s1 rfl ?_
        refine mm_s1 rfl ?_
        refine mm_s1 rfl ?_
        refine mm_s1 rfl ⟨trivial, ?_⟩
        refine np_M_isIn (by decide) L N ?_
        show mm_Go (mm_run 1) mc_M_areRow _ (37, [(0, .inl v0), (1, .inl v1), (2, .inl v2), (3, .inl v3)], [.inl (nf_M_isIn v3 0 15)], M)
        refine mm_s1 rfl ⟨fun c37 => ?_, fun c37 => ?_⟩
        · show mm_Go (mm_run 1) mc_M_areRow _ (44, [(0, .inl v0), (1, .inl v1), (2, .inl v2), (3, .inl v3)], [], M)
          rw [if_pos (show (nf_M_isIn v3 0 15) = 0 from c37)] at h
          refine mm_s1 rfl ?_
          exact mm_s1 rfl ⟨(Or.inl rfl), h⟩
        · show mm_Go (mm_run 1) mc_M_areRow _ (40, [(0, .inl v0), (1, .inl v1), (2, .inl v2), (3, .inl v3)], [], M)
          rw [if_neg (show ¬ ((nf_M_isIn v3 0 15) = 0) from c37)] at h
          refine mm_s1 rfl ?_
          refine mm_s1 rfl ?_
          show mm_Go (mm_run 1) mc_M_areRow _ (45, [(0, .inl v0), (1, .inl v1), (2, .inl v2), (3, .inl v3)], [.inl 1], M)
          exact mm_s1 rfl ⟨(Or.inr rfl), h⟩
def nr_M_sumOf (v1 : Int) (v2 : Int) (M : mm_M) (R : Int → mm_M → Prop) : Prop := ∀ n, nn_L M → M.1 = n → mm_run 2 mi_M_sumOf [.inr (.inr 407), .inl v1, .inl v2] M (nw_I n R)
def nk_M_sumOf_10 (v1 : Int) (v2 : Int) (v3 : Int) (v4 : Int) (M : mm_M) (R : Int → mm_M → Prop) : Prop := ∀ n, nn_L M → M.1 = n → mm_Go (mm_run 1) mc_M_sumOf (nw_I n R) (10, [(0, .inr (.inr 407)), (1, .inl v1), (2, .inl v2), (3, .inl v3), (4, .inl v4)], [], M)
set_option maxRecDepth 20000 in
theorem ng_M_sumOf (v1 : Int) (v2 : Int) (M : mm_M) (R : Int → mm_M → Prop) (h : (((0 : Int) ≤ v1 ∧ v1 < (32844 : Int)) ∧ nk_M_sumOf_10 v1 v2 (nn_ri M 408 v1) 0 M R)) : nr_M_sumOf v1 v2 M R := by
  intro n L N 
  have NN := nn_L_n L N
  show mm_Go (mm_run 1) mc_M_sumOf _ (0, [(0, .inr (.inr 407)), (1, .inl v1), (2, .inl v2)], [], M)
  refine mm_s1 rfl ?_
  refine nn_getr rfl (nn_c407 NN).1 (lf_13_0 L N (nn_c407 NN)) ?_
  refine mm_s1 rfl ?_
  obtain ⟨b5, h⟩ := h
  refine mm_s1 rfl ⟨nn_bd (na_13_0 NN (nn_c407 NN)) b5, ?_⟩
  show mm_Go (mm_run 1) mc_M_sumOf _ (6, [(0, .inr (.inr 407)), (1, .inl v1), (2, .inl v2)], [.inl (nn_ri M 408 v1)], M)
  refine mm_s1 rfl ?_
  show mm_Go (mm_run 1) mc_M_sumOf _ (7, [(0, .inr (.inr 407)), (1, .inl v1), (2, .inl v2), (3, .inl (nn_ri M 408 v1))], [], M)
  refine mm_s1 rfl ?_
  refine mm_s1 rfl ?_
  show mm_Go (mm_run 1) mc_M_sumOf _ (10, [(0, .inr (.inr 407)), (1, .inl v1), (2, .inl v2), (3, .inl (nn_ri M 408 v1)), (4, .inl 0)], [], M)
  exact nn_go_ext (nn_xc rfl (nn_xc rfl (nn_xc rfl (nn_xc rfl (nn_xc rfl nn_xn))))) (h n L N)
set_option maxRecDepth 20000 in
theorem ng_M_sumOf_10 (v1 : Int) (v2 : Int) (v3 : Int) (v4 : Int) (M : mm_M) (R : Int → mm_M → Prop) (h : ((4 ≤ v4 → R v3 M) ∧ (v4 < 4 → (((0 : Int) ≤ (mm_w ((mm_w (v1 + 1)) + v4)) ∧ (mm_w ((mm_w (v1 + 1)) + v4)) < (32844 : Int)) ∧ (∀ x3_36 : Int, x3_36 = mm_w (v3 + (mm_w ((nn_ri M 408 (mm_w ((mm_w (v1 + 1)) + v4))) * (nf_M_column v2 v4)))) → nk_M_sumOf_10 v1 v2 x3_36 (mm_w (v4 + 1)) M R))))) : nk_M_sumOf_10 v1 v2 v3 v4 M R := by
  intro n L N 
  have NN := nn_L_n L N
  show mm_Go (mm_run 1) mc_M_sumOf _ (10, [(0, .inr (.inr 407)), (1, .inl v1), (2, .inl v2), (3, .inl v3), (4, .inl v4)], [], M)
  refine mm_s1 rfl ?_
  refine mm_s1 rfl ?_
  refine mm_s1 rfl ⟨fun c13 => ?_, fun c13 => ?_⟩
  · show mm_Go (mm_run 1) mc_M_sumOf _ (43, [(0, .inr (.inr 407)), (1, .inl v1), (2, .inl v2), (3, .inl v3), (4, .inl v4)], [], M)
    replace h := h.1 c13
    refine mm_s1 rfl ?_
    exact mm_s1 rfl ⟨_, rfl, L, N, h⟩
  · show mm_Go (mm_run 1) mc_M_sumOf _ (16, [(0, .inr (.inr 407)), (1, .inl v1), (2, .inl v2), (3, .inl v3), (4, .inl v4)], [], M)
    replace c13 := Int.not_le.mp c13
    replace h := h.2 c13
    refine mm_s1 rfl ?_
    refine mm_s1 rfl ?_
    refine nn_getr rfl (nn_c407 NN).1 (lf_13_0 L N (nn_c407 NN)) ?_
    refine mm_s1 rfl ?_
    refine mm_s1 rfl ?_
    show mm_Go (mm_run 1) mc_M_sumOf _ (23, [(0, .inr (.inr 407)), (1, .inl v1), (2, .inl v2), (3, .inl v3), (4, .inl v4)], [.inl 1, .inl v1, .inr (.inr 408), .inl v3], M)
    refine mm_s1 rfl ?_
    refine mm_s1 rfl ?_
    refine mm_s1 rfl ?_
    obtain ⟨b27, h⟩ := h
    refine mm_s1 rfl ⟨nn_bd (na_13_0 NN (nn_c407 NN)) b27, ?_⟩
    show mm_Go (mm_run 1) mc_M_sumOf _ (28, [(0, .inr (.inr 407)), (1, .inl v1), (2, .inl v2), (3, .inl v3), (4, .inl v4)], [.inl (nn_ri M 408 (mm_w ((mm_w (v1 + 1)) + v4))), .inl v3], M)
    refine mm_s1 rfl ?_
    refine mm_s1 rfl ?_
    refine mm_s1 rfl ⟨trivial, ?_⟩
    refine np_M_column (by decide) L N ?_
    show mm_Go (mm_run 1) mc_M_sumOf _ (34, [(0, .inr (.inr 407)), (1, .inl v1), (2, .inl v2), (3, .inl v3), (4, .inl v4)], [.inl (nf_M_column v2 v4), .inl (nn_ri M 408 (mm_w ((mm_w (v1 + 1)) + v4))), .inl v3], M)
    refine mm_s1 rfl ?_
    refine mm_s1 rfl ?_
    refine mm_s1 rfl ?_
    show mm_Go (mm_run 1) mc_M_sumOf _ (37, [(0, .inr (.inr 407)), (1, .inl v1), (2, .inl v2), (3, .inl (mm_w (v3 + (mm_w ((nn_ri M 408 (mm_w ((mm_w (v1 + 1)) + v4))) * (nf_M_column v2 v4)))))), (4, .inl v4)], [], M)
    generalize e_x3_36 : (mm_w (v3 + (mm_w ((nn_ri M 408 (mm_w ((mm_w (v1 + 1)) + v4))) * (nf_M_column v2 v4))))) = x3_36
    replace h := h _ e_x3_36.symm
    show mm_Go (mm_run 1) mc_M_sumOf _ (37, [(0, .inr (.inr 407)), (1, .inl v1), (2, .inl v2), (3, .inl x3_36), (4, .inl v4)], [], M)
    refine mm_s1 rfl ?_
    show mm_Go (mm_run 1) mc_M_sumOf _ (40, [(0, .inr (.inr 407)), (1, .inl v1), (2, .inl v2), (3, .inl x3_36), (4, .inl (mm_w (v4 + 1)))], [], M)
    refine mm_s1 rfl ?_
    show mm_Go (mm_run 1) mc_M_sumOf _ (10, [(0, .inr (.inr 407)), (1, .inl v1), (2, .inl v2), (3, .inl x3_36), (4, .inl (mm_w (v4 + 1)))], [], M)
    exact nn_go_ext (nn_xc rfl (nn_xc rfl (nn_xc rfl (nn_xc rfl (nn_xc rfl nn_xn))))) (h n L N)
def nr_M_latest (v1 : Int) (v2 : Int) (M : mm_M) (R : Int → mm_M → Prop) : Prop := ∀ n, nn_L M → M.1 = n → mm_run 2 mi_M_latest [.inr (.inr 407), .inl v1, .inl v2] M (nw_I n R)
def nk_M_latest_23 (v1 : Int) (v2 : Int) (v3 : Int) (M : mm_M) (R : Int → mm_M → Prop) : Prop := ∀ n, nn_L M → M.1 = n → mm_Go (mm_run 1) mc_M_latest (nw_I n R) (23, [(0, .inr (.inr 407)), (1, .inl v1), (2, .inl v2), (3, .inl v3)], [], M)
set_option maxRecDepth 20000 in
theorem ng_M_latest (v1 : Int) (v2 : Int) (M : mm_M) (R : Int → mm_M → Prop) (h : (((0 : Int) ≤ (mm_w ((mm_w (v1 + 24)) + v2)) ∧ (mm_w ((mm_w (v1 + 24)) + v2)) < (32844 : Int)) ∧ (((nn_ri M 408 (mm_w ((mm_w (v1 + 24)) + v2))) ≤ 0 → nk_M_latest_23 v1 v2 0 M R) ∧ (0 < (nn_ri M 408 (mm_w ((mm_w (v1 + 24)) + v2))) → R (mm_w ((mm_w (v1 + 24)) + v2)) M)))) : nr_M_latest v1 v2 M R := by
  intro n L N 
  have NN := nn_L_n L N
  show mm_Go (mm_run 1) mc_M_latest _ (0, [(0, .inr (.inr 407)), (1, .inl v1), (2, .inl v2)], [], M)
  refine mm_s1 rfl ?_
  refine nn_getr rfl (nn_c407 NN).1 (lf_13_0 L N (nn_c407 NN)) ?_
  refine mm_s1 rfl ?_
  refine mm_s1 rfl ?_
  refine mm_s1 rfl ?_
  show mm_Go (mm_run 1) mc_M_latest _ (8, [(0, .inr (.inr 407)), (1, .inl v1), (2, .inl v2)], [.inl (mm_w (v1 + 24)), .inr (.inr 408)], M)
  refine mm_s1 rfl ?_
  refine mm_s1 rfl ?_
  obtain ⟨b10, h⟩ := h
  refine mm_s1 rfl ⟨nn_bd (na_13_0 NN (nn_c407 NN)) b10, ?_⟩
  show mm_Go (mm_run 1) mc_M_latest _ (11, [(0, .inr (.inr 407)), (1, .inl v1), (2, .inl v2)], [.inl (nn_ri M 408 (mm_w ((mm_w (v1 + 24)) + v2)))], M)
  refine mm_s1 rfl ⟨fun c11 => ?_, fun c11 => ?_⟩
  · show mm_Go (mm_run 1) mc_M_latest _ (21, [(0, .inr (.inr 407)), (1, .inl v1), (2, .inl v2)], [], M)
    replace h := h.1 c11
    refine mm_s1 rfl ?_
    refine mm_s1 rfl ?_
    show mm_Go (mm_run 1) mc_M_latest _ (23, [(0, .inr (.inr 407)), (1, .inl v1), (2, .inl v2), (3, .inl 0)], [], M)
    exact nn_go_ext (nn_xc rfl (nn_xc rfl (nn_xc rfl (nn_xc rfl nn_xn)))) (h n L N)
  · show mm_Go (mm_run 1) mc_M_latest _ (14, [(0, .inr (.inr 407)), (1, .inl v1), (2, .inl v2)], [], M)
    replace c11 := Int.not_le.mp c11
    replace h := h.2 c11
    refine mm_s1 rfl ?_
    refine mm_s1 rfl ?_
    refine mm_s1 rfl ?_
    refine mm_s1 rfl ?_
    refine mm_s1 rfl ?_
    show mm_Go (mm_run 1) mc_M_latest _ (20, [(0, .inr (.inr 407)), (1, .inl v1), (2, .inl v2)], [.inl (mm_w ((mm_w (v1 + 24)) + v2))], M)
    exact mm_s1 rfl ⟨_, rfl, L, N, h⟩
set_option maxRecDepth 20000 in
theorem ng_M_latest_23 (v1 : Int) (v2 : Int) (v3 : Int) (M : mm_M) (R : Int → mm_M → Prop) (h : (((0 : Int) ≤ (mm_w (v1 + 5)) ∧ (mm_w (v1 + 5)) < (32844 : Int)) ∧ (((nn_ri M 408 (mm_w (v1 + 5))) ≤ v3 → R (-1) M) ∧ (v3 < (nn_ri M 408 (mm_w (v1 + 5))) → (((0 : Int) ≤ (mm_w ((mm_w ((nf_M_runAt v1 v3) + 4)) + v2)) ∧ (mm_w ((mm_w ((nf_M_runAt v1 v3) + 4)) + v2)) < (32844 : Int)) ∧ (((nn_ri M 408 (mm_w ((mm_w ((nf_M_runAt v1 v3) + 4)) + v2))) ≤ 0 → nk_M_latest_23 v1 v2 (mm_w (v3 + 1)) M R) ∧ (0 < (nn_ri M 408 (mm_w ((mm_w ((nf_M_runAt v1 v3) + 4)) + v2))) → R (mm_w ((mm_w ((nf_M_runAt v1 v3) + 4)) + v2)) M))))))) : nk_M_latest_23 v1 v2 v3 M R := by
  intro n L N 
  have NN := nn_L_n L N
  show mm_Go (mm_run 1) mc_M_latest _ (23, [(0, .inr (.inr 407)), (1, .inl v1), (2, .inl v2), (3, .inl v3)], [], M)
  refine mm_s1 rfl ?_
  refine mm_s1 rfl ?_
  refine nn_getr rfl (nn_c407 NN).1 (lf_13_0 L N (nn_c407 NN)) ?_
  refine mm_s1 rfl ?_
  refine mm_s1 rfl ?_
  show mm_Go (mm_run 1) mc_M_latest _ (30, [(0, .inr (.inr 407)), (1, .inl v1), (2, .inl v2), (3, .inl v3)], [.inl 5, .inl v1, .inr (.inr 408), .inl v3], M)
  refine mm_s1 rfl ?_
  obtain ⟨b31, h⟩ := h
  refine mm_s1 rfl ⟨nn_bd (na_13_0 NN (nn_c407 NN)) b31, ?_⟩
  show mm_Go (mm_run 1) mc_M_latest _ (32, [(0, .inr (.inr 407)), (1, .inl v1), (2, .inl v2), (3, .inl v3)], [.inl (nn_ri M 408 (mm_w (v1 + 5))), .inl v3], M)
  refine mm_s1 rfl ⟨fun c32 => ?_, fun c32 => ?_⟩
  · show mm_Go (mm_run 1) mc_M_latest _ (68, [(0, .inr (.inr 407)), (1, .inl v1), (2, .inl v2), (3, .inl v3)], [], M)
    replace h := h.1 c32
    refine mm_s1 rfl ?_
    exact mm_s1 rfl ⟨_, rfl, L, N, h⟩
  · show mm_Go (mm_run 1) mc_M_latest _ (35, [(0, .inr (.inr 407)), (1, .inl v1), (2, .inl v2), (3, .inl v3)], [], M)
    replace c32 := Int.not_le.mp c32
    replace h := h.2 c32
    refine mm_s1 rfl ?_
    refine nn_getr rfl (nn_c407 NN).1 (lf_13_0 L N (nn_c407 NN)) ?_
    refine mm_s1 rfl ?_
    refine mm_s1 rfl ?_
    refine mm_s1 rfl ⟨trivial, ?_⟩
    refine np_M_runAt (by decide) L N ?_
    show mm_Go (mm_run 1) mc_M_latest _ (44, [(0, .inr (.inr 407)), (1, .inl v1), (2, .inl v2), (3, .inl v3)], [.inl (nf_M_runAt v1 v3), .inr (.inr 408)], M)
    refine mm_s1 rfl ?_
    refine mm_s1 rfl ?_
    refine mm_s1 rfl ?_
    refine mm_s1 rfl ?_
    obtain ⟨b48, h⟩ := h
    refine mm_s1 rfl ⟨nn_bd (na_13_0 NN (nn_c407 NN)) b48, ?_⟩
    show mm_Go (mm_run 1) mc_M_latest _ (49, [(0, .inr (.inr 407)), (1, .inl v1), (2, .inl v2), (3, .inl v3)], [.inl (nn_ri M 408 (mm_w ((mm_w ((nf_M_runAt v1 v3) + 4)) + v2)))], M)
    refine mm_s1 rfl ⟨fun c49 => ?_, fun c49 => ?_⟩
    · show mm_Go (mm_run 1) mc_M_latest _ (62, [(0, .inr (.inr 407)), (1, .inl v1), (2, .inl v2), (3, .inl v3)], [], M)
      replace h := h.1 c49
      refine mm_s1 rfl ?_
      show mm_Go (mm_run 1) mc_M_latest _ (65, [(0, .inr (.inr 407)), (1, .inl v1), (2, .inl v2), (3, .inl (mm_w (v3 + 1)))], [], M)
      refine mm_s1 rfl ?_
      show mm_Go (mm_run 1) mc_M_latest _ (23, [(0, .inr (.inr 407)), (1, .inl v1), (2, .inl v2), (3, .inl (mm_w (v3 + 1)))], [], M)
      exact nn_go_ext (nn_xc rfl (nn_xc rfl (nn_xc rfl (nn_xc rfl nn_xn)))) (h n L N)
    · show mm_Go (mm_run 1) mc_M_latest _ (52, [(0, .inr (.inr 407)), (1, .inl v1), (2, .inl v2), (3, .inl v3)], [], M)
      replace c49 := Int.not_le.mp c49
      replace h := h.2 c49
      refine mm_s1 rfl ?_
      refine mm_s1 rfl ?_
      refine mm_s1 rfl ⟨trivial, ?_⟩
      refine np_M_runAt (by decide) L N ?_
      show mm_Go (mm_run 1) mc_M_latest _ (57, [(0, .inr (.inr 407)), (1, .inl v1), (2, .inl v2), (3, .inl v3)], [.inl (nf_M_runAt v1 v3)], M)
      refine mm_s1 rfl ?_
      refine mm_s1 rfl ?_
      refine mm_s1 rfl ?_
      refine mm_s1 rfl ?_
      exact mm_s1 rfl ⟨_, rfl, L, N, h⟩
def nr_M_adds (v1 : Int) (v2 : Int) (v3 : Int) (v4 : Int) (v5 : Int) (M : mm_M) (R : mm_M → Prop) : Prop := ∀ n, nn_L M → M.1 = n → mm_run 2 mi_M_adds [.inr (.inr 407), .inl v1, .inl v2, .inl v3, .inl v4, .inl v5] M (nw_V n R)
set_option maxRecDepth 20000 in
theorem ng_M_adds (v1 : Int) (v2 : Int) (v3 : Int) (v4 : Int) (v5 : Int) (M : mm_M) (R : mm_M → Prop) (h : (((0 : Int) ≤ (mm_w (v1 + 6)) ∧ (mm_w (v1 + 6)) < (32844 : Int)) ∧ (∀ x6_13 : Int, x6_13 = nf_M_entryAt v1 (nn_ri M 408 (mm_w (v1 + 6))) → (((0 : Int) ≤ x6_13 ∧ x6_13 < (32844 : Int)) ∧ (∀ M22 : mm_M, M22 = nn_ui M 408 x6_13 v2 → (((0 : Int) ≤ (mm_w (x6_13 + 1)) ∧ (mm_w (x6_13 + 1)) < (32844 : Int)) ∧ (∀ M32 : mm_M, M32 = nn_ui M22 408 (mm_w (x6_13 + 1)) v3 → (((0 : Int) ≤ (mm_w (x6_13 + 2)) ∧ (mm_w (x6_13 + 2)) < (32844 : Int)) ∧ (∀ M43 : mm_M, M43 = nn_ui M32 408 (mm_w (x6_13 + 2)) v4 → (((0 : Int) ≤ (mm_w (x6_13 + 3)) ∧ (mm_w (x6_13 + 3)) < (32844 : Int)) ∧ (∀ M54 : mm_M, M54 = nn_ui M43 408 (mm_w (x6_13 + 3)) v5 → (((0 : Int) ≤ (mm_w (v1 + 6)) ∧ (mm_w (v1 + 6)) < (32844 : Int)) ∧ (((0 : Int) ≤ (mm_w (v1 + 6)) ∧ (mm_w (v1 + 6)) < (32844 : Int)) ∧ (∀ M67 : mm_M, M67 = nn_ui M54 408 (mm_w (v1 + 6)) (mm_w ((nn_ri M54 408 (mm_w (v1 + 6))) + 1)) → R M67)))))))))))))) : nr_M_adds v1 v2 v3 v4 v5 M R := by
  intro n L N 
  have NN := nn_L_n L N
  show mm_Go (mm_run 1) mc_M_adds _ (0, [(0, .inr (.inr 407)), (1, .inl v1), (2, .inl v2), (3, .inl v3), (4, .inl v4), (5, .inl v5)], [], M)
  refine mm_s1 rfl ?_
  refine mm_s1 rfl ?_
  refine nn_getr rfl (nn_c407 NN).1 (lf_13_0 L N (nn_c407 NN)) ?_
  refine mm_s1 rfl ?_
  refine mm_s1 rfl ?_
  show mm_Go (mm_run 1) mc_M_adds _ (8, [(0, .inr (.inr 407)), (1, .inl v1), (2, .inl v2), (3, .inl v3), (4, .inl v4), (5, .inl v5)], [.inl 6, .inl v1, .inr (.inr 408), .inl v1], M)
  refine mm_s1 rfl ?_
  obtain ⟨b9, h⟩ := h
  refine mm_s1 rfl ⟨nn_bd (na_13_0 NN (nn_c407 NN)) b9, ?_⟩
  show mm_Go (mm_run 1) mc_M_adds _ (10, [(0, .inr (.inr 407)), (1, .inl v1), (2, .inl v2), (3, .inl v3), (4, .inl v4), (5, .inl v5)], [.inl (nn_ri M 408 (mm_w (v1 + 6))), .inl v1], M)
  refine mm_s1 rfl ⟨trivial, ?_⟩
  refine np_M_entryAt (by decide) L N ?_
  show mm_Go (mm_run 1) mc_M_adds _ (13, [(0, .inr (.inr 407)), (1, .inl v1), (2, .inl v2), (3, .inl v3), (4, .inl v4), (5, .inl v5)], [.inl (nf_M_entryAt v1 (nn_ri M 408 (mm_w (v1 + 6))))], M)
  refine mm_s1 rfl ?_
  show mm_Go (mm_run 1) mc_M_adds _ (15, [(0, .inr (.inr 407)), (1, .inl v1), (2, .inl v2), (3, .inl v3), (4, .inl v4), (5, .inl v5), (6, .inl (nf_M_entryAt v1 (nn_ri M 408 (mm_w (v1 + 6)))))], [], M)
  generalize e_x6_13 : (nf_M_entryAt v1 (nn_ri M 408 (mm_w (v1 + 6)))) = x6_13
  replace h := h _ e_x6_13.symm
  show mm_Go (mm_run 1) mc_M_adds _ (15, [(0, .inr (.inr 407)), (1, .inl v1), (2, .inl v2), (3, .inl v3), (4, .inl v4), (5, .inl v5), (6, .inl x6_13)], [], M)
  refine mm_s1 rfl ?_
  refine nn_getr rfl (nn_c407 NN).1 (lf_13_0 L N (nn_c407 NN)) ?_
  refine mm_s1 rfl ?_
  refine mm_s1 rfl ?_
  obtain ⟨b22, h⟩ := h
  refine mm_s1 rfl ⟨nn_bd (na_13_0 NN (nn_c407 NN)) b22, ?_⟩
  show mm_Go (mm_run 1) mc_M_adds _ (23, [(0, .inr (.inr 407)), (1, .inl v1), (2, .inl v2), (3, .inl v3), (4, .inl v4), (5, .inl v5), (6, .inl x6_13)], [], (nn_ui M 408 x6_13 v2))
  have L : nn_L (nn_ui M 408 x6_13 v2) := nn_L_ua L (congrArg Prod.fst (na_13_0 NN (nn_c407 NN))) (by decide)
  have N : (nn_ui M 408 x6_13 v2).1 = n := N
  generalize e_M22 : (nn_ui M 408 x6_13 v2) = M22 at L N ⊢
  replace h := h _ e_M22.symm
  show mm_Go (mm_run 1) mc_M_adds _ (23, [(0, .inr (.inr 407)), (1, .inl v1), (2, .inl v2), (3, .inl v3), (4, .inl v4), (5, .inl v5), (6, .inl x6_13)], [], M22)
  refine mm_s1 rfl ?_
  refine nn_getr rfl (nn_c407 NN).1 (lf_13_0 L N (nn_c407 NN)) ?_
  refine mm_s1 rfl ?_
  refine mm_s1 rfl ?_
  refine mm_s1 rfl ?_
  show mm_Go (mm_run 1) mc_M_adds _ (31, [(0, .inr (.inr 407)), (1, .inl v1), (2, .inl v2), (3, .inl v3), (4, .inl v4), (5, .inl v5), (6, .inl x6_13)], [.inl (mm_w (x6_13 + 1)), .inr (.inr 408)], M22)
  refine mm_s1 rfl ?_
  obtain ⟨b32, h⟩ := h
  refine mm_s1 rfl ⟨nn_bd (na_13_0 NN (nn_c407 NN)) b32, ?_⟩
  show mm_Go (mm_run 1) mc_M_adds _ (33, [(0, .inr (.inr 407)), (1, .inl v1), (2, .inl v2), (3, .inl v3), (4, .inl v4), (5, .inl v5), (6, .inl x6_13)], [], (nn_ui M22 408 (mm_w (x6_13 + 1)) v3))
  have L : nn_L (nn_ui M22 408 (mm_w (x6_13 + 1)) v3) := nn_L_ua L (congrArg Prod.fst (na_13_0 NN (nn_c407 NN))) (by decide)
  have N : (nn_ui M22 408 (mm_w (x6_13 + 1)) v3).1 = n := N
  generalize e_M32 : (nn_ui M22 408 (mm_w (x6_13 + 1)) v3) = M32 at L N ⊢
  replace h := h _ e_M32.symm
  show mm_Go (mm_run 1) mc_M_adds _ (33, [(0, .inr (.inr 407)), (1, .inl v1), (2, .inl v2), (3, .inl v3), (4, .inl v4), (5, .inl v5), (6, .inl x6_13)], [], M32)
  refine mm_s1 rfl ?_
  refine nn_getr rfl (nn_c407 NN).1 (lf_13_0 L N (nn_c407 NN)) ?_
  refine mm_s1 rfl ?_
  refine mm_s1 rfl ?_
  refine mm_s1 rfl ?_
  show mm_Go (mm_run 1) mc_M_adds _ (41, [(0, .inr (.inr 407)), (1, .inl v1), (2, .inl v2), (3, .inl v3), (4, .inl v4), (5, .inl v5), (6, .inl x6_13)], [.inl (mm_w (x6_13 + 2)), .inr (.inr 408)], M32)
  refine mm_s1 rfl ?_
  obtain ⟨b43, h⟩ := h
  refine mm_s1 rfl ⟨nn_bd (na_13_0 NN (nn_c407 NN)) b43, ?_⟩
  show mm_Go (mm_run 1) mc_M_adds _ (44, [(0, .inr (.inr 407)), (1, .inl v1), (2, .inl v2), (3, .inl v3), (4, .inl v4), (5, .inl v5), (6, .inl x6_13)], [], (nn_ui M32 408 (mm_w (x6_13 + 2)) v4))
  have L : nn_L (nn_ui M32 408 (mm_w (x6_13 + 2)) v4) := nn_L_ua L (congrArg Prod.fst (na_13_0 NN (nn_c407 NN))) (by decide)
  have N : (nn_ui M32 408 (mm_w (x6_13 + 2)) v4).1 = n := N
  generalize e_M43 : (nn_ui M32 408 (mm_w (x6_13 + 2)) v4) = M43 at L N ⊢
  replace h := h _ e_M43.symm
  show mm_Go (mm_run 1) mc_M_adds _ (44, [(0, .inr (.inr 407)), (1, .inl v1), (2, .inl v2), (3, .inl v3), (4, .inl v4), (5, .inl v5), (6, .inl x6_13)], [], M43)
  refine mm_s1 rfl ?_
  refine nn_getr rfl (nn_c407 NN).1 (lf_13_0 L N (nn_c407 NN)) ?_
  refine mm_s1 rfl ?_
  refine mm_s1 rfl ?_
  refine mm_s1 rfl ?_
  show mm_Go (mm_run 1) mc_M_adds _ (52, [(0, .inr (.inr 407)), (1, .inl v1), (2, .inl v2), (3, .inl v3), (4, .inl v4), (5, .inl v5), (6, .inl x6_13)], [.inl (mm_w (x6_13 + 3)), .inr (.inr 408)], M43)
  refine mm_s1 rfl ?_
  obtain ⟨b54, h⟩ := h
  refine mm_s1 rfl ⟨nn_bd (na_13_0 NN (nn_c407 NN)) b54, ?_⟩
  show mm_Go (mm_run 1) mc_M_adds _ (55, [(0, .inr (.inr 407)), (1, .inl v1), (2, .inl v2), (3, .inl v3), (4, .inl v4), (5, .inl v5), (6, .inl x6_13)], [], (nn_ui M43 408 (mm_w (x6_13 + 3)) v5))
  have L : nn_L (nn_ui M43 408 (mm_w (x6_13 + 3)) v5) := nn_L_ua L (congrArg Prod.fst (na_13_0 NN (nn_c407 NN))) (by decide)
  have N : (nn_ui M43 408 (mm_w (x6_13 + 3)) v5).1 = n := N
  generalize e_M54 : (nn_ui M43 408 (mm_w (x6_13 + 3)) v5) = M54 at L N ⊢
  replace h := h _ e_M54.symm
  show mm_Go (mm_run 1) mc_M_adds _ (55, [(0, .inr (.inr 407)), (1, .inl v1), (2, .inl v2), (3, .inl v3), (4, .inl v4), (5, .inl v5), (6, .inl x6_13)], [], M54)
  refine mm_s1 rfl ?_
  refine nn_getr rfl (nn_c407 NN).1 (lf_13_0 L N (nn_c407 NN)) ?_
  refine mm_s1 rfl ?_
  refine mm_s1 rfl ?_
  refine mm_s1 rfl ?_
  show mm_Go (mm_run 1) mc_M_adds _ (63, [(0, .inr (.inr 407)), (1, .inl v1), (2, .inl v2), (3, .inl v3), (4, .inl v4), (5, .inl v5), (6, .inl x6_13)], [.inl (mm_w (v1 + 6)), .inr (.inr 408)], M54)
  refine mm_s1 rfl ?_
  obtain ⟨b64, h⟩ := h
  refine mm_s1 rfl ⟨nn_bd (na_13_0 NN (nn_c407 NN)) b64, ?_⟩
  show mm_Go (mm_run 1) mc_M_adds _ (65, [(0, .inr (.inr 407)), (1, .inl v1), (2, .inl v2), (3, .inl v3), (4, .inl v4), (5, .inl v5), (6, .inl x6_13)], [.inl (nn_ri M54 408 (mm_w (v1 + 6))), .inl (mm_w (v1 + 6)), .inr (.inr 408)], M54)
  refine mm_s1 rfl ?_
  refine mm_s1 rfl ?_
  obtain ⟨b67, h⟩ := h
  refine mm_s1 rfl ⟨nn_bd (na_13_0 NN (nn_c407 NN)) b67, ?_⟩
  show mm_Go (mm_run 1) mc_M_adds _ (68, [(0, .inr (.inr 407)), (1, .inl v1), (2, .inl v2), (3, .inl v3), (4, .inl v4), (5, .inl v5), (6, .inl x6_13)], [], (nn_ui M54 408 (mm_w (v1 + 6)) (mm_w ((nn_ri M54 408 (mm_w (v1 + 6))) + 1))))
  have L : nn_L (nn_ui M54 408 (mm_w (v1 + 6)) (mm_w ((nn_ri M54 408 (mm_w (v1 + 6))) + 1))) := nn_L_ua L (congrArg Prod.fst (na_13_0 NN (nn_c407 NN))) (by decide)
  have N : (nn_ui M54 408 (mm_w (v1 + 6)) (mm_w ((nn_ri M54 408 (mm_w (v1 + 6))) + 1))).1 = n := N
  generalize e_M67 : (nn_ui M54 408 (mm_w (v1 + 6)) (mm_w ((nn_ri M54 408 (mm_w (v1 + 6))) + 1))) = M67 at L N ⊢
  replace h := h _ e_M67.symm
  show mm_Go (mm_run 1) mc_M_adds _ (68, [(0, .inr (.inr 407)), (1, .inl v1), (2, .inl v2), (3, .inl v3), (4, .inl v4), (5, .inl v5), (6, .inl x6_13)], [], M67)
  exact mm_s1 rfl ⟨rfl, L, N, h⟩
def nr_M_sorts (v1 : Int) (M : mm_M) (R : mm_M → Prop) : Prop := ∀ n, nn_L M → M.1 = n → mm_run 2 mi_M_sorts [.inr (.inr 407), .inl v1] M (nw_V n R)
def nk_M_sorts_2 (v1 : Int) (v2 : Int) (M : mm_M) (R : mm_M → Prop) : Prop := ∀ n, nn_L M → M.1 = n → mm_Go (mm_run 1) mc_M_sorts (nw_V n R) (2, [(0, .inr (.inr 407)), (1, .inl v1), (2, .inl v2)], [], M)
def nk_M_sorts_17 (v1 : Int) (v2 : Int) (v3 : Int) (M : mm_M) (R : mm_M → Prop) : Prop := ∀ n, nn_L M → M.1 = n → mm_Go (mm_run 1) mc_M_sorts (nw_V n R) (17, [(0, .inr (.inr 407)), (1, .inl v1), (2, .inl v2), (3, .inl v3)], [], M)
set_option maxRecDepth 20000 in
theorem ng_M_sorts (v1 : Int) (M : mm_M) (R : mm_M → Prop) (h : nk_M_sorts_2 v1 1 M R) : nr_M_sorts v1 M R := by
  intro n L N 
  have NN := nn_L_n L N
  show mm_Go (mm_run 1) mc_M_sorts _ (0, [(0, .inr (.inr 407)), (1, .inl v1)], [], M)
  refine mm_s1 rfl ?_
  refine mm_s1 rfl ?_
  show mm_Go (mm_run 1) mc_M_sorts _ (2, [(0, .inr (.inr 407)), (1, .inl v1), (2, .inl 1)], [], M)
  exact nn_go_ext (nn_xc rfl (nn_xc rfl (nn_xc rfl nn_xn))) (h n L N)
set_option maxRecDepth 20000 in
theorem ng_M_sorts_2 (v1 : Int) (v2 : Int) (M : mm_M) (R : mm_M → Prop) (h : (((0 : Int) ≤ (mm_w (v1 + 6)) ∧ (mm_w (v1 + 6)) < (32844 : Int)) ∧ (((nn_ri M 408 (mm_w (v1 + 6))) ≤ v2 → R M) ∧ (v2 < (nn_ri M 408 (mm_w (v1 + 6))) → nk_M_sorts_17 v1 v2 v2 M R)))) : nk_M_sorts_2 v1 v2 M R := by
  intro n L N 
  have NN := nn_L_n L N
  show mm_Go (mm_run 1) mc_M_sorts _ (2, [(0, .inr (.inr 407)), (1, .inl v1), (2, .inl v2)], [], M)
  refine mm_s1 rfl ?_
  refine mm_s1 rfl ?_
  refine nn_getr rfl (nn_c407 NN).1 (lf_13_0 L N (nn_c407 NN)) ?_
  refine mm_s1 rfl ?_
  refine mm_s1 rfl ?_
  show mm_Go (mm_run 1) mc_M_sorts _ (10, [(0, .inr (.inr 407)), (1, .inl v1), (2, .inl v2)], [.inl 6, .inl v1, .inr (.inr 408), .inl v2], M)
  refine mm_s1 rfl ?_
  obtain ⟨b11, h⟩ := h
  refine mm_s1 rfl ⟨nn_bd (na_13_0 NN (nn_c407 NN)) b11, ?_⟩
  show mm_Go (mm_run 1) mc_M_sorts _ (12, [(0, .inr (.inr 407)), (1, .inl v1), (2, .inl v2)], [.inl (nn_ri M 408 (mm_w (v1 + 6))), .inl v2], M)
  refine mm_s1 rfl ⟨fun c12 => ?_, fun c12 => ?_⟩
  · show mm_Go (mm_run 1) mc_M_sorts _ (68, [(0, .inr (.inr 407)), (1, .inl v1), (2, .inl v2)], [], M)
    replace h := h.1 c12
    exact mm_s1 rfl ⟨rfl, L, N, h⟩
  · show mm_Go (mm_run 1) mc_M_sorts _ (15, [(0, .inr (.inr 407)), (1, .inl v1), (2, .inl v2)], [], M)
    replace c12 := Int.not_le.mp c12
    replace h := h.2 c12
    refine mm_s1 rfl ?_
    refine mm_s1 rfl ?_
    show mm_Go (mm_run 1) mc_M_sorts _ (17, [(0, .inr (.inr 407)), (1, .inl v1), (2, .inl v2), (3, .inl v2)], [], M)
    exact nn_go_ext (nn_xc rfl (nn_xc rfl (nn_xc rfl (nn_xc rfl nn_xn)))) (h n L N)
set_option maxRecDepth 20000 in
theorem ng_M_sorts_17 (v1 : Int) (v2 : Int) (v3 : Int) (M : mm_M) (R : mm_M → Prop) (h : ((v3 ≤ 0 → nk_M_sorts_2 v1 (mm_w (v2 + 1)) M R) ∧ (0 < v3 → (nr_M_isAhead (nf_M_entryAt v1 v3) (nf_M_entryAt v1 (mm_w (v3 - 1))) M (fun r34 M34 => ((r34 = 0 → nk_M_sorts_2 v1 (mm_w (v2 + 1)) M34 R) ∧ (r34 ≠ 0 → (nr_M_swaps (nf_M_entryAt v1 v3) (nf_M_entryAt v1 (mm_w (v3 - 1))) M34 (fun M53 => nk_M_sorts_17 v1 v2 (mm_w (v3 + (-1))) M53 R))))))))) : nk_M_sorts_17 v1 v2 v3 M R := by
  intro n L N 
  have NN := nn_L_n L N
  show mm_Go (mm_run 1) mc_M_sorts _ (17, [(0, .inr (.inr 407)), (1, .inl v1), (2, .inl v2), (3, .inl v3)], [], M)
  refine mm_s1 rfl ?_
  refine mm_s1 rfl ⟨fun c18 => ?_, fun c18 => ?_⟩
  · show mm_Go (mm_run 1) mc_M_sorts _ (62, [(0, .inr (.inr 407)), (1, .inl v1), (2, .inl v2), (3, .inl v3)], [], M)
    replace h := h.1 c18
    refine mm_s1 rfl ?_
    show mm_Go (mm_run 1) mc_M_sorts _ (65, [(0, .inr (.inr 407)), (1, .inl v1), (2, .inl (mm_w (v2 + 1))), (3, .inl v3)], [], M)
    refine mm_s1 rfl ?_
    show mm_Go (mm_run 1) mc_M_sorts _ (2, [(0, .inr (.inr 407)), (1, .inl v1), (2, .inl (mm_w (v2 + 1))), (3, .inl v3)], [], M)
    exact nn_go_ext (nn_xc rfl (nn_xc rfl (nn_xc rfl nn_xn))) (h n L N)
  · show mm_Go (mm_run 1) mc_M_sorts _ (21, [(0, .inr (.inr 407)), (1, .inl v1), (2, .inl v2), (3, .inl v3)], [], M)
    replace c18 := Int.not_le.mp c18
    replace h := h.2 c18
    refine mm_s1 rfl ?_
    refine mm_s1 rfl ?_
    refine mm_s1 rfl ?_
    refine mm_s1 rfl ⟨trivial, ?_⟩
    refine np_M_entryAt (by decide) L N ?_
    show mm_Go (mm_run 1) mc_M_sorts _ (27, [(0, .inr (.inr 407)), (1, .inl v1), (2, .inl v2), (3, .inl v3)], [.inl (nf_M_entryAt v1 v3), .inr (.inr 407)], M)
    refine mm_s1 rfl ?_
    refine mm_s1 rfl ?_
    refine mm_s1 rfl ?_
    refine mm_s1 rfl ?_
    refine mm_s1 rfl ⟨trivial, ?_⟩
    refine np_M_entryAt (by decide) L N ?_
    show mm_Go (mm_run 1) mc_M_sorts _ (34, [(0, .inr (.inr 407)), (1, .inl v1), (2, .inl v2), (3, .inl v3)], [.inl (nf_M_entryAt v1 (mm_w (v3 - 1))), .inl (nf_M_entryAt v1 v3), .inr (.inr 407)], M)
    refine mm_s1 rfl ⟨(nn_c407 NN).1, ?_⟩
    refine nn_call (D := 1) (by decide) (h n L N) ?_
    intro v M34 q; clear L N h
    obtain ⟨r34, rfl, q34, L, N, h⟩ := q
    show mm_Go (mm_run 1) mc_M_sorts _ (37, [(0, .inr (.inr 407)), (1, .inl v1), (2, .inl v2), (3, .inl v3)], [.inl r34], M34)
    refine mm_s1 rfl ⟨fun c37 => ?_, fun c37 => ?_⟩
    · show mm_Go (mm_run 1) mc_M_sorts _ (62, [(0, .inr (.inr 407)), (1, .inl v1), (2, .inl v2), (3, .inl v3)], [], M34)
      replace h := h.1 c37
      refine mm_s1 rfl ?_
      show mm_Go (mm_run 1) mc_M_sorts _ (65, [(0, .inr (.inr 407)), (1, .inl v1), (2, .inl (mm_w (v2 + 1))), (3, .inl v3)], [], M34)
      refine mm_s1 rfl ?_
      show mm_Go (mm_run 1) mc_M_sorts _ (2, [(0, .inr (.inr 407)), (1, .inl v1), (2, .inl (mm_w (v2 + 1))), (3, .inl v3)], [], M34)
      exact nn_go_ext (nn_xc rfl (nn_xc rfl (nn_xc rfl nn_xn))) (h n L N)
    · show mm_Go (mm_run 1) mc_M_sorts _ (40, [(0, .inr (.inr 407)), (1, .inl v1), (2, .inl v2), (3, .inl v3)], [], M34)
      replace h := h.2 c37
      refine mm_s1 rfl ?_
      refine mm_s1 rfl ?_
      refine mm_s1 rfl ?_
      refine mm_s1 rfl ⟨trivial, ?_⟩
      refine np_M_entryAt (by decide) L N ?_
      show mm_Go (mm_run 1) mc_M_sorts _ (46, [(0, .inr (.inr 407)), (1, .inl v1), (2, .inl v2), (3, .inl v3)], [.inl (nf_M_entryAt v1 v3), .inr (.inr 407)], M34)
      refine mm_s1 rfl ?_
      refine mm_s1 rfl ?_
      refine mm_s1 rfl ?_
      refine mm_s1 rfl ?_
      refine mm_s1 rfl ⟨trivial, ?_⟩
      refine np_M_entryAt (by decide) L N ?_
      show mm_Go (mm_run 1) mc_M_sorts _ (53, [(0, .inr (.inr 407)), (1, .inl v1), (2, .inl v2), (3, .inl v3)], [.inl (nf_M_entryAt v1 (mm_w (v3 - 1))), .inl (nf_M_entryAt v1 v3), .inr (.inr 407)], M34)
      refine mm_s1 rfl ⟨(nn_c407 NN).1, ?_⟩
      refine nn_call (D := 1) (by decide) (h n L N) ?_
      intro v M53 q; clear L N h
      obtain ⟨rfl, L, N, h⟩ := q
      show mm_Go (mm_run 1) mc_M_sorts _ (56, [(0, .inr (.inr 407)), (1, .inl v1), (2, .inl v2), (3, .inl v3)], [], M53)
      refine mm_s1 rfl ?_
      show mm_Go (mm_run 1) mc_M_sorts _ (59, [(0, .inr (.inr 407)), (1, .inl v1), (2, .inl v2), (3, .inl (mm_w (v3 + (-1))))], [], M53)
      refine mm_s1 rfl ?_
      show mm_Go (mm_run 1) mc_M_sorts _ (17, [(0, .inr (.inr 407)), (1, .inl v1), (2, .inl v2), (3, .inl (mm_w (v3 + (-1))))], [], M53)
      exact nn_go_ext (nn_xc rfl (nn_xc rfl (nn_xc rfl (nn_xc rfl nn_xn)))) (h n L N)
def nr_M_drops (v1 : Int) (v2 : Int) (M : mm_M) (R : mm_M → Prop) : Prop := ∀ n, nn_L M → M.1 = n → mm_run 2 mi_M_drops [.inr (.inr 407), .inl v1, .inl v2] M (nw_V n R)
def nk_M_drops_6 (v1 : Int) (v3 : Int) (M : mm_M) (R : mm_M → Prop) : Prop := ∀ n, nn_L M → M.1 = n → mm_Go (mm_run 1) mc_M_drops (nw_V n R) (6, [(0, .inr (.inr 407)), (1, .inl v1), (3, .inl v3)], [], M)
set_option maxRecDepth 20000 in
theorem ng_M_drops (v1 : Int) (v2 : Int) (M : mm_M) (R : mm_M → Prop) (h : nk_M_drops_6 v1 (nf_M_entryAt v1 v2) M R) : nr_M_drops v1 v2 M R := by
  intro n L N 
  have NN := nn_L_n L N
  show mm_Go (mm_run 1) mc_M_drops _ (0, [(0, .inr (.inr 407)), (1, .inl v1), (2, .inl v2)], [], M)
  refine mm_s1 rfl ?_
  refine mm_s1 rfl ?_
  refine mm_s1 rfl ⟨trivial, ?_⟩
  refine np_M_entryAt (by decide) L N ?_
  show mm_Go (mm_run 1) mc_M_drops _ (5, [(0, .inr (.inr 407)), (1, .inl v1), (2, .inl v2)], [.inl (nf_M_entryAt v1 v2)], M)
  refine mm_s1 rfl ?_
  show mm_Go (mm_run 1) mc_M_drops _ (6, [(0, .inr (.inr 407)), (1, .inl v1), (2, .inl v2), (3, .inl (nf_M_entryAt v1 v2))], [], M)
  exact nn_go_ext (nn_xc rfl (nn_xc rfl (nn_xc rfl nn_xn))) (h n L N)
set_option maxRecDepth 20000 in
theorem ng_M_drops_6 (v1 : Int) (v3 : Int) (M : mm_M) (R : mm_M → Prop) (h : (((0 : Int) ≤ (mm_w (v1 + 6)) ∧ (mm_w (v1 + 6)) < (32844 : Int)) ∧ (((nf_M_entryAt v1 (mm_w ((nn_ri M 408 (mm_w (v1 + 6))) - 1))) ≤ v3 → (((0 : Int) ≤ (mm_w (v1 + 6)) ∧ (mm_w (v1 + 6)) < (32844 : Int)) ∧ (((0 : Int) ≤ (mm_w (v1 + 6)) ∧ (mm_w (v1 + 6)) < (32844 : Int)) ∧ (∀ M57 : mm_M, M57 = nn_ui M 408 (mm_w (v1 + 6)) (mm_w ((nn_ri M 408 (mm_w (v1 + 6))) - 1)) → R M57)))) ∧ (v3 < (nf_M_entryAt v1 (mm_w ((nn_ri M 408 (mm_w (v1 + 6))) - 1))) → (((0 : Int) ≤ (mm_w (v3 + 4)) ∧ (mm_w (v3 + 4)) < (32844 : Int)) ∧ (((0 : Int) ≤ v3 ∧ v3 < (32844 : Int)) ∧ (∀ M38 : mm_M, M38 = nn_ui M 408 v3 (nn_ri M 408 (mm_w (v3 + 4))) → nk_M_drops_6 v1 (mm_w (v3 + 1)) M38 R))))))) : nk_M_drops_6 v1 v3 M R := by
  intro n L N 
  have NN := nn_L_n L N
  show mm_Go (mm_run 1) mc_M_drops _ (6, [(0, .inr (.inr 407)), (1, .inl v1), (3, .inl v3)], [], M)
  refine mm_s1 rfl ?_
  refine mm_s1 rfl ?_
  refine mm_s1 rfl ?_
  refine nn_getr rfl (nn_c407 NN).1 (lf_13_0 L N (nn_c407 NN)) ?_
  refine mm_s1 rfl ?_
  show mm_Go (mm_run 1) mc_M_drops _ (13, [(0, .inr (.inr 407)), (1, .inl v1), (3, .inl v3)], [.inl v1, .inr (.inr 408), .inl v1, .inl v3], M)
  refine mm_s1 rfl ?_
  refine mm_s1 rfl ?_
  obtain ⟨b16, h⟩ := h
  refine mm_s1 rfl ⟨nn_bd (na_13_0 NN (nn_c407 NN)) b16, ?_⟩
  show mm_Go (mm_run 1) mc_M_drops _ (17, [(0, .inr (.inr 407)), (1, .inl v1), (3, .inl v3)], [.inl (nn_ri M 408 (mm_w (v1 + 6))), .inl v1, .inl v3], M)
  refine mm_s1 rfl ?_
  refine mm_s1 rfl ?_
  refine mm_s1 rfl ⟨trivial, ?_⟩
  refine np_M_entryAt (by decide) L N ?_
  show mm_Go (mm_run 1) mc_M_drops _ (22, [(0, .inr (.inr 407)), (1, .inl v1), (3, .inl v3)], [.inl (nf_M_entryAt v1 (mm_w ((nn_ri M 408 (mm_w (v1 + 6))) - 1))), .inl v3], M)
  refine mm_s1 rfl ⟨fun c22 => ?_, fun c22 => ?_⟩
  · show mm_Go (mm_run 1) mc_M_drops _ (45, [(0, .inr (.inr 407)), (1, .inl v1), (3, .inl v3)], [], M)
    replace h := h.1 c22
    refine mm_s1 rfl ?_
    refine nn_getr rfl (nn_c407 NN).1 (lf_13_0 L N (nn_c407 NN)) ?_
    refine mm_s1 rfl ?_
    refine mm_s1 rfl ?_
    refine mm_s1 rfl ?_
    show mm_Go (mm_run 1) mc_M_drops _ (53, [(0, .inr (.inr 407)), (1, .inl v1), (3, .inl v3)], [.inl (mm_w (v1 + 6)), .inr (.inr 408)], M)
    refine mm_s1 rfl ?_
    obtain ⟨b54, h⟩ := h
    refine mm_s1 rfl ⟨nn_bd (na_13_0 NN (nn_c407 NN)) b54, ?_⟩
    show mm_Go (mm_run 1) mc_M_drops _ (55, [(0, .inr (.inr 407)), (1, .inl v1), (3, .inl v3)], [.inl (nn_ri M 408 (mm_w (v1 + 6))), .inl (mm_w (v1 + 6)), .inr (.inr 408)], M)
    refine mm_s1 rfl ?_
    refine mm_s1 rfl ?_
    obtain ⟨b57, h⟩ := h
    refine mm_s1 rfl ⟨nn_bd (na_13_0 NN (nn_c407 NN)) b57, ?_⟩
    show mm_Go (mm_run 1) mc_M_drops _ (58, [(0, .inr (.inr 407)), (1, .inl v1), (3, .inl v3)], [], (nn_ui M 408 (mm_w (v1 + 6)) (mm_w ((nn_ri M 408 (mm_w (v1 + 6))) - 1))))
    have L : nn_L (nn_ui M 408 (mm_w (v1 + 6)) (mm_w ((nn_ri M 408 (mm_w (v1 + 6))) - 1))) := nn_L_ua L (congrArg Prod.fst (na_13_0 NN (nn_c407 NN))) (by decide)
    have N : (nn_ui M 408 (mm_w (v1 + 6)) (mm_w ((nn_ri M 408 (mm_w (v1 + 6))) - 1))).1 = n := N
    generalize e_M57 : (nn_ui M 408 (mm_w (v1 + 6)) (mm_w ((nn_ri M 408 (mm_w (v1 + 6))) - 1))) = M57 at L N ⊢
    replace h := h _ e_M57.symm
    show mm_Go (mm_run 1) mc_M_drops _ (58, [(0, .inr (.inr 407)), (1, .inl v1), (3, .inl v3)], [], M57)
    exact mm_s1 rfl ⟨rfl, L, N, h⟩
  · show mm_Go (mm_run 1) mc_M_drops _ (25, [(0, .inr (.inr 407)), (1, .inl v1), (3, .inl v3)], [], M)
    replace c22 := Int.not_le.mp c22
    replace h := h.2 c22
    refine mm_s1 rfl ?_
    refine nn_getr rfl (nn_c407 NN).1 (lf_13_0 L N (nn_c407 NN)) ?_
    refine mm_s1 rfl ?_
    refine mm_s1 rfl ?_
    refine nn_getr rfl (nn_c407 NN).1 (lf_13_0 L N (nn_c407 NN)) ?_
    show mm_Go (mm_run 1) mc_M_drops _ (34, [(0, .inr (.inr 407)), (1, .inl v1), (3, .inl v3)], [.inr (.inr 408), .inl v3, .inr (.inr 408)], M)
    refine mm_s1 rfl ?_
    refine mm_s1 rfl ?_
    refine mm_s1 rfl ?_
    obtain ⟨b37, h⟩ := h
    refine mm_s1 rfl ⟨nn_bd (na_13_0 NN (nn_c407 NN)) b37, ?_⟩
    show mm_Go (mm_run 1) mc_M_drops _ (38, [(0, .inr (.inr 407)), (1, .inl v1), (3, .inl v3)], [.inl (nn_ri M 408 (mm_w (v3 + 4))), .inl v3, .inr (.inr 408)], M)
    obtain ⟨b38, h⟩ := h
    refine mm_s1 rfl ⟨nn_bd (na_13_0 NN (nn_c407 NN)) b38, ?_⟩
    show mm_Go (mm_run 1) mc_M_drops _ (39, [(0, .inr (.inr 407)), (1, .inl v1), (3, .inl v3)], [], (nn_ui M 408 v3 (nn_ri M 408 (mm_w (v3 + 4)))))
    have L : nn_L (nn_ui M 408 v3 (nn_ri M 408 (mm_w (v3 + 4)))) := nn_L_ua L (congrArg Prod.fst (na_13_0 NN (nn_c407 NN))) (by decide)
    have N : (nn_ui M 408 v3 (nn_ri M 408 (mm_w (v3 + 4)))).1 = n := N
    generalize e_M38 : (nn_ui M 408 v3 (nn_ri M 408 (mm_w (v3 + 4)))) = M38 at L N ⊢
    replace h := h _ e_M38.symm
    show mm_Go (mm_run 1) mc_M_drops _ (39, [(0, .inr (.inr 407)), (1, .inl v1), (3, .inl v3)], [], M38)
    refine mm_s1 rfl ?_
    show mm_Go (mm_run 1) mc_M_drops _ (42, [(0, .inr (.inr 407)), (1, .inl v1), (3, .inl (mm_w (v3 + 1)))], [], M38)
    refine mm_s1 rfl ?_
    show mm_Go (mm_run 1) mc_M_drops _ (6, [(0, .inr (.inr 407)), (1, .inl v1), (3, .inl (mm_w (v3 + 1)))], [], M38)
    exact nn_go_ext (nn_xc rfl (nn_xc rfl (nn_xc rfl nn_xn))) (h n L N)
def nr_M_entriesOf (v1 : Int) (v2 : Int) (M : mm_M) (R : Int → mm_M → Prop) : Prop := ∀ n, nn_L M → M.1 = n → mm_run 2 mi_M_entriesOf [.inr (.inr 407), .inl v1, .inl v2] M (nw_I n R)
def nk_M_entriesOf_5 (v1 : Int) (v2 : Int) (v3 : Int) (v4 : Int) (M : mm_M) (R : Int → mm_M → Prop) : Prop := ∀ n, nn_L M → M.1 = n → mm_Go (mm_run 1) mc_M_entriesOf (nw_I n R) (5, [(0, .inr (.inr 407)), (1, .inl v1), (2, .inl v2), (3, .inl v3), (4, .inl v4)], [], M)
set_option maxRecDepth 20000 in
theorem ng_M_entriesOf (v1 : Int) (v2 : Int) (M : mm_M) (R : Int → mm_M → Prop) (h : nk_M_entriesOf_5 v1 v2 0 0 M R) : nr_M_entriesOf v1 v2 M R := by
  intro n L N 
  have NN := nn_L_n L N
  show mm_Go (mm_run 1) mc_M_entriesOf _ (0, [(0, .inr (.inr 407)), (1, .inl v1), (2, .inl v2)], [], M)
  refine mm_s1 rfl ?_
  refine mm_s1 rfl ?_
  show mm_Go (mm_run 1) mc_M_entriesOf _ (2, [(0, .inr (.inr 407)), (1, .inl v1), (2, .inl v2), (3, .inl 0)], [], M)
  refine mm_s1 rfl ?_
  refine mm_s1 rfl ?_
  show mm_Go (mm_run 1) mc_M_entriesOf _ (5, [(0, .inr (.inr 407)), (1, .inl v1), (2, .inl v2), (3, .inl 0), (4, .inl 0)], [], M)
  exact nn_go_ext (nn_xc rfl (nn_xc rfl (nn_xc rfl (nn_xc rfl (nn_xc rfl nn_xn))))) (h n L N)
set_option maxRecDepth 20000 in
theorem ng_M_entriesOf_5 (v1 : Int) (v2 : Int) (v3 : Int) (v4 : Int) (M : mm_M) (R : Int → mm_M → Prop) (h : (((0 : Int) ≤ (mm_w (v1 + 6)) ∧ (mm_w (v1 + 6)) < (32844 : Int)) ∧ (((nn_ri M 408 (mm_w (v1 + 6))) ≤ v4 → R v3 M) ∧ (v4 < (nn_ri M 408 (mm_w (v1 + 6))) → (((0 : Int) ≤ (nf_M_entryAt v1 v4) ∧ (nf_M_entryAt v1 v4) < (32844 : Int)) ∧ (((nn_ri M 408 (nf_M_entryAt v1 v4)) ≠ v2 → nk_M_entriesOf_5 v1 v2 (mm_w (v3 + 0)) (mm_w (v4 + 1)) M R) ∧ ((nn_ri M 408 (nf_M_entryAt v1 v4)) = v2 → nk_M_entriesOf_5 v1 v2 (mm_w (v3 + 1)) (mm_w (v4 + 1)) M R))))))) : nk_M_entriesOf_5 v1 v2 v3 v4 M R := by
  intro n L N 
  have NN := nn_L_n L N
  show mm_Go (mm_run 1) mc_M_entriesOf _ (5, [(0, .inr (.inr 407)), (1, .inl v1), (2, .inl v2), (3, .inl v3), (4, .inl v4)], [], M)
  refine mm_s1 rfl ?_
  refine mm_s1 rfl ?_
  refine nn_getr rfl (nn_c407 NN).1 (lf_13_0 L N (nn_c407 NN)) ?_
  refine mm_s1 rfl ?_
  refine mm_s1 rfl ?_
  show mm_Go (mm_run 1) mc_M_entriesOf _ (14, [(0, .inr (.inr 407)), (1, .inl v1), (2, .inl v2), (3, .inl v3), (4, .inl v4)], [.inl 6, .inl v1, .inr (.inr 408), .inl v4], M)
  refine mm_s1 rfl ?_
  obtain ⟨b15, h⟩ := h
  refine mm_s1 rfl ⟨nn_bd (na_13_0 NN (nn_c407 NN)) b15, ?_⟩
  show mm_Go (mm_run 1) mc_M_entriesOf _ (16, [(0, .inr (.inr 407)), (1, .inl v1), (2, .inl v2), (3, .inl v3), (4, .inl v4)], [.inl (nn_ri M 408 (mm_w (v1 + 6))), .inl v4], M)
  refine mm_s1 rfl ⟨fun c16 => ?_, fun c16 => ?_⟩
  · show mm_Go (mm_run 1) mc_M_entriesOf _ (48, [(0, .inr (.inr 407)), (1, .inl v1), (2, .inl v2), (3, .inl v3), (4, .inl v4)], [], M)
    replace h := h.1 c16
    refine mm_s1 rfl ?_
    exact mm_s1 rfl ⟨_, rfl, L, N, h⟩
  · show mm_Go (mm_run 1) mc_M_entriesOf _ (19, [(0, .inr (.inr 407)), (1, .inl v1), (2, .inl v2), (3, .inl v3), (4, .inl v4)], [], M)
    replace c16 := Int.not_le.mp c16
    replace h := h.2 c16
    refine mm_s1 rfl ?_
    refine mm_s1 rfl ?_
    refine nn_getr rfl (nn_c407 NN).1 (lf_13_0 L N (nn_c407 NN)) ?_
    refine mm_s1 rfl ?_
    refine mm_s1 rfl ?_
    show mm_Go (mm_run 1) mc_M_entriesOf _ (27, [(0, .inr (.inr 407)), (1, .inl v1), (2, .inl v2), (3, .inl v3), (4, .inl v4)], [.inl v4, .inl v1, .inr (.inr 408), .inl v3], M)
    refine mm_s1 rfl ⟨trivial, ?_⟩
    refine np_M_entryAt (by decide) L N ?_
    show mm_Go (mm_run 1) mc_M_entriesOf _ (30, [(0, .inr (.inr 407)), (1, .inl v1), (2, .inl v2), (3, .inl v3), (4, .inl v4)], [.inl (nf_M_entryAt v1 v4), .inr (.inr 408), .inl v3], M)
    obtain ⟨b30, h⟩ := h
    refine mm_s1 rfl ⟨nn_bd (na_13_0 NN (nn_c407 NN)) b30, ?_⟩
    show mm_Go (mm_run 1) mc_M_entriesOf _ (31, [(0, .inr (.inr 407)), (1, .inl v1), (2, .inl v2), (3, .inl v3), (4, .inl v4)], [.inl (nn_ri M 408 (nf_M_entryAt v1 v4)), .inl v3], M)
    refine mm_s1 rfl ?_
    refine mm_s1 rfl ⟨fun c32 => ?_, fun c32 => ?_⟩
    · show mm_Go (mm_run 1) mc_M_entriesOf _ (39, [(0, .inr (.inr 407)), (1, .inl v1), (2, .inl v2), (3, .inl v3), (4, .inl v4)], [.inl v3], M)
      replace h := h.1 c32
      refine mm_s1 rfl ?_
      refine mm_s1 rfl ?_
      refine mm_s1 rfl ?_
      show mm_Go (mm_run 1) mc_M_entriesOf _ (42, [(0, .inr (.inr 407)), (1, .inl v1), (2, .inl v2), (3, .inl (mm_w (v3 + 0))), (4, .inl v4)], [], M)
      refine mm_s1 rfl ?_
      show mm_Go (mm_run 1) mc_M_entriesOf _ (45, [(0, .inr (.inr 407)), (1, .inl v1), (2, .inl v2), (3, .inl (mm_w (v3 + 0))), (4, .inl (mm_w (v4 + 1)))], [], M)
      refine mm_s1 rfl ?_
      show mm_Go (mm_run 1) mc_M_entriesOf _ (5, [(0, .inr (.inr 407)), (1, .inl v1), (2, .inl v2), (3, .inl (mm_w (v3 + 0))), (4, .inl (mm_w (v4 + 1)))], [], M)
      exact nn_go_ext (nn_xc rfl (nn_xc rfl (nn_xc rfl (nn_xc rfl (nn_xc rfl nn_xn))))) (h n L N)
    · show mm_Go (mm_run 1) mc_M_entriesOf _ (35, [(0, .inr (.inr 407)), (1, .inl v1), (2, .inl v2), (3, .inl v3), (4, .inl v4)], [.inl v3], M)
      replace c32 := Decidable.not_not.mp c32
      replace h := h.2 c32
      refine mm_s1 rfl ?_
      refine mm_s1 rfl ?_
      show mm_Go (mm_run 1) mc_M_entriesOf _ (40, [(0, .inr (.inr 407)), (1, .inl v1), (2, .inl v2), (3, .inl v3), (4, .inl v4)], [.inl 1, .inl v3], M)
      refine mm_s1 rfl ?_
      refine mm_s1 rfl ?_
      show mm_Go (mm_run 1) mc_M_entriesOf _ (42, [(0, .inr (.inr 407)), (1, .inl v1), (2, .inl v2), (3, .inl (mm_w (v3 + 1))), (4, .inl v4)], [], M)
      refine mm_s1 rfl ?_
      show mm_Go (mm_run 1) mc_M_entriesOf _ (45, [(0, .inr (.inr 407)), (1, .inl v1), (2, .inl v2), (3, .inl (mm_w (v3 + 1))), (4, .inl (mm_w (v4 + 1)))], [], M)
      refine mm_s1 rfl ?_
      show mm_Go (mm_run 1) mc_M_entriesOf _ (5, [(0, .inr (.inr 407)), (1, .inl v1), (2, .inl v2), (3, .inl (mm_w (v3 + 1))), (4, .inl (mm_w (v4 + 1)))], [], M)
      exact nn_go_ext (nn_xc rfl (nn_xc rfl (nn_xc rfl (nn_xc rfl (nn_xc rfl nn_xn))))) (h n L N)
def nr_M_lays (v1 : Int) (v2 : Int) (v3 : Int) (v4 : Int) (v5 : Int) (M : mm_M) (R : mm_M → Prop) : Prop := ∀ n, nn_L M → M.1 = n → mm_run 2 mi_M_lays [.inr (.inr 407), .inl v1, .inl v2, .inl v3, .inl v4, .inl v5] M (nw_V n R)
set_option maxRecDepth 20000 in
theorem ng_M_lays (v1 : Int) (v2 : Int) (v3 : Int) (v4 : Int) (v5 : Int) (M : mm_M) (R : mm_M → Prop) (h : (nr_M_number v1 M (fun r11 M11 => (((0 : Int) ≤ (nf_M_head v2 v3) ∧ (nf_M_head v2 v3) < (32844 : Int)) ∧ (∀ M14 : mm_M, M14 = nn_ui M11 408 (nf_M_head v2 v3) r11 → (((0 : Int) ≤ (mm_w ((nf_M_head v2 v3) + 1)) ∧ (mm_w ((nf_M_head v2 v3) + 1)) < (32844 : Int)) ∧ (∀ M28 : mm_M, M28 = nn_ui M14 408 (mm_w ((nf_M_head v2 v3) + 1)) v4 → (((0 : Int) ≤ (mm_w ((nf_M_head v2 v3) + 2)) ∧ (mm_w ((nf_M_head v2 v3) + 2)) < (32844 : Int)) ∧ (∀ M42 : mm_M, M42 = nn_ui M28 408 (mm_w ((nf_M_head v2 v3) + 2)) v5 → R M42))))))))) : nr_M_lays v1 v2 v3 v4 v5 M R := by
  intro n L N 
  have NN := nn_L_n L N
  show mm_Go (mm_run 1) mc_M_lays _ (0, [(0, .inr (.inr 407)), (1, .inl v1), (2, .inl v2), (3, .inl v3), (4, .inl v4), (5, .inl v5)], [], M)
  refine mm_s1 rfl ?_
  refine nn_getr rfl (nn_c407 NN).1 (lf_13_0 L N (nn_c407 NN)) ?_
  refine mm_s1 rfl ?_
  refine mm_s1 rfl ?_
  refine mm_s1 rfl ⟨trivial, ?_⟩
  refine np_M_head (by decide) L N ?_
  show mm_Go (mm_run 1) mc_M_lays _ (9, [(0, .inr (.inr 407)), (1, .inl v1), (2, .inl v2), (3, .inl v3), (4, .inl v4), (5, .inl v5)], [.inl (nf_M_head v2 v3), .inr (.inr 408)], M)
  refine mm_s1 rfl ?_
  refine mm_s1 rfl ?_
  refine mm_s1 rfl ⟨(nn_c407 NN).1, ?_⟩
  refine nn_call (D := 1) (by decide) (h n L N) ?_
  intro v M11 q; clear L N h
  obtain ⟨r11, rfl, L, N, h⟩ := q
  show mm_Go (mm_run 1) mc_M_lays _ (14, [(0, .inr (.inr 407)), (1, .inl v1), (2, .inl v2), (3, .inl v3), (4, .inl v4), (5, .inl v5)], [.inl r11, .inl (nf_M_head v2 v3), .inr (.inr 408)], M11)
  obtain ⟨b14, h⟩ := h
  refine mm_s1 rfl ⟨nn_bd (na_13_0 NN (nn_c407 NN)) b14, ?_⟩
  show mm_Go (mm_run 1) mc_M_lays _ (15, [(0, .inr (.inr 407)), (1, .inl v1), (2, .inl v2), (3, .inl v3), (4, .inl v4), (5, .inl v5)], [], (nn_ui M11 408 (nf_M_head v2 v3) r11))
  have L : nn_L (nn_ui M11 408 (nf_M_head v2 v3) r11) := nn_L_ua L (congrArg Prod.fst (na_13_0 NN (nn_c407 NN))) (by decide)
  have N : (nn_ui M11 408 (nf_M_head v2 v3) r11).1 = n := N
  generalize e_M14 : (nn_ui M11 408 (nf_M_head v2 v3) r11) = M14 at L N ⊢
  replace h := h _ e_M14.symm
  show mm_Go (mm_run 1) mc_M_lays _ (15, [(0, .inr (.inr 407)), (1, .inl v1), (2, .inl v2), (3, .inl v3), (4, .inl v4), (5, .inl v5)], [], M14)
  refine mm_s1 rfl ?_
  refine nn_getr rfl (nn_c407 NN).1 (lf_13_0 L N (nn_c407 NN)) ?_
  refine mm_s1 rfl ?_
  refine mm_s1 rfl ?_
  refine mm_s1 rfl ⟨trivial, ?_⟩
  refine np_M_head (by decide) L N ?_
  show mm_Go (mm_run 1) mc_M_lays _ (24, [(0, .inr (.inr 407)), (1, .inl v1), (2, .inl v2), (3, .inl v3), (4, .inl v4), (5, .inl v5)], [.inl (nf_M_head v2 v3), .inr (.inr 408)], M14)
  refine mm_s1 rfl ?_
  refine mm_s1 rfl ?_
  refine mm_s1 rfl ?_
  obtain ⟨b28, h⟩ := h
  refine mm_s1 rfl ⟨nn_bd (na_13_0 NN (nn_c407 NN)) b28, ?_⟩
  show mm_Go (mm_run 1) mc_M_lays _ (29, [(0, .inr (.inr 407)), (1, .inl v1), (2, .inl v2), (3, .inl v3), (4, .inl v4), (5, .inl v5)], [], (nn_ui M14 408 (mm_w ((nf_M_head v2 v3) + 1)) v4))
  have L : nn_L (nn_ui M14 408 (mm_w ((nf_M_head v2 v3) + 1)) v4) := nn_L_ua L (congrArg Prod.fst (na_13_0 NN (nn_c407 NN))) (by decide)
  have N : (nn_ui M14 408 (mm_w ((nf_M_head v2 v3) + 1)) v4).1 = n := N
  generalize e_M28 : (nn_ui M14 408 (mm_w ((nf_M_head v2 v3) + 1)) v4) = M28 at L N ⊢
  replace h := h _ e_M28.symm
  show mm_Go (mm_run 1) mc_M_lays _ (29, [(0, .inr (.inr 407)), (1, .inl v1), (2, .inl v2), (3, .inl v3), (4, .inl v4), (5, .inl v5)], [], M28)
  refine mm_s1 rfl ?_
  refine nn_getr rfl (nn_c407 NN).1 (lf_13_0 L N (nn_c407 NN)) ?_
  refine mm_s1 rfl ?_
  refine mm_s1 rfl ?_
  refine mm_s1 rfl ⟨trivial, ?_⟩
  refine np_M_head (by decide) L N ?_
  show mm_Go (mm_run 1) mc_M_lays _ (38, [(0, .inr (.inr 407)), (1, .inl v1), (2, .inl v2), (3, .inl v3), (4, .inl v4), (5, .inl v5)], [.inl (nf_M_head v2 v3), .inr (.inr 408)], M28)
  refine mm_s1 rfl ?_
  refine mm_s1 rfl ?_
  refine mm_s1 rfl ?_
  obtain ⟨b42, h⟩ := h
  refine mm_s1 rfl ⟨nn_bd (na_13_0 NN (nn_c407 NN)) b42, ?_⟩
  show mm_Go (mm_run 1) mc_M_lays _ (43, [(0, .inr (.inr 407)), (1, .inl v1), (2, .inl v2), (3, .inl v3), (4, .inl v4), (5, .inl v5)], [], (nn_ui M28 408 (mm_w ((nf_M_head v2 v3) + 2)) v5))
  have L : nn_L (nn_ui M28 408 (mm_w ((nf_M_head v2 v3) + 2)) v5) := nn_L_ua L (congrArg Prod.fst (na_13_0 NN (nn_c407 NN))) (by decide)
  have N : (nn_ui M28 408 (mm_w ((nf_M_head v2 v3) + 2)) v5).1 = n := N
  generalize e_M42 : (nn_ui M28 408 (mm_w ((nf_M_head v2 v3) + 2)) v5) = M42 at L N ⊢
  replace h := h _ e_M42.symm
  show mm_Go (mm_run 1) mc_M_lays _ (43, [(0, .inr (.inr 407)), (1, .inl v1), (2, .inl v2), (3, .inl v3), (4, .inl v4), (5, .inl v5)], [], M42)
  exact mm_s1 rfl ⟨rfl, L, N, h⟩
def nf_M_levelOf (v1 : Int) (v2 : Int) (v3 : Int) (M : mm_M) : Int := (if 0 ≤ v2 then nn_ri M 408 (mm_w ((nf_M_head v2 v3) + 1)) else nn_ri M 408 (mm_w ((nf_M_runAt v1 v3) + 1)))
def nc_M_levelOf (v1 : Int) (v2 : Int) (v3 : Int) (M : mm_M) : Prop := ((0 ≤ v2 → ((0 : Int) ≤ (mm_w ((nf_M_head v2 v3) + 1)) ∧ (mm_w ((nf_M_head v2 v3) + 1)) < (32844 : Int))) ∧ (v2 < 0 → ((0 : Int) ≤ (mm_w ((nf_M_runAt v1 v3) + 1)) ∧ (mm_w ((nf_M_runAt v1 v3) + 1)) < (32844 : Int))))
set_option maxRecDepth 20000 in
theorem np_M_levelOf {v1 : Int} {v2 : Int} {v3 : Int} {M : mm_M} {n d : Nat} {P : mm_P} (hd : 2 ≤ d) (L : nn_L M) (N : M.1 = n)  (b : nc_M_levelOf v1 v2 v3 M) (h : P (some (.inl (nf_M_levelOf v1 v2 v3 M))) M) : mm_run d mi_M_levelOf [.inr (.inr 407), .inl v1, .inl v2, .inl v3] M P := by
  have NN := nn_L_n L N
  unfold nc_M_levelOf at b
  unfold nf_M_levelOf at h
  refine nn_run_le hd ?_
  show mm_Go (mm_run 1) mc_M_levelOf _ (0, [(0, .inr (.inr 407)), (1, .inl v1), (2, .inl v2), (3, .inl v3)], [], M)
  refine mm_s1 rfl ?_
  refine mm_s1 rfl ⟨fun c1 => ?_, fun c1 => ?_⟩
  · show mm_Go (mm_run 1) mc_M_levelOf _ (19, [(0, .inr (.inr 407)), (1, .inl v1), (2, .inl v2), (3, .inl v3)], [], M)
    rw [if_pos (show 0 ≤ v2 from c1)] at h
    replace b := b.1 c1
    refine mm_s1 rfl ?_
    refine nn_getr rfl (nn_c407 NN).1 (lf_13_0 L N (nn_c407 NN)) ?_
    refine mm_s1 rfl ?_
    refine mm_s1 rfl ?_
    refine mm_s1 rfl ⟨trivial, ?_⟩
    refine np_M_head (by decide) L N ?_
    show mm_Go (mm_run 1) mc_M_levelOf _ (28, [(0, .inr (.inr 407)), (1, .inl v1), (2, .inl v2), (3, .inl v3)], [.inl (nf_M_head v2 v3), .inr (.inr 408)], M)
    refine mm_s1 rfl ?_
    refine mm_s1 rfl ?_
    have b30 := b
    refine mm_s1 rfl ⟨nn_bd (na_13_0 NN (nn_c407 NN)) b30, ?_⟩
    show mm_Go (mm_run 1) mc_M_levelOf _ (31, [(0, .inr (.inr 407)), (1, .inl v1), (2, .inl v2), (3, .inl v3)], [.inl (nn_ri M 408 (mm_w ((nf_M_head v2 v3) + 1)))], M)
    exact mm_s1 rfl h
  · show mm_Go (mm_run 1) mc_M_levelOf _ (4, [(0, .inr (.inr 407)), (1, .inl v1), (2, .inl v2), (3, .inl v3)], [], M)
    rw [if_neg (show ¬ (0 ≤ v2) from c1)] at h
    replace c1 := Int.not_le.mp c1
    replace b := b.2 c1
    refine mm_s1 rfl ?_
    refine nn_getr rfl (nn_c407 NN).1 (lf_13_0 L N (nn_c407 NN)) ?_
    refine mm_s1 rfl ?_
    refine mm_s1 rfl ?_
    refine mm_s1 rfl ⟨trivial, ?_⟩
    refine np_M_runAt (by decide) L N ?_
    show mm_Go (mm_run 1) mc_M_levelOf _ (13, [(0, .inr (.inr 407)), (1, .inl v1), (2, .inl v2), (3, .inl v3)], [.inl (nf_M_runAt v1 v3), .inr (.inr 408)], M)
    refine mm_s1 rfl ?_
    refine mm_s1 rfl ?_
    have b15 := b
    refine mm_s1 rfl ⟨nn_bd (na_13_0 NN (nn_c407 NN)) b15, ?_⟩
    show mm_Go (mm_run 1) mc_M_levelOf _ (16, [(0, .inr (.inr 407)), (1, .inl v1), (2, .inl v2), (3, .inl v3)], [.inl (nn_ri M 408 (mm_w ((nf_M_runAt v1 v3) + 1)))], M)
    refine mm_s1 rfl ?_
    show mm_Go (mm_run 1) mc_M_levelOf _ (31, [(0, .inr (.inr 407)), (1, .inl v1), (2, .inl v2), (3, .inl v3)], [.inl (nn_ri M 408 (mm_w ((nf_M_runAt v1 v3) + 1)))], M)
    exact mm_s1 rfl h
def nr_M_oldest (v1 : Int) (v2 : Int) (M : mm_M) (R : Int → mm_M → Prop) : Prop := ∀ n, nn_L M → M.1 = n → mm_run 2 mi_M_oldest [.inr (.inr 407), .inl v1, .inl v2] M (nw_I n R)
def nk_M_oldest_35 (v3 : Int) (v4 : Int) (v5 : Int) (M : mm_M) (R : Int → mm_M → Prop) : Prop := ∀ n, nn_L M → M.1 = n → mm_Go (mm_run 1) mc_M_oldest (nw_I n R) (35, [(0, .inr (.inr 407)), (3, .inl v3), (4, .inl v4), (5, .inl v5)], [], M)
set_option maxRecDepth 20000 in
theorem ng_M_oldest (v1 : Int) (v2 : Int) (M : mm_M) (R : Int → mm_M → Prop) (h : (((0 : Int) ≤ (mm_w ((nf_M_at v1 v2) + 0)) ∧ (mm_w ((nf_M_at v1 v2) + 0)) < (32844 : Int)) ∧ (((nn_ri M 408 (mm_w ((nf_M_at v1 v2) + 0))) ≠ 1 → nk_M_oldest_35 (nf_M_at v1 v2) (-1) 0 M R) ∧ ((nn_ri M 408 (mm_w ((nf_M_at v1 v2) + 0))) = 1 → (((0 : Int) ≤ (mm_w ((nf_M_at v1 v2) + 3)) ∧ (mm_w ((nf_M_at v1 v2) + 3)) < (32844 : Int)) ∧ (∀ x4_30 : Int, x4_30 = nn_ri M 408 (mm_w ((nf_M_at v1 v2) + 3)) → nk_M_oldest_35 (nf_M_at v1 v2) x4_30 0 M R)))))) : nr_M_oldest v1 v2 M R := by
  intro n L N 
  have NN := nn_L_n L N
  show mm_Go (mm_run 1) mc_M_oldest _ (0, [(0, .inr (.inr 407)), (1, .inl v1), (2, .inl v2)], [], M)
  refine mm_s1 rfl ?_
  refine mm_s1 rfl ?_
  refine mm_s1 rfl ⟨trivial, ?_⟩
  refine np_M_at (by decide) L N ?_
  show mm_Go (mm_run 1) mc_M_oldest _ (5, [(0, .inr (.inr 407)), (1, .inl v1), (2, .inl v2)], [.inl (nf_M_at v1 v2)], M)
  refine mm_s1 rfl ?_
  show mm_Go (mm_run 1) mc_M_oldest _ (6, [(0, .inr (.inr 407)), (1, .inl v1), (2, .inl v2), (3, .inl (nf_M_at v1 v2))], [], M)
  refine mm_s1 rfl ?_
  refine nn_getr rfl (nn_c407 NN).1 (lf_13_0 L N (nn_c407 NN)) ?_
  refine mm_s1 rfl ?_
  refine mm_s1 rfl ?_
  refine mm_s1 rfl ?_
  show mm_Go (mm_run 1) mc_M_oldest _ (13, [(0, .inr (.inr 407)), (1, .inl v1), (2, .inl v2), (3, .inl (nf_M_at v1 v2))], [.inl (mm_w ((nf_M_at v1 v2) + 0)), .inr (.inr 408)], M)
  obtain ⟨b13, h⟩ := h
  refine mm_s1 rfl ⟨nn_bd (na_13_0 NN (nn_c407 NN)) b13, ?_⟩
  show mm_Go (mm_run 1) mc_M_oldest _ (14, [(0, .inr (.inr 407)), (1, .inl v1), (2, .inl v2), (3, .inl (nf_M_at v1 v2))], [.inl (nn_ri M 408 (mm_w ((nf_M_at v1 v2) + 0)))], M)
  refine mm_s1 rfl ?_
  refine mm_s1 rfl ⟨fun c15 => ?_, fun c15 => ?_⟩
  · show mm_Go (mm_run 1) mc_M_oldest _ (29, [(0, .inr (.inr 407)), (1, .inl v1), (2, .inl v2), (3, .inl (nf_M_at v1 v2))], [], M)
    replace h := h.1 c15
    refine mm_s1 rfl ?_
    refine mm_s1 rfl ?_
    show mm_Go (mm_run 1) mc_M_oldest _ (32, [(0, .inr (.inr 407)), (1, .inl v1), (2, .inl v2), (3, .inl (nf_M_at v1 v2)), (4, .inl (-1))], [], M)
    refine mm_s1 rfl ?_
    refine mm_s1 rfl ?_
    show mm_Go (mm_run 1) mc_M_oldest _ (35, [(0, .inr (.inr 407)), (1, .inl v1), (2, .inl v2), (3, .inl (nf_M_at v1 v2)), (4, .inl (-1)), (5, .inl 0)], [], M)
    exact nn_go_ext (nn_xc rfl (nn_xc rfl (nn_xc rfl (nn_xc rfl nn_xn)))) (h n L N)
  · show mm_Go (mm_run 1) mc_M_oldest _ (18, [(0, .inr (.inr 407)), (1, .inl v1), (2, .inl v2), (3, .inl (nf_M_at v1 v2))], [], M)
    replace c15 := Decidable.not_not.mp c15
    replace h := h.2 c15
    refine mm_s1 rfl ?_
    refine nn_getr rfl (nn_c407 NN).1 (lf_13_0 L N (nn_c407 NN)) ?_
    refine mm_s1 rfl ?_
    refine mm_s1 rfl ?_
    refine mm_s1 rfl ?_
    show mm_Go (mm_run 1) mc_M_oldest _ (25, [(0, .inr (.inr 407)), (1, .inl v1), (2, .inl v2), (3, .inl (nf_M_at v1 v2))], [.inl (mm_w ((nf_M_at v1 v2) + 3)), .inr (.inr 408)], M)
    obtain ⟨b25, h⟩ := h
    refine mm_s1 rfl ⟨nn_bd (na_13_0 NN (nn_c407 NN)) b25, ?_⟩
    show mm_Go (mm_run 1) mc_M_oldest _ (26, [(0, .inr (.inr 407)), (1, .inl v1), (2, .inl v2), (3, .inl (nf_M_at v1 v2))], [.inl (nn_ri M 408 (mm_w ((nf_M_at v1 v2) + 3)))], M)
    refine mm_s1 rfl ?_
    show mm_Go (mm_run 1) mc_M_oldest _ (30, [(0, .inr (.inr 407)), (1, .inl v1), (2, .inl v2), (3, .inl (nf_M_at v1 v2))], [.inl (nn_ri M 408 (mm_w ((nf_M_at v1 v2) + 3)))], M)
    refine mm_s1 rfl ?_
    show mm_Go (mm_run 1) mc_M_oldest _ (32, [(0, .inr (.inr 407)), (1, .inl v1), (2, .inl v2), (3, .inl (nf_M_at v1 v2)), (4, .inl (nn_ri M 408 (mm_w ((nf_M_at v1 v2) + 3))))], [], M)
    generalize e_x4_30 : (nn_ri M 408 (mm_w ((nf_M_at v1 v2) + 3))) = x4_30
    replace h := h _ e_x4_30.symm
    show mm_Go (mm_run 1) mc_M_oldest _ (32, [(0, .inr (.inr 407)), (1, .inl v1), (2, .inl v2), (3, .inl (nf_M_at v1 v2)), (4, .inl x4_30)], [], M)
    refine mm_s1 rfl ?_
    refine mm_s1 rfl ?_
    show mm_Go (mm_run 1) mc_M_oldest _ (35, [(0, .inr (.inr 407)), (1, .inl v1), (2, .inl v2), (3, .inl (nf_M_at v1 v2)), (4, .inl x4_30), (5, .inl 0)], [], M)
    exact nn_go_ext (nn_xc rfl (nn_xc rfl (nn_xc rfl (nn_xc rfl nn_xn)))) (h n L N)
set_option maxRecDepth 20000 in
theorem ng_M_oldest_35 (v3 : Int) (v4 : Int) (v5 : Int) (M : mm_M) (R : Int → mm_M → Prop) (h : (((0 : Int) ≤ (mm_w (v3 + 5)) ∧ (mm_w (v3 + 5)) < (32844 : Int)) ∧ (((nn_ri M 408 (mm_w (v3 + 5))) ≤ v5 → R v4 M) ∧ (v5 < (nn_ri M 408 (mm_w (v3 + 5))) → (((v4 = (-1)) → ((0 : Int) ≤ (mm_w ((nf_M_head v3 v5) + 2)) ∧ (mm_w ((nf_M_head v3 v5) + 2)) < (32844 : Int))) ∧ ((v4 ≠ (-1)) → ((0 : Int) ≤ (mm_w ((nf_M_head v3 v5) + 2)) ∧ (mm_w ((nf_M_head v3 v5) + 2)) < (32844 : Int))) ∧ ((v4 ≠ (-1)) ∧ ((nn_ri M 408 (mm_w ((nf_M_head v3 v5) + 2))) < v4) → ((0 : Int) ≤ (mm_w ((nf_M_head v3 v5) + 2)) ∧ (mm_w ((nf_M_head v3 v5) + 2)) < (32844 : Int))) ∧ ((v4 = (-1) ∨ ((nn_ri M 408 (mm_w ((nf_M_head v3 v5) + 2))) < v4)) → (∀ x4_90 : Int, x4_90 = nn_ri M 408 (mm_w ((nf_M_head v3 v5) + 2)) → nk_M_oldest_35 v3 x4_90 (mm_w (v5 + 1)) M R)) ∧ ((v4 ≠ (-1) ∧ (v4 ≤ (nn_ri M 408 (mm_w ((nf_M_head v3 v5) + 2))))) → nk_M_oldest_35 v3 v4 (mm_w (v5 + 1)) M R)))))) : nk_M_oldest_35 v3 v4 v5 M R := by
  intro n L N 
  have NN := nn_L_n L N
  show mm_Go (mm_run 1) mc_M_oldest _ (35, [(0, .inr (.inr 407)), (3, .inl v3), (4, .inl v4), (5, .inl v5)], [], M)
  refine mm_s1 rfl ?_
  refine mm_s1 rfl ?_
  refine nn_getr rfl (nn_c407 NN).1 (lf_13_0 L N (nn_c407 NN)) ?_
  refine mm_s1 rfl ?_
  refine mm_s1 rfl ?_
  show mm_Go (mm_run 1) mc_M_oldest _ (43, [(0, .inr (.inr 407)), (3, .inl v3), (4, .inl v4), (5, .inl v5)], [.inl 5, .inl v3, .inr (.inr 408), .inl v5], M)
  refine mm_s1 rfl ?_
  obtain ⟨b44, h⟩ := h
  refine mm_s1 rfl ⟨nn_bd (na_13_0 NN (nn_c407 NN)) b44, ?_⟩
  show mm_Go (mm_run 1) mc_M_oldest _ (45, [(0, .inr (.inr 407)), (3, .inl v3), (4, .inl v4), (5, .inl v5)], [.inl (nn_ri M 408 (mm_w (v3 + 5))), .inl v5], M)
  refine mm_s1 rfl ⟨fun c45 => ?_, fun c45 => ?_⟩
  · show mm_Go (mm_run 1) mc_M_oldest _ (98, [(0, .inr (.inr 407)), (3, .inl v3), (4, .inl v4), (5, .inl v5)], [], M)
    replace h := h.1 c45
    refine mm_s1 rfl ?_
    exact mm_s1 rfl ⟨_, rfl, L, N, h⟩
  · show mm_Go (mm_run 1) mc_M_oldest _ (48, [(0, .inr (.inr 407)), (3, .inl v3), (4, .inl v4), (5, .inl v5)], [], M)
    replace c45 := Int.not_le.mp c45
    replace h := h.2 c45
    refine mm_s1 rfl ?_
    refine mm_s1 rfl ?_
    refine mm_s1 rfl ⟨fun c51 => ?_, fun c51 => ?_⟩
    · show mm_Go (mm_run 1) mc_M_oldest _ (72, [(0, .inr (.inr 407)), (3, .inl v3), (4, .inl v4), (5, .inl v5)], [], M)
      refine mm_s1 rfl ?_
      refine nn_getr rfl (nn_c407 NN).1 (lf_13_0 L N (nn_c407 NN)) ?_
      refine mm_s1 rfl ?_
      refine mm_s1 rfl ?_
      refine mm_s1 rfl ⟨trivial, ?_⟩
      refine np_M_head (by decide) L N ?_
      show mm_Go (mm_run 1) mc_M_oldest _ (82, [(0, .inr (.inr 407)), (3, .inl v3), (4, .inl v4), (5, .inl v5)], [.inl (nf_M_head v3 v5), .inr (.inr 408)], M)
      refine mm_s1 rfl ?_
      refine mm_s1 rfl ?_
      have b84 := h.1 c51
      refine mm_s1 rfl ⟨nn_bd (na_13_0 NN (nn_c407 NN)) b84, ?_⟩
      show mm_Go (mm_run 1) mc_M_oldest _ (85, [(0, .inr (.inr 407)), (3, .inl v3), (4, .inl v4), (5, .inl v5)], [.inl (nn_ri M 408 (mm_w ((nf_M_head v3 v5) + 2)))], M)
      refine mm_s1 rfl ?_
      show mm_Go (mm_run 1) mc_M_oldest _ (90, [(0, .inr (.inr 407)), (3, .inl v3), (4, .inl v4), (5, .inl v5)], [.inl (nn_ri M 408 (mm_w ((nf_M_head v3 v5) + 2)))], M)
      replace h := h.2.2.2.1 (Or.inl c51)
      refine mm_s1 rfl ?_
      show mm_Go (mm_run 1) mc_M_oldest _ (92, [(0, .inr (.inr 407)), (3, .inl v3), (4, .inl (nn_ri M 408 (mm_w ((nf_M_head v3 v5) + 2)))), (5, .inl v5)], [], M)
      generalize e_x4_90 : (nn_ri M 408 (mm_w ((nf_M_head v3 v5) + 2))) = x4_90
      replace h := h _ e_x4_90.symm
      show mm_Go (mm_run 1) mc_M_oldest _ (92, [(0, .inr (.inr 407)), (3, .inl v3), (4, .inl x4_90), (5, .inl v5)], [], M)
      refine mm_s1 rfl ?_
      show mm_Go (mm_run 1) mc_M_oldest _ (95, [(0, .inr (.inr 407)), (3, .inl v3), (4, .inl x4_90), (5, .inl (mm_w (v5 + 1)))], [], M)
      refine mm_s1 rfl ?_
      show mm_Go (mm_run 1) mc_M_oldest _ (35, [(0, .inr (.inr 407)), (3, .inl v3), (4, .inl x4_90), (5, .inl (mm_w (v5 + 1)))], [], M)
      exact nn_go_ext (nn_xc rfl (nn_xc rfl (nn_xc rfl (nn_xc rfl nn_xn)))) (h n L N)
    · show mm_Go (mm_run 1) mc_M_oldest _ (54, [(0, .inr (.inr 407)), (3, .inl v3), (4, .inl v4), (5, .inl v5)], [], M)
      refine mm_s1 rfl ?_
      refine nn_getr rfl (nn_c407 NN).1 (lf_13_0 L N (nn_c407 NN)) ?_
      refine mm_s1 rfl ?_
      refine mm_s1 rfl ?_
      refine mm_s1 rfl ⟨trivial, ?_⟩
      refine np_M_head (by decide) L N ?_
      show mm_Go (mm_run 1) mc_M_oldest _ (64, [(0, .inr (.inr 407)), (3, .inl v3), (4, .inl v4), (5, .inl v5)], [.inl (nf_M_head v3 v5), .inr (.inr 408)], M)
      refine mm_s1 rfl ?_
      refine mm_s1 rfl ?_
      have b66 := h.2.1 c51
      refine mm_s1 rfl ⟨nn_bd (na_13_0 NN (nn_c407 NN)) b66, ?_⟩
      show mm_Go (mm_run 1) mc_M_oldest _ (67, [(0, .inr (.inr 407)), (3, .inl v3), (4, .inl v4), (5, .inl v5)], [.inl (nn_ri M 408 (mm_w ((nf_M_head v3 v5) + 2)))], M)
      refine mm_s1 rfl ?_
      refine mm_s1 rfl ⟨fun c69 => ?_, fun c69 => ?_⟩
      · show mm_Go (mm_run 1) mc_M_oldest _ (88, [(0, .inr (.inr 407)), (3, .inl v3), (4, .inl v4), (5, .inl v5)], [], M)
        refine mm_s1 rfl ?_
        refine mm_s1 rfl ?_
        show mm_Go (mm_run 1) mc_M_oldest _ (92, [(0, .inr (.inr 407)), (3, .inl v3), (4, .inl v4), (5, .inl v5)], [], M)
        refine mm_s1 rfl ?_
        show mm_Go (mm_run 1) mc_M_oldest _ (95, [(0, .inr (.inr 407)), (3, .inl v3), (4, .inl v4), (5, .inl (mm_w (v5 + 1)))], [], M)
        refine mm_s1 rfl ?_
        show mm_Go (mm_run 1) mc_M_oldest _ (35, [(0, .inr (.inr 407)), (3, .inl v3), (4, .inl v4), (5, .inl (mm_w (v5 + 1)))], [], M)
        replace h := h.2.2.2.2 ⟨c51, c69⟩
        exact nn_go_ext (nn_xc rfl (nn_xc rfl (nn_xc rfl (nn_xc rfl nn_xn)))) (h n L N)
      · show mm_Go (mm_run 1) mc_M_oldest _ (72, [(0, .inr (.inr 407)), (3, .inl v3), (4, .inl v4), (5, .inl v5)], [], M)
        replace c69 := Int.not_le.mp c69
        refine mm_s1 rfl ?_
        refine nn_getr rfl (nn_c407 NN).1 (lf_13_0 L N (nn_c407 NN)) ?_
        refine mm_s1 rfl ?_
        refine mm_s1 rfl ?_
        refine mm_s1 rfl ⟨trivial, ?_⟩
        refine np_M_head (by decide) L N ?_
        show mm_Go (mm_run 1) mc_M_oldest _ (82, [(0, .inr (.inr 407)), (3, .inl v3), (4, .inl v4), (5, .inl v5)], [.inl (nf_M_head v3 v5), .inr (.inr 408)], M)
        refine mm_s1 rfl ?_
        refine mm_s1 rfl ?_
        have b84 := h.2.2.1 ⟨c51, c69⟩
        refine mm_s1 rfl ⟨nn_bd (na_13_0 NN (nn_c407 NN)) b84, ?_⟩
        show mm_Go (mm_run 1) mc_M_oldest _ (85, [(0, .inr (.inr 407)), (3, .inl v3), (4, .inl v4), (5, .inl v5)], [.inl (nn_ri M 408 (mm_w ((nf_M_head v3 v5) + 2)))], M)
        refine mm_s1 rfl ?_
        show mm_Go (mm_run 1) mc_M_oldest _ (90, [(0, .inr (.inr 407)), (3, .inl v3), (4, .inl v4), (5, .inl v5)], [.inl (nn_ri M 408 (mm_w ((nf_M_head v3 v5) + 2)))], M)
        replace h := h.2.2.2.1 (Or.inr c69)
        refine mm_s1 rfl ?_
        show mm_Go (mm_run 1) mc_M_oldest _ (92, [(0, .inr (.inr 407)), (3, .inl v3), (4, .inl (nn_ri M 408 (mm_w ((nf_M_head v3 v5) + 2)))), (5, .inl v5)], [], M)
        generalize e_x4_90 : (nn_ri M 408 (mm_w ((nf_M_head v3 v5) + 2))) = x4_90
        replace h := h _ e_x4_90.symm
        show mm_Go (mm_run 1) mc_M_oldest _ (92, [(0, .inr (.inr 407)), (3, .inl v3), (4, .inl x4_90), (5, .inl v5)], [], M)
        refine mm_s1 rfl ?_
        show mm_Go (mm_run 1) mc_M_oldest _ (95, [(0, .inr (.inr 407)), (3, .inl v3), (4, .inl x4_90), (5, .inl (mm_w (v5 + 1)))], [], M)
        refine mm_s1 rfl ?_
        show mm_Go (mm_run 1) mc_M_oldest _ (35, [(0, .inr (.inr 407)), (3, .inl v3), (4, .inl x4_90), (5, .inl (mm_w (v5 + 1)))], [], M)
        exact nn_go_ext (nn_xc rfl (nn_xc rfl (nn_xc rfl (nn_xc rfl nn_xn)))) (h n L N)
def nr_M_tableGoes (v1 : Int) (v2 : Int) (M : mm_M) (R : mm_M → Prop) : Prop := ∀ n, nn_L M → M.1 = n → mm_run 2 mi_M_tableGoes [.inr (.inr 407), .inl v1, .inl v2] M (nw_V n R)
def nk_M_tableGoes_6 (v1 : Int) (v3 : Int) (M : mm_M) (R : mm_M → Prop) : Prop := ∀ n, nn_L M → M.1 = n → mm_Go (mm_run 1) mc_M_tableGoes (nw_V n R) (6, [(0, .inr (.inr 407)), (1, .inl v1), (3, .inl v3)], [], M)
set_option maxRecDepth 20000 in
theorem ng_M_tableGoes (v1 : Int) (v2 : Int) (M : mm_M) (R : mm_M → Prop) (h : nk_M_tableGoes_6 v1 (nf_M_runAt v1 v2) M R) : nr_M_tableGoes v1 v2 M R := by
  intro n L N 
  have NN := nn_L_n L N
  show mm_Go (mm_run 1) mc_M_tableGoes _ (0, [(0, .inr (.inr 407)), (1, .inl v1), (2, .inl v2)], [], M)
  refine mm_s1 rfl ?_
  refine mm_s1 rfl ?_
  refine mm_s1 rfl ⟨trivial, ?_⟩
  refine np_M_runAt (by decide) L N ?_
  show mm_Go (mm_run 1) mc_M_tableGoes _ (5, [(0, .inr (.inr 407)), (1, .inl v1), (2, .inl v2)], [.inl (nf_M_runAt v1 v2)], M)
  refine mm_s1 rfl ?_
  show mm_Go (mm_run 1) mc_M_tableGoes _ (6, [(0, .inr (.inr 407)), (1, .inl v1), (2, .inl v2), (3, .inl (nf_M_runAt v1 v2))], [], M)
  exact nn_go_ext (nn_xc rfl (nn_xc rfl (nn_xc rfl nn_xn))) (h n L N)
set_option maxRecDepth 20000 in
theorem ng_M_tableGoes_6 (v1 : Int) (v3 : Int) (M : mm_M) (R : mm_M → Prop) (h : (((0 : Int) ≤ (mm_w (v1 + 5)) ∧ (mm_w (v1 + 5)) < (32844 : Int)) ∧ (((nf_M_runAt v1 (mm_w ((nn_ri M 408 (mm_w (v1 + 5))) - 1))) ≤ v3 → (((0 : Int) ≤ (mm_w (v1 + 5)) ∧ (mm_w (v1 + 5)) < (32844 : Int)) ∧ (((0 : Int) ≤ (mm_w (v1 + 5)) ∧ (mm_w (v1 + 5)) < (32844 : Int)) ∧ (∀ M56 : mm_M, M56 = nn_ui M 408 (mm_w (v1 + 5)) (mm_w ((nn_ri M 408 (mm_w (v1 + 5))) - 1)) → R M56)))) ∧ (v3 < (nf_M_runAt v1 (mm_w ((nn_ri M 408 (mm_w (v1 + 5))) - 1))) → (((0 : Int) ≤ (mm_w (v3 + 68)) ∧ (mm_w (v3 + 68)) < (32844 : Int)) ∧ (((0 : Int) ≤ v3 ∧ v3 < (32844 : Int)) ∧ (∀ M38 : mm_M, M38 = nn_ui M 408 v3 (nn_ri M 408 (mm_w (v3 + 68))) → nk_M_tableGoes_6 v1 (mm_w (v3 + 1)) M38 R))))))) : nk_M_tableGoes_6 v1 v3 M R := by
  intro n L N 
  have NN := nn_L_n L N
  show mm_Go (mm_run 1) mc_M_tableGoes _ (6, [(0, .inr (.inr 407)), (1, .inl v1), (3, .inl v3)], [], M)
  refine mm_s1 rfl ?_
  refine mm_s1 rfl ?_
  refine mm_s1 rfl ?_
  refine nn_getr rfl (nn_c407 NN).1 (lf_13_0 L N (nn_c407 NN)) ?_
  refine mm_s1 rfl ?_
  show mm_Go (mm_run 1) mc_M_tableGoes _ (13, [(0, .inr (.inr 407)), (1, .inl v1), (3, .inl v3)], [.inl v1, .inr (.inr 408), .inl v1, .inl v3], M)
  refine mm_s1 rfl ?_
  refine mm_s1 rfl ?_
  obtain ⟨b15, h⟩ := h
  refine mm_s1 rfl ⟨nn_bd (na_13_0 NN (nn_c407 NN)) b15, ?_⟩
  show mm_Go (mm_run 1) mc_M_tableGoes _ (16, [(0, .inr (.inr 407)), (1, .inl v1), (3, .inl v3)], [.inl (nn_ri M 408 (mm_w (v1 + 5))), .inl v1, .inl v3], M)
  refine mm_s1 rfl ?_
  refine mm_s1 rfl ?_
  refine mm_s1 rfl ⟨trivial, ?_⟩
  refine np_M_runAt (by decide) L N ?_
  show mm_Go (mm_run 1) mc_M_tableGoes _ (21, [(0, .inr (.inr 407)), (1, .inl v1), (3, .inl v3)], [.inl (nf_M_runAt v1 (mm_w ((nn_ri M 408 (mm_w (v1 + 5))) - 1))), .inl v3], M)
  refine mm_s1 rfl ⟨fun c21 => ?_, fun c21 => ?_⟩
  · show mm_Go (mm_run 1) mc_M_tableGoes _ (45, [(0, .inr (.inr 407)), (1, .inl v1), (3, .inl v3)], [], M)
    replace h := h.1 c21
    refine mm_s1 rfl ?_
    refine nn_getr rfl (nn_c407 NN).1 (lf_13_0 L N (nn_c407 NN)) ?_
    refine mm_s1 rfl ?_
    refine mm_s1 rfl ?_
    refine mm_s1 rfl ?_
    show mm_Go (mm_run 1) mc_M_tableGoes _ (52, [(0, .inr (.inr 407)), (1, .inl v1), (3, .inl v3)], [.inl (mm_w (v1 + 5)), .inr (.inr 408)], M)
    refine mm_s1 rfl ?_
    obtain ⟨b53, h⟩ := h
    refine mm_s1 rfl ⟨nn_bd (na_13_0 NN (nn_c407 NN)) b53, ?_⟩
    show mm_Go (mm_run 1) mc_M_tableGoes _ (54, [(0, .inr (.inr 407)), (1, .inl v1), (3, .inl v3)], [.inl (nn_ri M 408 (mm_w (v1 + 5))), .inl (mm_w (v1 + 5)), .inr (.inr 408)], M)
    refine mm_s1 rfl ?_
    refine mm_s1 rfl ?_
    obtain ⟨b56, h⟩ := h
    refine mm_s1 rfl ⟨nn_bd (na_13_0 NN (nn_c407 NN)) b56, ?_⟩
    show mm_Go (mm_run 1) mc_M_tableGoes _ (57, [(0, .inr (.inr 407)), (1, .inl v1), (3, .inl v3)], [], (nn_ui M 408 (mm_w (v1 + 5)) (mm_w ((nn_ri M 408 (mm_w (v1 + 5))) - 1))))
    have L : nn_L (nn_ui M 408 (mm_w (v1 + 5)) (mm_w ((nn_ri M 408 (mm_w (v1 + 5))) - 1))) := nn_L_ua L (congrArg Prod.fst (na_13_0 NN (nn_c407 NN))) (by decide)
    have N : (nn_ui M 408 (mm_w (v1 + 5)) (mm_w ((nn_ri M 408 (mm_w (v1 + 5))) - 1))).1 = n := N
    generalize e_M56 : (nn_ui M 408 (mm_w (v1 + 5)) (mm_w ((nn_ri M 408 (mm_w (v1 + 5))) - 1))) = M56 at L N ⊢
    replace h := h _ e_M56.symm
    show mm_Go (mm_run 1) mc_M_tableGoes _ (57, [(0, .inr (.inr 407)), (1, .inl v1), (3, .inl v3)], [], M56)
    exact mm_s1 rfl ⟨rfl, L, N, h⟩
  · show mm_Go (mm_run 1) mc_M_tableGoes _ (24, [(0, .inr (.inr 407)), (1, .inl v1), (3, .inl v3)], [], M)
    replace c21 := Int.not_le.mp c21
    replace h := h.2 c21
    refine mm_s1 rfl ?_
    refine nn_getr rfl (nn_c407 NN).1 (lf_13_0 L N (nn_c407 NN)) ?_
    refine mm_s1 rfl ?_
    refine mm_s1 rfl ?_
    refine nn_getr rfl (nn_c407 NN).1 (lf_13_0 L N (nn_c407 NN)) ?_
    show mm_Go (mm_run 1) mc_M_tableGoes _ (33, [(0, .inr (.inr 407)), (1, .inl v1), (3, .inl v3)], [.inr (.inr 408), .inl v3, .inr (.inr 408)], M)
    refine mm_s1 rfl ?_
    refine mm_s1 rfl ?_
    refine mm_s1 rfl ?_
    obtain ⟨b37, h⟩ := h
    refine mm_s1 rfl ⟨nn_bd (na_13_0 NN (nn_c407 NN)) b37, ?_⟩
    show mm_Go (mm_run 1) mc_M_tableGoes _ (38, [(0, .inr (.inr 407)), (1, .inl v1), (3, .inl v3)], [.inl (nn_ri M 408 (mm_w (v3 + 68))), .inl v3, .inr (.inr 408)], M)
    obtain ⟨b38, h⟩ := h
    refine mm_s1 rfl ⟨nn_bd (na_13_0 NN (nn_c407 NN)) b38, ?_⟩
    show mm_Go (mm_run 1) mc_M_tableGoes _ (39, [(0, .inr (.inr 407)), (1, .inl v1), (3, .inl v3)], [], (nn_ui M 408 v3 (nn_ri M 408 (mm_w (v3 + 68)))))
    have L : nn_L (nn_ui M 408 v3 (nn_ri M 408 (mm_w (v3 + 68)))) := nn_L_ua L (congrArg Prod.fst (na_13_0 NN (nn_c407 NN))) (by decide)
    have N : (nn_ui M 408 v3 (nn_ri M 408 (mm_w (v3 + 68)))).1 = n := N
    generalize e_M38 : (nn_ui M 408 v3 (nn_ri M 408 (mm_w (v3 + 68)))) = M38 at L N ⊢
    replace h := h _ e_M38.symm
    show mm_Go (mm_run 1) mc_M_tableGoes _ (39, [(0, .inr (.inr 407)), (1, .inl v1), (3, .inl v3)], [], M38)
    refine mm_s1 rfl ?_
    show mm_Go (mm_run 1) mc_M_tableGoes _ (42, [(0, .inr (.inr 407)), (1, .inl v1), (3, .inl (mm_w (v3 + 1)))], [], M38)
    refine mm_s1 rfl ?_
    show mm_Go (mm_run 1) mc_M_tableGoes _ (6, [(0, .inr (.inr 407)), (1, .inl v1), (3, .inl (mm_w (v3 + 1)))], [], M38)
    exact nn_go_ext (nn_xc rfl (nn_xc rfl (nn_xc rfl nn_xn))) (h n L N)
def nr_M_runGoes (v1 : Int) (v2 : Int) (M : mm_M) (R : mm_M → Prop) : Prop := ∀ n, nn_L M → M.1 = n → mm_run 2 mi_M_runGoes [.inr (.inr 407), .inl v1, .inl v2] M (nw_V n R)
def nk_M_runGoes_6 (v1 : Int) (v2 : Int) (v3 : Int) (M : mm_M) (R : mm_M → Prop) : Prop := ∀ n, nn_L M → M.1 = n → mm_Go (mm_run 1) mc_M_runGoes (nw_V n R) (6, [(0, .inr (.inr 407)), (1, .inl v1), (2, .inl v2), (3, .inl v3)], [], M)
def nk_M_runGoes_58 (v1 : Int) (v2 : Int) (v3 : Int) (M : mm_M) (R : mm_M → Prop) : Prop := ∀ n, nn_L M → M.1 = n → mm_Go (mm_run 1) mc_M_runGoes (nw_V n R) (58, [(0, .inr (.inr 407)), (1, .inl v1), (2, .inl v2), (3, .inl v3)], [], M)
set_option maxRecDepth 20000 in
theorem ng_M_runGoes (v1 : Int) (v2 : Int) (M : mm_M) (R : mm_M → Prop) (h : nk_M_runGoes_6 v1 v2 (nf_M_head v1 v2) M R) : nr_M_runGoes v1 v2 M R := by
  intro n L N 
  have NN := nn_L_n L N
  show mm_Go (mm_run 1) mc_M_runGoes _ (0, [(0, .inr (.inr 407)), (1, .inl v1), (2, .inl v2)], [], M)
  refine mm_s1 rfl ?_
  refine mm_s1 rfl ?_
  refine mm_s1 rfl ⟨trivial, ?_⟩
  refine np_M_head (by decide) L N ?_
  show mm_Go (mm_run 1) mc_M_runGoes _ (5, [(0, .inr (.inr 407)), (1, .inl v1), (2, .inl v2)], [.inl (nf_M_head v1 v2)], M)
  refine mm_s1 rfl ?_
  show mm_Go (mm_run 1) mc_M_runGoes _ (6, [(0, .inr (.inr 407)), (1, .inl v1), (2, .inl v2), (3, .inl (nf_M_head v1 v2))], [], M)
  exact nn_go_ext (nn_xc rfl (nn_xc rfl (nn_xc rfl (nn_xc rfl nn_xn)))) (h n L N)
set_option maxRecDepth 20000 in
theorem ng_M_runGoes_6 (v1 : Int) (v2 : Int) (v3 : Int) (M : mm_M) (R : mm_M → Prop) (h : (((0 : Int) ≤ (mm_w (v1 + 5)) ∧ (mm_w (v1 + 5)) < (32844 : Int)) ∧ (((nf_M_head v1 (mm_w ((nn_ri M 408 (mm_w (v1 + 5))) - 1))) ≤ v3 → (((0 : Int) ≤ (mm_w (v1 + 5)) ∧ (mm_w (v1 + 5)) < (32844 : Int)) ∧ (((0 : Int) ≤ (mm_w (v1 + 5)) ∧ (mm_w (v1 + 5)) < (32844 : Int)) ∧ (∀ M55 : mm_M, M55 = nn_ui M 408 (mm_w (v1 + 5)) (mm_w ((nn_ri M 408 (mm_w (v1 + 5))) - 1)) → nk_M_runGoes_58 v1 v2 0 M55 R)))) ∧ (v3 < (nf_M_head v1 (mm_w ((nn_ri M 408 (mm_w (v1 + 5))) - 1))) → (((0 : Int) ≤ (mm_w (v3 + 3)) ∧ (mm_w (v3 + 3)) < (32844 : Int)) ∧ (((0 : Int) ≤ v3 ∧ v3 < (32844 : Int)) ∧ (∀ M37 : mm_M, M37 = nn_ui M 408 v3 (nn_ri M 408 (mm_w (v3 + 3))) → nk_M_runGoes_6 v1 v2 (mm_w (v3 + 1)) M37 R))))))) : nk_M_runGoes_6 v1 v2 v3 M R := by
  intro n L N 
  have NN := nn_L_n L N
  show mm_Go (mm_run 1) mc_M_runGoes _ (6, [(0, .inr (.inr 407)), (1, .inl v1), (2, .inl v2), (3, .inl v3)], [], M)
  refine mm_s1 rfl ?_
  refine mm_s1 rfl ?_
  refine mm_s1 rfl ?_
  refine nn_getr rfl (nn_c407 NN).1 (lf_13_0 L N (nn_c407 NN)) ?_
  refine mm_s1 rfl ?_
  show mm_Go (mm_run 1) mc_M_runGoes _ (13, [(0, .inr (.inr 407)), (1, .inl v1), (2, .inl v2), (3, .inl v3)], [.inl v1, .inr (.inr 408), .inl v1, .inl v3], M)
  refine mm_s1 rfl ?_
  refine mm_s1 rfl ?_
  obtain ⟨b15, h⟩ := h
  refine mm_s1 rfl ⟨nn_bd (na_13_0 NN (nn_c407 NN)) b15, ?_⟩
  show mm_Go (mm_run 1) mc_M_runGoes _ (16, [(0, .inr (.inr 407)), (1, .inl v1), (2, .inl v2), (3, .inl v3)], [.inl (nn_ri M 408 (mm_w (v1 + 5))), .inl v1, .inl v3], M)
  refine mm_s1 rfl ?_
  refine mm_s1 rfl ?_
  refine mm_s1 rfl ⟨trivial, ?_⟩
  refine np_M_head (by decide) L N ?_
  show mm_Go (mm_run 1) mc_M_runGoes _ (21, [(0, .inr (.inr 407)), (1, .inl v1), (2, .inl v2), (3, .inl v3)], [.inl (nf_M_head v1 (mm_w ((nn_ri M 408 (mm_w (v1 + 5))) - 1))), .inl v3], M)
  refine mm_s1 rfl ⟨fun c21 => ?_, fun c21 => ?_⟩
  · show mm_Go (mm_run 1) mc_M_runGoes _ (44, [(0, .inr (.inr 407)), (1, .inl v1), (2, .inl v2), (3, .inl v3)], [], M)
    replace h := h.1 c21
    refine mm_s1 rfl ?_
    refine nn_getr rfl (nn_c407 NN).1 (lf_13_0 L N (nn_c407 NN)) ?_
    refine mm_s1 rfl ?_
    refine mm_s1 rfl ?_
    refine mm_s1 rfl ?_
    show mm_Go (mm_run 1) mc_M_runGoes _ (51, [(0, .inr (.inr 407)), (1, .inl v1), (2, .inl v2), (3, .inl v3)], [.inl (mm_w (v1 + 5)), .inr (.inr 408)], M)
    refine mm_s1 rfl ?_
    obtain ⟨b52, h⟩ := h
    refine mm_s1 rfl ⟨nn_bd (na_13_0 NN (nn_c407 NN)) b52, ?_⟩
    show mm_Go (mm_run 1) mc_M_runGoes _ (53, [(0, .inr (.inr 407)), (1, .inl v1), (2, .inl v2), (3, .inl v3)], [.inl (nn_ri M 408 (mm_w (v1 + 5))), .inl (mm_w (v1 + 5)), .inr (.inr 408)], M)
    refine mm_s1 rfl ?_
    refine mm_s1 rfl ?_
    obtain ⟨b55, h⟩ := h
    refine mm_s1 rfl ⟨nn_bd (na_13_0 NN (nn_c407 NN)) b55, ?_⟩
    show mm_Go (mm_run 1) mc_M_runGoes _ (56, [(0, .inr (.inr 407)), (1, .inl v1), (2, .inl v2), (3, .inl v3)], [], (nn_ui M 408 (mm_w (v1 + 5)) (mm_w ((nn_ri M 408 (mm_w (v1 + 5))) - 1))))
    have L : nn_L (nn_ui M 408 (mm_w (v1 + 5)) (mm_w ((nn_ri M 408 (mm_w (v1 + 5))) - 1))) := nn_L_ua L (congrArg Prod.fst (na_13_0 NN (nn_c407 NN))) (by decide)
    have N : (nn_ui M 408 (mm_w (v1 + 5)) (mm_w ((nn_ri M 408 (mm_w (v1 + 5))) - 1))).1 = n := N
    generalize e_M55 : (nn_ui M 408 (mm_w (v1 + 5)) (mm_w ((nn_ri M 408 (mm_w (v1 + 5))) - 1))) = M55 at L N ⊢
    replace h := h _ e_M55.symm
    show mm_Go (mm_run 1) mc_M_runGoes _ (56, [(0, .inr (.inr 407)), (1, .inl v1), (2, .inl v2), (3, .inl v3)], [], M55)
    refine mm_s1 rfl ?_
    refine mm_s1 rfl ?_
    show mm_Go (mm_run 1) mc_M_runGoes _ (58, [(0, .inr (.inr 407)), (1, .inl v1), (2, .inl v2), (3, .inl 0)], [], M55)
    exact nn_go_ext (nn_xc rfl (nn_xc rfl (nn_xc rfl (nn_xc rfl nn_xn)))) (h n L N)
  · show mm_Go (mm_run 1) mc_M_runGoes _ (24, [(0, .inr (.inr 407)), (1, .inl v1), (2, .inl v2), (3, .inl v3)], [], M)
    replace c21 := Int.not_le.mp c21
    replace h := h.2 c21
    refine mm_s1 rfl ?_
    refine nn_getr rfl (nn_c407 NN).1 (lf_13_0 L N (nn_c407 NN)) ?_
    refine mm_s1 rfl ?_
    refine mm_s1 rfl ?_
    refine nn_getr rfl (nn_c407 NN).1 (lf_13_0 L N (nn_c407 NN)) ?_
    show mm_Go (mm_run 1) mc_M_runGoes _ (33, [(0, .inr (.inr 407)), (1, .inl v1), (2, .inl v2), (3, .inl v3)], [.inr (.inr 408), .inl v3, .inr (.inr 408)], M)
    refine mm_s1 rfl ?_
    refine mm_s1 rfl ?_
    refine mm_s1 rfl ?_
    obtain ⟨b36, h⟩ := h
    refine mm_s1 rfl ⟨nn_bd (na_13_0 NN (nn_c407 NN)) b36, ?_⟩
    show mm_Go (mm_run 1) mc_M_runGoes _ (37, [(0, .inr (.inr 407)), (1, .inl v1), (2, .inl v2), (3, .inl v3)], [.inl (nn_ri M 408 (mm_w (v3 + 3))), .inl v3, .inr (.inr 408)], M)
    obtain ⟨b37, h⟩ := h
    refine mm_s1 rfl ⟨nn_bd (na_13_0 NN (nn_c407 NN)) b37, ?_⟩
    show mm_Go (mm_run 1) mc_M_runGoes _ (38, [(0, .inr (.inr 407)), (1, .inl v1), (2, .inl v2), (3, .inl v3)], [], (nn_ui M 408 v3 (nn_ri M 408 (mm_w (v3 + 3)))))
    have L : nn_L (nn_ui M 408 v3 (nn_ri M 408 (mm_w (v3 + 3)))) := nn_L_ua L (congrArg Prod.fst (na_13_0 NN (nn_c407 NN))) (by decide)
    have N : (nn_ui M 408 v3 (nn_ri M 408 (mm_w (v3 + 3)))).1 = n := N
    generalize e_M37 : (nn_ui M 408 v3 (nn_ri M 408 (mm_w (v3 + 3)))) = M37 at L N ⊢
    replace h := h _ e_M37.symm
    show mm_Go (mm_run 1) mc_M_runGoes _ (38, [(0, .inr (.inr 407)), (1, .inl v1), (2, .inl v2), (3, .inl v3)], [], M37)
    refine mm_s1 rfl ?_
    show mm_Go (mm_run 1) mc_M_runGoes _ (41, [(0, .inr (.inr 407)), (1, .inl v1), (2, .inl v2), (3, .inl (mm_w (v3 + 1)))], [], M37)
    refine mm_s1 rfl ?_
    show mm_Go (mm_run 1) mc_M_runGoes _ (6, [(0, .inr (.inr 407)), (1, .inl v1), (2, .inl v2), (3, .inl (mm_w (v3 + 1)))], [], M37)
    exact nn_go_ext (nn_xc rfl (nn_xc rfl (nn_xc rfl (nn_xc rfl nn_xn)))) (h n L N)
set_option maxRecDepth 20000 in
theorem ng_M_runGoes_58 (v1 : Int) (v2 : Int) (v3 : Int) (M : mm_M) (R : mm_M → Prop) (h : (((0 : Int) ≤ (mm_w (v1 + 6)) ∧ (mm_w (v1 + 6)) < (32844 : Int)) ∧ (((nn_ri M 408 (mm_w (v1 + 6))) ≤ v3 → R M) ∧ (v3 < (nn_ri M 408 (mm_w (v1 + 6))) → (((0 : Int) ≤ (nf_M_entryAt v1 v3) ∧ (nf_M_entryAt v1 v3) < (32844 : Int)) ∧ (((0 : Int) ≤ (nf_M_entryAt v1 v3) ∧ (nf_M_entryAt v1 v3) < (32844 : Int)) ∧ (((nn_ri M 408 (nf_M_entryAt v1 v3)) ≤ (mm_w (v2 + 1)) → (((0 : Int) ≤ (nf_M_entryAt v1 v3) ∧ (nf_M_entryAt v1 v3) < (32844 : Int)) ∧ (∀ M104 : mm_M, M104 = nn_ui M 408 (nf_M_entryAt v1 v3) (mm_w ((nn_ri M 408 (nf_M_entryAt v1 v3)) - 0)) → nk_M_runGoes_58 v1 v2 (mm_w (v3 + 1)) M104 R))) ∧ ((mm_w (v2 + 1)) < (nn_ri M 408 (nf_M_entryAt v1 v3)) → (((0 : Int) ≤ (nf_M_entryAt v1 v3) ∧ (nf_M_entryAt v1 v3) < (32844 : Int)) ∧ (∀ M104 : mm_M, M104 = nn_ui M 408 (nf_M_entryAt v1 v3) (mm_w ((nn_ri M 408 (nf_M_entryAt v1 v3)) - 1)) → nk_M_runGoes_58 v1 v2 (mm_w (v3 + 1)) M104 R)))))))))) : nk_M_runGoes_58 v1 v2 v3 M R := by
  intro n L N 
  have NN := nn_L_n L N
  show mm_Go (mm_run 1) mc_M_runGoes _ (58, [(0, .inr (.inr 407)), (1, .inl v1), (2, .inl v2), (3, .inl v3)], [], M)
  refine mm_s1 rfl ?_
  refine mm_s1 rfl ?_
  refine nn_getr rfl (nn_c407 NN).1 (lf_13_0 L N (nn_c407 NN)) ?_
  refine mm_s1 rfl ?_
  refine mm_s1 rfl ?_
  show mm_Go (mm_run 1) mc_M_runGoes _ (66, [(0, .inr (.inr 407)), (1, .inl v1), (2, .inl v2), (3, .inl v3)], [.inl 6, .inl v1, .inr (.inr 408), .inl v3], M)
  refine mm_s1 rfl ?_
  obtain ⟨b67, h⟩ := h
  refine mm_s1 rfl ⟨nn_bd (na_13_0 NN (nn_c407 NN)) b67, ?_⟩
  show mm_Go (mm_run 1) mc_M_runGoes _ (68, [(0, .inr (.inr 407)), (1, .inl v1), (2, .inl v2), (3, .inl v3)], [.inl (nn_ri M 408 (mm_w (v1 + 6))), .inl v3], M)
  refine mm_s1 rfl ⟨fun c68 => ?_, fun c68 => ?_⟩
  · show mm_Go (mm_run 1) mc_M_runGoes _ (111, [(0, .inr (.inr 407)), (1, .inl v1), (2, .inl v2), (3, .inl v3)], [], M)
    replace h := h.1 c68
    exact mm_s1 rfl ⟨rfl, L, N, h⟩
  · show mm_Go (mm_run 1) mc_M_runGoes _ (71, [(0, .inr (.inr 407)), (1, .inl v1), (2, .inl v2), (3, .inl v3)], [], M)
    replace c68 := Int.not_le.mp c68
    replace h := h.2 c68
    refine mm_s1 rfl ?_
    refine nn_getr rfl (nn_c407 NN).1 (lf_13_0 L N (nn_c407 NN)) ?_
    refine mm_s1 rfl ?_
    refine mm_s1 rfl ?_
    refine mm_s1 rfl ⟨trivial, ?_⟩
    refine np_M_entryAt (by decide) L N ?_
    show mm_Go (mm_run 1) mc_M_runGoes _ (80, [(0, .inr (.inr 407)), (1, .inl v1), (2, .inl v2), (3, .inl v3)], [.inl (nf_M_entryAt v1 v3), .inr (.inr 408)], M)
    refine mm_s1 rfl ?_
    obtain ⟨b81, h⟩ := h
    refine mm_s1 rfl ⟨nn_bd (na_13_0 NN (nn_c407 NN)) b81, ?_⟩
    show mm_Go (mm_run 1) mc_M_runGoes _ (82, [(0, .inr (.inr 407)), (1, .inl v1), (2, .inl v2), (3, .inl v3)], [.inl (nn_ri M 408 (nf_M_entryAt v1 v3)), .inl (nf_M_entryAt v1 v3), .inr (.inr 408)], M)
    refine mm_s1 rfl ?_
    refine nn_getr rfl (nn_c407 NN).1 (lf_13_0 L N (nn_c407 NN)) ?_
    refine mm_s1 rfl ?_
    refine mm_s1 rfl ?_
    refine mm_s1 rfl ⟨trivial, ?_⟩
    refine np_M_entryAt (by decide) L N ?_
    show mm_Go (mm_run 1) mc_M_runGoes _ (91, [(0, .inr (.inr 407)), (1, .inl v1), (2, .inl v2), (3, .inl v3)], [.inl (nf_M_entryAt v1 v3), .inr (.inr 408), .inl (nn_ri M 408 (nf_M_entryAt v1 v3)), .inl (nf_M_entryAt v1 v3), .inr (.inr 408)], M)
    obtain ⟨b91, h⟩ := h
    refine mm_s1 rfl ⟨nn_bd (na_13_0 NN (nn_c407 NN)) b91, ?_⟩
    show mm_Go (mm_run 1) mc_M_runGoes _ (92, [(0, .inr (.inr 407)), (1, .inl v1), (2, .inl v2), (3, .inl v3)], [.inl (nn_ri M 408 (nf_M_entryAt v1 v3)), .inl (nn_ri M 408 (nf_M_entryAt v1 v3)), .inl (nf_M_entryAt v1 v3), .inr (.inr 408)], M)
    refine mm_s1 rfl ?_
    refine mm_s1 rfl ?_
    refine mm_s1 rfl ?_
    refine mm_s1 rfl ⟨fun c95 => ?_, fun c95 => ?_⟩
    · show mm_Go (mm_run 1) mc_M_runGoes _ (102, [(0, .inr (.inr 407)), (1, .inl v1), (2, .inl v2), (3, .inl v3)], [.inl (nn_ri M 408 (nf_M_entryAt v1 v3)), .inl (nf_M_entryAt v1 v3), .inr (.inr 408)], M)
      replace h := h.1 c95
      refine mm_s1 rfl ?_
      refine mm_s1 rfl ?_
      obtain ⟨b104, h⟩ := h
      refine mm_s1 rfl ⟨nn_bd (na_13_0 NN (nn_c407 NN)) b104, ?_⟩
      show mm_Go (mm_run 1) mc_M_runGoes _ (105, [(0, .inr (.inr 407)), (1, .inl v1), (2, .inl v2), (3, .inl v3)], [], (nn_ui M 408 (nf_M_entryAt v1 v3) (mm_w ((nn_ri M 408 (nf_M_entryAt v1 v3)) - 0))))
      have L : nn_L (nn_ui M 408 (nf_M_entryAt v1 v3) (mm_w ((nn_ri M 408 (nf_M_entryAt v1 v3)) - 0))) := nn_L_ua L (congrArg Prod.fst (na_13_0 NN (nn_c407 NN))) (by decide)
      have N : (nn_ui M 408 (nf_M_entryAt v1 v3) (mm_w ((nn_ri M 408 (nf_M_entryAt v1 v3)) - 0))).1 = n := N
      generalize e_M104 : (nn_ui M 408 (nf_M_entryAt v1 v3) (mm_w ((nn_ri M 408 (nf_M_entryAt v1 v3)) - 0))) = M104 at L N ⊢
      replace h := h _ e_M104.symm
      show mm_Go (mm_run 1) mc_M_runGoes _ (105, [(0, .inr (.inr 407)), (1, .inl v1), (2, .inl v2), (3, .inl v3)], [], M104)
      refine mm_s1 rfl ?_
      show mm_Go (mm_run 1) mc_M_runGoes _ (108, [(0, .inr (.inr 407)), (1, .inl v1), (2, .inl v2), (3, .inl (mm_w (v3 + 1)))], [], M104)
      refine mm_s1 rfl ?_
      show mm_Go (mm_run 1) mc_M_runGoes _ (58, [(0, .inr (.inr 407)), (1, .inl v1), (2, .inl v2), (3, .inl (mm_w (v3 + 1)))], [], M104)
      exact nn_go_ext (nn_xc rfl (nn_xc rfl (nn_xc rfl (nn_xc rfl nn_xn)))) (h n L N)
    · show mm_Go (mm_run 1) mc_M_runGoes _ (98, [(0, .inr (.inr 407)), (1, .inl v1), (2, .inl v2), (3, .inl v3)], [.inl (nn_ri M 408 (nf_M_entryAt v1 v3)), .inl (nf_M_entryAt v1 v3), .inr (.inr 408)], M)
      replace c95 := Int.not_le.mp c95
      replace h := h.2 c95
      refine mm_s1 rfl ?_
      refine mm_s1 rfl ?_
      show mm_Go (mm_run 1) mc_M_runGoes _ (103, [(0, .inr (.inr 407)), (1, .inl v1), (2, .inl v2), (3, .inl v3)], [.inl 1, .inl (nn_ri M 408 (nf_M_entryAt v1 v3)), .inl (nf_M_entryAt v1 v3), .inr (.inr 408)], M)
      refine mm_s1 rfl ?_
      obtain ⟨b104, h⟩ := h
      refine mm_s1 rfl ⟨nn_bd (na_13_0 NN (nn_c407 NN)) b104, ?_⟩
      show mm_Go (mm_run 1) mc_M_runGoes _ (105, [(0, .inr (.inr 407)), (1, .inl v1), (2, .inl v2), (3, .inl v3)], [], (nn_ui M 408 (nf_M_entryAt v1 v3) (mm_w ((nn_ri M 408 (nf_M_entryAt v1 v3)) - 1))))
      have L : nn_L (nn_ui M 408 (nf_M_entryAt v1 v3) (mm_w ((nn_ri M 408 (nf_M_entryAt v1 v3)) - 1))) := nn_L_ua L (congrArg Prod.fst (na_13_0 NN (nn_c407 NN))) (by decide)
      have N : (nn_ui M 408 (nf_M_entryAt v1 v3) (mm_w ((nn_ri M 408 (nf_M_entryAt v1 v3)) - 1))).1 = n := N
      generalize e_M104 : (nn_ui M 408 (nf_M_entryAt v1 v3) (mm_w ((nn_ri M 408 (nf_M_entryAt v1 v3)) - 1))) = M104 at L N ⊢
      replace h := h _ e_M104.symm
      show mm_Go (mm_run 1) mc_M_runGoes _ (105, [(0, .inr (.inr 407)), (1, .inl v1), (2, .inl v2), (3, .inl v3)], [], M104)
      refine mm_s1 rfl ?_
      show mm_Go (mm_run 1) mc_M_runGoes _ (108, [(0, .inr (.inr 407)), (1, .inl v1), (2, .inl v2), (3, .inl (mm_w (v3 + 1)))], [], M104)
      refine mm_s1 rfl ?_
      show mm_Go (mm_run 1) mc_M_runGoes _ (58, [(0, .inr (.inr 407)), (1, .inl v1), (2, .inl v2), (3, .inl (mm_w (v3 + 1)))], [], M104)
      exact nn_go_ext (nn_xc rfl (nn_xc rfl (nn_xc rfl (nn_xc rfl nn_xn)))) (h n L N)
def nr_M_goes (v1 : Int) (M : mm_M) (R : mm_M → Prop) : Prop := ∀ n, nn_L M → M.1 = n → mm_run 2 mi_M_goes [.inr (.inr 407), .inl v1] M (nw_V n R)
set_option maxRecDepth 20000 in
theorem ng_M_goes (v1 : Int) (M : mm_M) (R : mm_M → Prop) (h : (((0 : Int) ≤ (mm_w ((nf_M_at 0 v1) + 0)) ∧ (mm_w ((nf_M_at 0 v1) + 0)) < (32844 : Int)) ∧ (∀ M14 : mm_M, M14 = nn_ui M 408 (mm_w ((nf_M_at 0 v1) + 0)) 0 → (((0 : Int) ≤ (mm_w ((nf_M_at 0 v1) + 6)) ∧ (mm_w ((nf_M_at 0 v1) + 6)) < (32844 : Int)) ∧ (∀ M24 : mm_M, M24 = nn_ui M14 408 (mm_w ((nf_M_at 0 v1) + 6)) 0 → (((0 : Int) ≤ (mm_w ((nf_M_at 0 v1) + 5)) ∧ (mm_w ((nf_M_at 0 v1) + 5)) < (32844 : Int)) ∧ (∀ M33 : mm_M, M33 = nn_ui M24 408 (mm_w ((nf_M_at 0 v1) + 5)) 0 → (((0 : Int) ≤ (mm_w ((nf_M_at 0 v1) + 7)) ∧ (mm_w ((nf_M_at 0 v1) + 7)) < (32844 : Int)) ∧ (∀ M43 : mm_M, M43 = nn_ui M33 408 (mm_w ((nf_M_at 0 v1) + 7)) 0 → R M43))))))))) : nr_M_goes v1 M R := by
  intro n L N 
  have NN := nn_L_n L N
  show mm_Go (mm_run 1) mc_M_goes _ (0, [(0, .inr (.inr 407)), (1, .inl v1)], [], M)
  refine mm_s1 rfl ?_
  refine mm_s1 rfl ?_
  refine mm_s1 rfl ⟨trivial, ?_⟩
  refine np_M_at (by decide) L N ?_
  show mm_Go (mm_run 1) mc_M_goes _ (5, [(0, .inr (.inr 407)), (1, .inl v1)], [.inl (nf_M_at 0 v1)], M)
  refine mm_s1 rfl ?_
  show mm_Go (mm_run 1) mc_M_goes _ (6, [(0, .inr (.inr 407)), (1, .inl v1), (2, .inl (nf_M_at 0 v1))], [], M)
  refine mm_s1 rfl ?_
  refine nn_getr rfl (nn_c407 NN).1 (lf_13_0 L N (nn_c407 NN)) ?_
  refine mm_s1 rfl ?_
  refine mm_s1 rfl ?_
  refine mm_s1 rfl ?_
  show mm_Go (mm_run 1) mc_M_goes _ (13, [(0, .inr (.inr 407)), (1, .inl v1), (2, .inl (nf_M_at 0 v1))], [.inl (mm_w ((nf_M_at 0 v1) + 0)), .inr (.inr 408)], M)
  refine mm_s1 rfl ?_
  obtain ⟨b14, h⟩ := h
  refine mm_s1 rfl ⟨nn_bd (na_13_0 NN (nn_c407 NN)) b14, ?_⟩
  show mm_Go (mm_run 1) mc_M_goes _ (15, [(0, .inr (.inr 407)), (1, .inl v1), (2, .inl (nf_M_at 0 v1))], [], (nn_ui M 408 (mm_w ((nf_M_at 0 v1) + 0)) 0))
  have L : nn_L (nn_ui M 408 (mm_w ((nf_M_at 0 v1) + 0)) 0) := nn_L_ua L (congrArg Prod.fst (na_13_0 NN (nn_c407 NN))) (by decide)
  have N : (nn_ui M 408 (mm_w ((nf_M_at 0 v1) + 0)) 0).1 = n := N
  generalize e_M14 : (nn_ui M 408 (mm_w ((nf_M_at 0 v1) + 0)) 0) = M14 at L N ⊢
  replace h := h _ e_M14.symm
  show mm_Go (mm_run 1) mc_M_goes _ (15, [(0, .inr (.inr 407)), (1, .inl v1), (2, .inl (nf_M_at 0 v1))], [], M14)
  refine mm_s1 rfl ?_
  refine nn_getr rfl (nn_c407 NN).1 (lf_13_0 L N (nn_c407 NN)) ?_
  refine mm_s1 rfl ?_
  refine mm_s1 rfl ?_
  refine mm_s1 rfl ?_
  show mm_Go (mm_run 1) mc_M_goes _ (23, [(0, .inr (.inr 407)), (1, .inl v1), (2, .inl (nf_M_at 0 v1))], [.inl (mm_w ((nf_M_at 0 v1) + 6)), .inr (.inr 408)], M14)
  refine mm_s1 rfl ?_
  obtain ⟨b24, h⟩ := h
  refine mm_s1 rfl ⟨nn_bd (na_13_0 NN (nn_c407 NN)) b24, ?_⟩
  show mm_Go (mm_run 1) mc_M_goes _ (25, [(0, .inr (.inr 407)), (1, .inl v1), (2, .inl (nf_M_at 0 v1))], [], (nn_ui M14 408 (mm_w ((nf_M_at 0 v1) + 6)) 0))
  have L : nn_L (nn_ui M14 408 (mm_w ((nf_M_at 0 v1) + 6)) 0) := nn_L_ua L (congrArg Prod.fst (na_13_0 NN (nn_c407 NN))) (by decide)
  have N : (nn_ui M14 408 (mm_w ((nf_M_at 0 v1) + 6)) 0).1 = n := N
  generalize e_M24 : (nn_ui M14 408 (mm_w ((nf_M_at 0 v1) + 6)) 0) = M24 at L N ⊢
  replace h := h _ e_M24.symm
  show mm_Go (mm_run 1) mc_M_goes _ (25, [(0, .inr (.inr 407)), (1, .inl v1), (2, .inl (nf_M_at 0 v1))], [], M24)
  refine mm_s1 rfl ?_
  refine nn_getr rfl (nn_c407 NN).1 (lf_13_0 L N (nn_c407 NN)) ?_
  refine mm_s1 rfl ?_
  refine mm_s1 rfl ?_
  refine mm_s1 rfl ?_
  show mm_Go (mm_run 1) mc_M_goes _ (32, [(0, .inr (.inr 407)), (1, .inl v1), (2, .inl (nf_M_at 0 v1))], [.inl (mm_w ((nf_M_at 0 v1) + 5)), .inr (.inr 408)], M24)
  refine mm_s1 rfl ?_
  obtain ⟨b33, h⟩ := h
  refine mm_s1 rfl ⟨nn_bd (na_13_0 NN (nn_c407 NN)) b33, ?_⟩
  show mm_Go (mm_run 1) mc_M_goes _ (34, [(0, .inr (.inr 407)), (1, .inl v1), (2, .inl (nf_M_at 0 v1))], [], (nn_ui M24 408 (mm_w ((nf_M_at 0 v1) + 5)) 0))
  have L : nn_L (nn_ui M24 408 (mm_w ((nf_M_at 0 v1) + 5)) 0) := nn_L_ua L (congrArg Prod.fst (na_13_0 NN (nn_c407 NN))) (by decide)
  have N : (nn_ui M24 408 (mm_w ((nf_M_at 0 v1) + 5)) 0).1 = n := N
  generalize e_M33 : (nn_ui M24 408 (mm_w ((nf_M_at 0 v1) + 5)) 0) = M33 at L N ⊢
  replace h := h _ e_M33.symm
  show mm_Go (mm_run 1) mc_M_goes _ (34, [(0, .inr (.inr 407)), (1, .inl v1), (2, .inl (nf_M_at 0 v1))], [], M33)
  refine mm_s1 rfl ?_
  refine nn_getr rfl (nn_c407 NN).1 (lf_13_0 L N (nn_c407 NN)) ?_
  refine mm_s1 rfl ?_
  refine mm_s1 rfl ?_
  refine mm_s1 rfl ?_
  show mm_Go (mm_run 1) mc_M_goes _ (42, [(0, .inr (.inr 407)), (1, .inl v1), (2, .inl (nf_M_at 0 v1))], [.inl (mm_w ((nf_M_at 0 v1) + 7)), .inr (.inr 408)], M33)
  refine mm_s1 rfl ?_
  obtain ⟨b43, h⟩ := h
  refine mm_s1 rfl ⟨nn_bd (na_13_0 NN (nn_c407 NN)) b43, ?_⟩
  show mm_Go (mm_run 1) mc_M_goes _ (44, [(0, .inr (.inr 407)), (1, .inl v1), (2, .inl (nf_M_at 0 v1))], [], (nn_ui M33 408 (mm_w ((nf_M_at 0 v1) + 7)) 0))
  have L : nn_L (nn_ui M33 408 (mm_w ((nf_M_at 0 v1) + 7)) 0) := nn_L_ua L (congrArg Prod.fst (na_13_0 NN (nn_c407 NN))) (by decide)
  have N : (nn_ui M33 408 (mm_w ((nf_M_at 0 v1) + 7)) 0).1 = n := N
  generalize e_M43 : (nn_ui M33 408 (mm_w ((nf_M_at 0 v1) + 7)) 0) = M43 at L N ⊢
  replace h := h _ e_M43.symm
  show mm_Go (mm_run 1) mc_M_goes _ (44, [(0, .inr (.inr 407)), (1, .inl v1), (2, .inl (nf_M_at 0 v1))], [], M43)
  exact mm_s1 rfl ⟨rfl, L, N, h⟩
