/-! methods walked by program (wip/whole/dec.py) -/
def nr_M_entry (v1 : Int) (v2 : Int) (v3 : Int) (v4 : Int) (M : mm_M) (R : Int → mm_M → Prop) : Prop := ∀ n, nn_L M → M.1 = n → mm_run 5 mi_M_entry [.inr (.inr 407), .inl v1, .inl v2, .inl v3, .inl v4] M (nw_I n R)
def nk_M_entry_74 (v2 : Int) (v4 : Int) (v5 : Int) (v6 : Int) (v7 : Int) (M : mm_M) (R : Int → mm_M → Prop) : Prop := ∀ n, nn_L M → M.1 = n → mm_Go (mm_run 4) mc_M_entry (nw_I n R) (74, [(0, .inr (.inr 407)), (2, .inl v2), (4, .inl v4), (5, .inl v5), (6, .inl v6), (7, .inl v7)], [], M)
set_option maxRecDepth 20000 in
theorem ng_M_entry (v1 : Int) (v2 : Int) (v3 : Int) (v4 : Int) (M : mm_M) (R : Int → mm_M → Prop) (h : ((nc_M_isIndex v1 M) ∧ ((((nf_M_isIndex v1 M) ≠ 0) ∧ ((-1) ≤ v2) ∧ ((nf_M_isIn v4 0 4) ≠ 0) → ((0 : Int) ≤ (mm_w ((nf_M_at 0 v1) + 5)) ∧ (mm_w ((nf_M_at 0 v1) + 5)) < (32844 : Int))) ∧ (((nf_M_isIndex v1 M) = 0 ∨ (v2 < (-1) ∨ ((nf_M_isIn v4 0 4) = 0 ∨ ((nn_ri M 408 (mm_w ((nf_M_at 0 v1) + 5))) ≤ v2)))) → R (-2) M) ∧ (((nf_M_isIndex v1 M) ≠ 0 ∧ ((-1) ≤ v2 ∧ ((nf_M_isIn v4 0 4) ≠ 0 ∧ (v2 < (nn_ri M 408 (mm_w ((nf_M_at 0 v1) + 5))))))) → (nr_M_entriesOf (nf_M_at 0 v1) (mm_w (v2 + 1)) M (fun r54 M54 => (((nf_M_isIn v3 0 (mm_w (r54 - 1))) ≠ 0 → nk_M_entry_74 v2 v4 (nf_M_at 0 v1) v3 0 M54 R) ∧ ((nf_M_isIn v3 0 (mm_w (r54 - 1))) = 0 → R (-2) M54)))))))) : nr_M_entry v1 v2 v3 v4 M R := by
  intro n L N 
  have NN := nn_L_n L N
  show mm_Go (mm_run 4) mc_M_entry _ (0, [(0, .inr (.inr 407)), (1, .inl v1), (2, .inl v2), (3, .inl v3), (4, .inl v4)], [], M)
  refine mm_s1 rfl ?_
  refine mm_s1 rfl ?_
  obtain ⟨b2, h⟩ := h
  refine mm_s1 rfl ⟨(nn_c407 NN).1, ?_⟩
  refine np_M_isIndex (by decide) L N b2 ?_
  show mm_Go (mm_run 4) mc_M_entry _ (5, [(0, .inr (.inr 407)), (1, .inl v1), (2, .inl v2), (3, .inl v3), (4, .inl v4)], [.inl (nf_M_isIndex v1 M)], M)
  refine mm_s1 rfl ⟨fun c5 => ?_, fun c5 => ?_⟩
  · show mm_Go (mm_run 4) mc_M_entry _ (23, [(0, .inr (.inr 407)), (1, .inl v1), (2, .inl v2), (3, .inl v3), (4, .inl v4)], [], M)
    refine mm_s1 rfl ?_
    replace h := h.2.1 (Or.inl c5)
    exact mm_s1 rfl ⟨_, rfl, L, N, h⟩
  · show mm_Go (mm_run 4) mc_M_entry _ (8, [(0, .inr (.inr 407)), (1, .inl v1), (2, .inl v2), (3, .inl v3), (4, .inl v4)], [], M)
    refine mm_s1 rfl ?_
    refine mm_s1 rfl ?_
    refine mm_s1 rfl ⟨fun c10 => ?_, fun c10 => ?_⟩
    · show mm_Go (mm_run 4) mc_M_entry _ (23, [(0, .inr (.inr 407)), (1, .inl v1), (2, .inl v2), (3, .inl v3), (4, .inl v4)], [], M)
      refine mm_s1 rfl ?_
      replace h := h.2.1 (Or.inr (Or.inl c10))
      exact mm_s1 rfl ⟨_, rfl, L, N, h⟩
    · show mm_Go (mm_run 4) mc_M_entry _ (13, [(0, .inr (.inr 407)), (1, .inl v1), (2, .inl v2), (3, .inl v3), (4, .inl v4)], [], M)
      replace c10 := Int.not_lt.mp c10
      refine mm_s1 rfl ?_
      refine mm_s1 rfl ?_
      refine mm_s1 rfl ?_
      refine mm_s1 rfl ⟨trivial, ?_⟩
      refine np_M_isIn (by decide) L N ?_
      show mm_Go (mm_run 4) mc_M_entry _ (20, [(0, .inr (.inr 407)), (1, .inl v1), (2, .inl v2), (3, .inl v3), (4, .inl v4)], [.inl (nf_M_isIn v4 0 4)], M)
      refine mm_s1 rfl ⟨fun c20 => ?_, fun c20 => ?_⟩
      · show mm_Go (mm_run 4) mc_M_entry _ (26, [(0, .inr (.inr 407)), (1, .inl v1), (2, .inl v2), (3, .inl v3), (4, .inl v4)], [], M)
        refine mm_s1 rfl ?_
        refine mm_s1 rfl ?_
        refine mm_s1 rfl ⟨trivial, ?_⟩
        refine np_M_at (by decide) L N ?_
        show mm_Go (mm_run 4) mc_M_entry _ (31, [(0, .inr (.inr 407)), (1, .inl v1), (2, .inl v2), (3, .inl v3), (4, .inl v4)], [.inl (nf_M_at 0 v1)], M)
        refine mm_s1 rfl ?_
        show mm_Go (mm_run 4) mc_M_entry _ (33, [(0, .inr (.inr 407)), (1, .inl v1), (2, .inl v2), (3, .inl v3), (4, .inl v4), (5, .inl (nf_M_at 0 v1))], [], M)
        refine mm_s1 rfl ?_
        refine mm_s1 rfl ?_
        refine nn_getr rfl (nn_c407 NN).1 (lf_13_0 L N (nn_c407 NN)) ?_
        refine mm_s1 rfl ?_
        refine mm_s1 rfl ?_
        show mm_Go (mm_run 4) mc_M_entry _ (41, [(0, .inr (.inr 407)), (1, .inl v1), (2, .inl v2), (3, .inl v3), (4, .inl v4), (5, .inl (nf_M_at 0 v1))], [.inl 5, .inl (nf_M_at 0 v1), .inr (.inr 408), .inl v2], M)
        refine mm_s1 rfl ?_
        have b42 := h.1 ⟨c5, c10, c20⟩
        refine mm_s1 rfl ⟨nn_bd (na_13_0 NN (nn_c407 NN)) b42, ?_⟩
        show mm_Go (mm_run 4) mc_M_entry _ (43, [(0, .inr (.inr 407)), (1, .inl v1), (2, .inl v2), (3, .inl v3), (4, .inl v4), (5, .inl (nf_M_at 0 v1))], [.inl (nn_ri M 408 (mm_w ((nf_M_at 0 v1) + 5))), .inl v2], M)
        refine mm_s1 rfl ⟨fun c43 => ?_, fun c43 => ?_⟩
        · show mm_Go (mm_run 4) mc_M_entry _ (65, [(0, .inr (.inr 407)), (1, .inl v1), (2, .inl v2), (3, .inl v3), (4, .inl v4), (5, .inl (nf_M_at 0 v1))], [], M)
          refine mm_s1 rfl ?_
          replace h := h.2.1 (Or.inr (Or.inr (Or.inr c43)))
          exact mm_s1 rfl ⟨_, rfl, L, N, h⟩
        · show mm_Go (mm_run 4) mc_M_entry _ (46, [(0, .inr (.inr 407)), (1, .inl v1), (2, .inl v2), (3, .inl v3), (4, .inl v4), (5, .inl (nf_M_at 0 v1))], [], M)
          replace c43 := Int.not_le.mp c43
          refine mm_s1 rfl ?_
          refine mm_s1 rfl ?_
          refine mm_s1 rfl ?_
          refine mm_s1 rfl ?_
          refine mm_s1 rfl ?_
          show mm_Go (mm_run 4) mc_M_entry _ (52, [(0, .inr (.inr 407)), (1, .inl v1), (2, .inl v2), (3, .inl v3), (4, .inl v4), (5, .inl (nf_M_at 0 v1))], [.inl v2, .inl (nf_M_at 0 v1), .inr (.inr 407), .inl 0, .inl v3], M)
          refine mm_s1 rfl ?_
          refine mm_s1 rfl ?_
          replace h := h.2.2 ⟨c5, ⟨c10, ⟨c20, c43⟩⟩⟩
          refine mm_s1 rfl ⟨(nn_c407 NN).1, ?_⟩
          refine nn_call (D := 2) (by decide) (h n L N) ?_
          intro v M54 q; clear L N h
          obtain ⟨r54, rfl, L, N, h⟩ := q
          show mm_Go (mm_run 4) mc_M_entry _ (57, [(0, .inr (.inr 407)), (1, .inl v1), (2, .inl v2), (3, .inl v3), (4, .inl v4), (5, .inl (nf_M_at 0 v1))], [.inl r54, .inl 0, .inl v3], M54)
          refine mm_s1 rfl ?_
          refine mm_s1 rfl ?_
          refine mm_s1 rfl ⟨trivial, ?_⟩
          refine np_M_isIn (by decide) L N ?_
          show mm_Go (mm_run 4) mc_M_entry _ (62, [(0, .inr (.inr 407)), (1, .inl v1), (2, .inl v2), (3, .inl v3), (4, .inl v4), (5, .inl (nf_M_at 0 v1))], [.inl (nf_M_isIn v3 0 (mm_w (r54 - 1)))], M54)
          refine mm_s1 rfl ⟨fun c62 => ?_, fun c62 => ?_⟩
          · show mm_Go (mm_run 4) mc_M_entry _ (68, [(0, .inr (.inr 407)), (1, .inl v1), (2, .inl v2), (3, .inl v3), (4, .inl v4), (5, .inl (nf_M_at 0 v1))], [], M54)
            replace h := h.1 c62
            refine mm_s1 rfl ?_
            refine mm_s1 rfl ?_
            show mm_Go (mm_run 4) mc_M_entry _ (71, [(0, .inr (.inr 407)), (1, .inl v1), (2, .inl v2), (3, .inl v3), (4, .inl v4), (5, .inl (nf_M_at 0 v1)), (6, .inl v3)], [], M54)
            refine mm_s1 rfl ?_
            refine mm_s1 rfl ?_
            show mm_Go (mm_run 4) mc_M_entry _ (74, [(0, .inr (.inr 407)), (1, .inl v1), (2, .inl v2), (3, .inl v3), (4, .inl v4), (5, .inl (nf_M_at 0 v1)), (6, .inl v3), (7, .inl 0)], [], M54)
            exact nn_go_ext (nn_xc rfl (nn_xc rfl (nn_xc rfl (nn_xc rfl (nn_xc rfl (nn_xc rfl nn_xn)))))) (h n L N)
          · show mm_Go (mm_run 4) mc_M_entry _ (65, [(0, .inr (.inr 407)), (1, .inl v1), (2, .inl v2), (3, .inl v3), (4, .inl v4), (5, .inl (nf_M_at 0 v1))], [], M54)
            replace c62 := Decidable.not_not.mp c62
            replace h := h.2 c62
            refine mm_s1 rfl ?_
            exact mm_s1 rfl ⟨_, rfl, L, N, h⟩
      · show mm_Go (mm_run 4) mc_M_entry _ (23, [(0, .inr (.inr 407)), (1, .inl v1), (2, .inl v2), (3, .inl v3), (4, .inl v4)], [], M)
        replace c20 := Decidable.not_not.mp c20
        refine mm_s1 rfl ?_
        replace h := h.2.1 (Or.inr (Or.inr (Or.inl c20)))
        exact mm_s1 rfl ⟨_, rfl, L, N, h⟩
set_option maxRecDepth 20000 in
theorem ng_M_entry_74 (v2 : Int) (v4 : Int) (v5 : Int) (v6 : Int) (v7 : Int) (M : mm_M) (R : Int → mm_M → Prop) (h : (((0 : Int) ≤ (mm_w (v5 + 6)) ∧ (mm_w (v5 + 6)) < (32844 : Int)) ∧ (((nn_ri M 408 (mm_w (v5 + 6))) ≤ v7 → ((3 ≤ v4 → ((v4 ≠ 4 → (nr_M_isStale 0 (nf_M_entryAt v5 v6) M (fun r174 M174 => ((r174 = 0 → R 0 M174) ∧ (r174 ≠ 0 → R 1 M174))))) ∧ (v4 = 4 → (nr_M_looks v5 (nf_M_entryAt v5 v6) M (fun r164 M164 => R r164 M164))))) ∧ (v4 < 3 → (((0 : Int) ≤ (mm_w ((mm_w ((nf_M_entryAt v5 v6) + 1)) + v4)) ∧ (mm_w ((mm_w ((nf_M_entryAt v5 v6) + 1)) + v4)) < (32844 : Int)) ∧ R (nn_ri M 408 (mm_w ((mm_w ((nf_M_entryAt v5 v6) + 1)) + v4))) M)))) ∧ (v7 < (nn_ri M 408 (mm_w (v5 + 6))) → (((0 : Int) ≤ (nf_M_entryAt v5 v7) ∧ (nf_M_entryAt v5 v7) < (32844 : Int)) ∧ (((mm_w (v2 + 1)) ≤ (nn_ri M 408 (nf_M_entryAt v5 v7)) → nk_M_entry_74 v2 v4 v5 (mm_w (v6 + 0)) (mm_w (v7 + 1)) M R) ∧ ((nn_ri M 408 (nf_M_entryAt v5 v7)) < (mm_w (v2 + 1)) → nk_M_entry_74 v2 v4 v5 (mm_w (v6 + 1)) (mm_w (v7 + 1)) M R))))))) : nk_M_entry_74 v2 v4 v5 v6 v7 M R := by
  intro n L N 
  have NN := nn_L_n L N
  show mm_Go (mm_run 4) mc_M_entry _ (74, [(0, .inr (.inr 407)), (2, .inl v2), (4, .inl v4), (5, .inl v5), (6, .inl v6), (7, .inl v7)], [], M)
  refine mm_s1 rfl ?_
  refine mm_s1 rfl ?_
  refine nn_getr rfl (nn_c407 NN).1 (lf_13_0 L N (nn_c407 NN)) ?_
  refine mm_s1 rfl ?_
  refine mm_s1 rfl ?_
  show mm_Go (mm_run 4) mc_M_entry _ (84, [(0, .inr (.inr 407)), (2, .inl v2), (4, .inl v4), (5, .inl v5), (6, .inl v6), (7, .inl v7)], [.inl 6, .inl v5, .inr (.inr 408), .inl v7], M)
  refine mm_s1 rfl ?_
  obtain ⟨b85, h⟩ := h
  refine mm_s1 rfl ⟨nn_bd (na_13_0 NN (nn_c407 NN)) b85, ?_⟩
  show mm_Go (mm_run 4) mc_M_entry _ (86, [(0, .inr (.inr 407)), (2, .inl v2), (4, .inl v4), (5, .inl v5), (6, .inl v6), (7, .inl v7)], [.inl (nn_ri M 408 (mm_w (v5 + 6))), .inl v7], M)
  refine mm_s1 rfl ⟨fun c86 => ?_, fun c86 => ?_⟩
  · show mm_Go (mm_run 4) mc_M_entry _ (123, [(0, .inr (.inr 407)), (2, .inl v2), (4, .inl v4), (5, .inl v5), (6, .inl v6), (7, .inl v7)], [], M)
    replace h := h.1 c86
    refine mm_s1 rfl ?_
    refine mm_s1 rfl ?_
    refine mm_s1 rfl ⟨trivial, ?_⟩
    refine np_M_entryAt (by decide) L N ?_
    show mm_Go (mm_run 4) mc_M_entry _ (130, [(0, .inr (.inr 407)), (2, .inl v2), (4, .inl v4), (5, .inl v5), (6, .inl v6), (7, .inl v7)], [.inl (nf_M_entryAt v5 v6)], M)
    refine mm_s1 rfl ?_
    show mm_Go (mm_run 4) mc_M_entry _ (132, [(0, .inr (.inr 407)), (2, .inl v2), (4, .inl v4), (5, .inl v5), (6, .inl v6), (7, .inl (nf_M_entryAt v5 v6))], [], M)
    refine mm_s1 rfl ?_
    refine mm_s1 rfl ?_
    refine mm_s1 rfl ⟨fun c135 => ?_, fun c135 => ?_⟩
    · show mm_Go (mm_run 4) mc_M_entry _ (153, [(0, .inr (.inr 407)), (2, .inl v2), (4, .inl v4), (5, .inl v5), (6, .inl v6), (7, .inl (nf_M_entryAt v5 v6))], [], M)
      replace h := h.1 c135
      refine mm_s1 rfl ?_
      refine mm_s1 rfl ?_
      refine mm_s1 rfl ⟨fun c156 => ?_, fun c156 => ?_⟩
      · show mm_Go (mm_run 4) mc_M_entry _ (170, [(0, .inr (.inr 407)), (2, .inl v2), (4, .inl v4), (5, .inl v5), (6, .inl v6), (7, .inl (nf_M_entryAt v5 v6))], [], M)
        replace h := h.1 c156
        refine mm_s1 rfl ?_
        refine mm_s1 rfl ?_
        refine mm_s1 rfl ?_
        refine mm_s1 rfl ⟨(nn_c407 NN).1, ?_⟩
        refine nn_call (D := 4) (by decide) (h n L N) ?_
        intro v M174 q; clear L N h
        obtain ⟨r174, rfl, q174, L, N, h⟩ := q
        show mm_Go (mm_run 4) mc_M_entry _ (177, [(0, .inr (.inr 407)), (2, .inl v2), (4, .inl v4), (5, .inl v5), (6, .inl v6), (7, .inl (nf_M_entryAt v5 v6))], [.inl r174], M174)
        refine mm_s1 rfl ⟨fun c177 => ?_, fun c177 => ?_⟩
        · show mm_Go (mm_run 4) mc_M_entry _ (184, [(0, .inr (.inr 407)), (2, .inl v2), (4, .inl v4), (5, .inl v5), (6, .inl v6), (7, .inl (nf_M_entryAt v5 v6))], [], M174)
          replace h := h.1 c177
          refine mm_s1 rfl ?_
          exact mm_s1 rfl ⟨_, rfl, L, N, h⟩
        · show mm_Go (mm_run 4) mc_M_entry _ (180, [(0, .inr (.inr 407)), (2, .inl v2), (4, .inl v4), (5, .inl v5), (6, .inl v6), (7, .inl (nf_M_entryAt v5 v6))], [], M174)
          replace h := h.2 c177
          refine mm_s1 rfl ?_
          refine mm_s1 rfl ?_
          show mm_Go (mm_run 4) mc_M_entry _ (185, [(0, .inr (.inr 407)), (2, .inl v2), (4, .inl v4), (5, .inl v5), (6, .inl v6), (7, .inl (nf_M_entryAt v5 v6))], [.inl 1], M174)
          exact mm_s1 rfl ⟨_, rfl, L, N, h⟩
      · show mm_Go (mm_run 4) mc_M_entry _ (159, [(0, .inr (.inr 407)), (2, .inl v2), (4, .inl v4), (5, .inl v5), (6, .inl v6), (7, .inl (nf_M_entryAt v5 v6))], [], M)
        replace c156 := Decidable.not_not.mp c156
        replace h := h.2 c156
        refine mm_s1 rfl ?_
        refine mm_s1 rfl ?_
        refine mm_s1 rfl ?_
        refine mm_s1 rfl ⟨(nn_c407 NN).1, ?_⟩
        refine nn_call (D := 3) (by decide) (h n L N) ?_
        intro v M164 q; clear L N h
        obtain ⟨r164, rfl, L, N, h⟩ := q
        show mm_Go (mm_run 4) mc_M_entry _ (167, [(0, .inr (.inr 407)), (2, .inl v2), (4, .inl v4), (5, .inl v5), (6, .inl v6), (7, .inl (nf_M_entryAt v5 v6))], [.inl r164], M164)
        refine mm_s1 rfl ?_
        show mm_Go (mm_run 4) mc_M_entry _ (185, [(0, .inr (.inr 407)), (2, .inl v2), (4, .inl v4), (5, .inl v5), (6, .inl v6), (7, .inl (nf_M_entryAt v5 v6))], [.inl r164], M164)
        exact mm_s1 rfl ⟨_, rfl, L, N, h⟩
    · show mm_Go (mm_run 4) mc_M_entry _ (138, [(0, .inr (.inr 407)), (2, .inl v2), (4, .inl v4), (5, .inl v5), (6, .inl v6), (7, .inl (nf_M_entryAt v5 v6))], [], M)
      replace c135 := Int.not_le.mp c135
      replace h := h.2 c135
      refine mm_s1 rfl ?_
      refine nn_getr rfl (nn_c407 NN).1 (lf_13_0 L N (nn_c407 NN)) ?_
      refine mm_s1 rfl ?_
      refine mm_s1 rfl ?_
      refine mm_s1 rfl ?_
      show mm_Go (mm_run 4) mc_M_entry _ (146, [(0, .inr (.inr 407)), (2, .inl v2), (4, .inl v4), (5, .inl v5), (6, .inl v6), (7, .inl (nf_M_entryAt v5 v6))], [.inl (mm_w ((nf_M_entryAt v5 v6) + 1)), .inr (.inr 408)], M)
      refine mm_s1 rfl ?_
      refine mm_s1 rfl ?_
      obtain ⟨b149, h⟩ := h
      refine mm_s1 rfl ⟨nn_bd (na_13_0 NN (nn_c407 NN)) b149, ?_⟩
      show mm_Go (mm_run 4) mc_M_entry _ (150, [(0, .inr (.inr 407)), (2, .inl v2), (4, .inl v4), (5, .inl v5), (6, .inl v6), (7, .inl (nf_M_entryAt v5 v6))], [.inl (nn_ri M 408 (mm_w ((mm_w ((nf_M_entryAt v5 v6) + 1)) + v4)))], M)
      refine mm_s1 rfl ?_
      show mm_Go (mm_run 4) mc_M_entry _ (185, [(0, .inr (.inr 407)), (2, .inl v2), (4, .inl v4), (5, .inl v5), (6, .inl v6), (7, .inl (nf_M_entryAt v5 v6))], [.inl (nn_ri M 408 (mm_w ((mm_w ((nf_M_entryAt v5 v6) + 1)) + v4)))], M)
      exact mm_s1 rfl ⟨_, rfl, L, N, h⟩
  · show mm_Go (mm_run 4) mc_M_entry _ (89, [(0, .inr (.inr 407)), (2, .inl v2), (4, .inl v4), (5, .inl v5), (6, .inl v6), (7, .inl v7)], [], M)
    replace c86 := Int.not_le.mp c86
    replace h := h.2 c86
    refine mm_s1 rfl ?_
    refine mm_s1 rfl ?_
    refine nn_getr rfl (nn_c407 NN).1 (lf_13_0 L N (nn_c407 NN)) ?_
    refine mm_s1 rfl ?_
    refine mm_s1 rfl ?_
    show mm_Go (mm_run 4) mc_M_entry _ (99, [(0, .inr (.inr 407)), (2, .inl v2), (4, .inl v4), (5, .inl v5), (6, .inl v6), (7, .inl v7)], [.inl v7, .inl v5, .inr (.inr 408), .inl v6], M)
    refine mm_s1 rfl ⟨trivial, ?_⟩
    refine np_M_entryAt (by decide) L N ?_
    show mm_Go (mm_run 4) mc_M_entry _ (102, [(0, .inr (.inr 407)), (2, .inl v2), (4, .inl v4), (5, .inl v5), (6, .inl v6), (7, .inl v7)], [.inl (nf_M_entryAt v5 v7), .inr (.inr 408), .inl v6], M)
    obtain ⟨b102, h⟩ := h
    refine mm_s1 rfl ⟨nn_bd (na_13_0 NN (nn_c407 NN)) b102, ?_⟩
    show mm_Go (mm_run 4) mc_M_entry _ (103, [(0, .inr (.inr 407)), (2, .inl v2), (4, .inl v4), (5, .inl v5), (6, .inl v6), (7, .inl v7)], [.inl (nn_ri M 408 (nf_M_entryAt v5 v7)), .inl v6], M)
    refine mm_s1 rfl ?_
    refine mm_s1 rfl ?_
    refine mm_s1 rfl ?_
    refine mm_s1 rfl ⟨fun c106 => ?_, fun c106 => ?_⟩
    · show mm_Go (mm_run 4) mc_M_entry _ (113, [(0, .inr (.inr 407)), (2, .inl v2), (4, .inl v4), (5, .inl v5), (6, .inl v6), (7, .inl v7)], [.inl v6], M)
      replace h := h.1 c106
      refine mm_s1 rfl ?_
      refine mm_s1 rfl ?_
      refine mm_s1 rfl ?_
      show mm_Go (mm_run 4) mc_M_entry _ (117, [(0, .inr (.inr 407)), (2, .inl v2), (4, .inl v4), (5, .inl v5), (6, .inl (mm_w (v6 + 0))), (7, .inl v7)], [], M)
      refine mm_s1 rfl ?_
      show mm_Go (mm_run 4) mc_M_entry _ (120, [(0, .inr (.inr 407)), (2, .inl v2), (4, .inl v4), (5, .inl v5), (6, .inl (mm_w (v6 + 0))), (7, .inl (mm_w (v7 + 1)))], [], M)
      refine mm_s1 rfl ?_
      show mm_Go (mm_run 4) mc_M_entry _ (74, [(0, .inr (.inr 407)), (2, .inl v2), (4, .inl v4), (5, .inl v5), (6, .inl (mm_w (v6 + 0))), (7, .inl (mm_w (v7 + 1)))], [], M)
      exact nn_go_ext (nn_xc rfl (nn_xc rfl (nn_xc rfl (nn_xc rfl (nn_xc rfl (nn_xc rfl nn_xn)))))) (h n L N)
    · show mm_Go (mm_run 4) mc_M_entry _ (109, [(0, .inr (.inr 407)), (2, .inl v2), (4, .inl v4), (5, .inl v5), (6, .inl v6), (7, .inl v7)], [.inl v6], M)
      replace c106 := Int.not_le.mp c106
      replace h := h.2 c106
      refine mm_s1 rfl ?_
      refine mm_s1 rfl ?_
      show mm_Go (mm_run 4) mc_M_entry _ (114, [(0, .inr (.inr 407)), (2, .inl v2), (4, .inl v4), (5, .inl v5), (6, .inl v6), (7, .inl v7)], [.inl 1, .inl v6], M)
      refine mm_s1 rfl ?_
      refine mm_s1 rfl ?_
      show mm_Go (mm_run 4) mc_M_entry _ (117, [(0, .inr (.inr 407)), (2, .inl v2), (4, .inl v4), (5, .inl v5), (6, .inl (mm_w (v6 + 1))), (7, .inl v7)], [], M)
      refine mm_s1 rfl ?_
      show mm_Go (mm_run 4) mc_M_entry _ (120, [(0, .inr (.inr 407)), (2, .inl v2), (4, .inl v4), (5, .inl v5), (6, .inl (mm_w (v6 + 1))), (7, .inl (mm_w (v7 + 1)))], [], M)
      refine mm_s1 rfl ?_
      show mm_Go (mm_run 4) mc_M_entry _ (74, [(0, .inr (.inr 407)), (2, .inl v2), (4, .inl v4), (5, .inl v5), (6, .inl (mm_w (v6 + 1))), (7, .inl (mm_w (v7 + 1)))], [], M)
      exact nn_go_ext (nn_xc rfl (nn_xc rfl (nn_xc rfl (nn_xc rfl (nn_xc rfl (nn_xc rfl nn_xn)))))) (h n L N)
def nr_LI_flush  (M : mm_M) (R : Int → mm_M → Prop) : Prop := ∀ n, nn_L M → M.1 = n → mm_run 6 mi_LI_flush [.inr (.inr 1)] M (nw_Z n R)
set_option maxRecDepth 20000 in
theorem ng_LI_flush  (M : mm_M) (R : Int → mm_M → Prop) (h : (((nn_rf M 5 7) ≠ 0 → (nr_Store_flushed 2 M (fun M19 => R 1 M19))) ∧ ((nn_rf M 5 7) = 0 → R 0 M))) : nr_LI_flush  M R := by
  intro n L N 
  have NN := nn_L_n L N
  show mm_Go (mm_run 5) mc_LI_flush _ (0, [(0, .inr (.inr 1))], [], M)
  refine mm_s1 rfl ?_
  refine nn_getr rfl (nn_c1 NN).1 (lf_1_0 L N (nn_c1 NN)) ?_
  refine nn_getr rfl (nc_1_0 NN (nn_c1 NN)).1 (lf_9_1 L N (nc_1_0 NN (nn_c1 NN))) ?_
  refine mm_s1 rfl ⟨(nc_9_1 NN (nc_1_0 NN (nn_c1 NN))).1, ?_⟩
  show mm_Go (mm_run 5) mc_LI_flush _ (10, [(0, .inr (.inr 1))], [.inl (nn_rf M 5 7)], M)
  refine mm_s1 rfl ⟨fun c10 => ?_, fun c10 => ?_⟩
  · show mm_Go (mm_run 5) mc_LI_flush _ (15, [(0, .inr (.inr 1))], [], M)
    replace h := h.1 c10
    refine mm_s1 rfl ?_
    refine nn_getr rfl (nn_c1 NN).1 (lf_1_0 L N (nn_c1 NN)) ?_
    refine mm_s1 rfl ⟨(nc_1_0 NN (nn_c1 NN)).1, ?_⟩
    refine nn_call (D := 5) (by decide) (h n L N (nc_1_0 NN (nn_c1 NN))) ?_
    intro v M19 q; clear L N h
    obtain ⟨rfl, L, N, h⟩ := q
    show mm_Go (mm_run 5) mc_LI_flush _ (22, [(0, .inr (.inr 1))], [], M19)
    refine mm_s1 rfl ?_
    exact mm_s1 rfl ⟨(Or.inr rfl), _, rfl, (Or.inr rfl), L, N, h⟩
  · show mm_Go (mm_run 5) mc_LI_flush _ (13, [(0, .inr (.inr 1))], [], M)
    replace c10 := Decidable.not_not.mp c10
    replace h := h.2 c10
    refine mm_s1 rfl ?_
    exact mm_s1 rfl ⟨(Or.inl rfl), _, rfl, (Or.inl rfl), L, N, h⟩
def nr_LI_merge (v1 : Int) (v2 : Int) (v3 : Int) (M : mm_M) (R : Int → mm_M → Prop) : Prop := ∀ n, nn_L M → M.1 = n → mm_run 6 mi_LI_merge [.inr (.inr 1), .inl v1, .inl v2, .inl v3] M (nw_I n R)
set_option maxRecDepth 20000 in
theorem ng_LI_merge (v1 : Int) (v2 : Int) (v3 : Int) (M : mm_M) (R : Int → mm_M → Prop) (h : ((v1 ≠ (-1) → (nr_Store_find 2 v1 M (fun r20 M20 => (((r20 = 0 ∨ ((nf_Pile_hasRuns (r20 + 8) v2 v3 M20) = 0)) → R (-1) M20) ∧ ((r20 ≠ 0 ∧ ((nf_Pile_hasRuns (r20 + 8) v2 v3 M20) ≠ 0)) → (nr_LI_highest (r20 + 11) v2 v3 M20 (fun r55 M55 => (nr_Pile_mergeRuns (r20 + 8) v2 v3 (mm_w (r55 + 1)) (nn_rf M55 r20 7) 5 M55 (fun M83 => R (nn_rf M83 (r20 + 8) 5) M83))))))))) ∧ (v1 = (-1) → (nr_Store_mergedTable 2 v2 v3 M (fun r11 M11 => R r11 M11))))) : nr_LI_merge v1 v2 v3 M R := by
  intro n L N 
  have NN := nn_L_n L N
  show mm_Go (mm_run 5) mc_LI_merge _ (0, [(0, .inr (.inr 1)), (1, .inl v1), (2, .inl v2), (3, .inl v3)], [], M)
  refine mm_s1 rfl ?_
  refine mm_s1 rfl ?_
  refine mm_s1 rfl ⟨fun c2 => ?_, fun c2 => ?_⟩
  · show mm_Go (mm_run 5) mc_LI_merge _ (15, [(0, .inr (.inr 1)), (1, .inl v1), (2, .inl v2), (3, .inl v3)], [], M)
    replace h := h.1 c2
    refine mm_s1 rfl ?_
    refine nn_getr rfl (nn_c1 NN).1 (lf_1_0 L N (nn_c1 NN)) ?_
    refine mm_s1 rfl ?_
    refine mm_s1 rfl ⟨(nc_1_0 NN (nn_c1 NN)).1, ?_⟩
    refine nn_call (D := 1) (by decide) (h n L N (nc_1_0 NN (nn_c1 NN))) ?_
    intro v M20 q; clear L N h
    obtain ⟨r20, rfl, q20, L, N, h⟩ := q
    show mm_Go (mm_run 5) mc_LI_merge _ (23, [(0, .inr (.inr 1)), (1, .inl v1), (2, .inl v2), (3, .inl v3)], [.inr (.inr r20)], M20)
    refine mm_s1 rfl ?_
    show mm_Go (mm_run 5) mc_LI_merge _ (25, [(0, .inr (.inr 1)), (1, .inl v1), (2, .inl v2), (3, .inl v3), (4, .inr (.inr r20))], [], M20)
    refine mm_s1 rfl ?_
    refine mm_s1 rfl ⟨fun c27 => ?_, fun c27 => ?_⟩
    · show mm_Go (mm_run 5) mc_LI_merge _ (43, [(0, .inr (.inr 1)), (1, .inl v1), (2, .inl v2), (3, .inl v3), (4, .inr (.inr r20))], [], M20)
      refine mm_s1 rfl ?_
      replace h := h.1 (Or.inl c27)
      exact mm_s1 rfl ⟨_, rfl, L, N, h⟩
    · show mm_Go (mm_run 5) mc_LI_merge _ (30, [(0, .inr (.inr 1)), (1, .inl v1), (2, .inl v2), (3, .inl v3), (4, .inr (.inr r20))], [], M20)
      refine mm_s1 rfl ?_
      refine nn_getr rfl (Or.resolve_left q20 c27).1 (lf_5_3 L N (Or.resolve_left q20 c27)) ?_
      refine mm_s1 rfl ?_
      refine mm_s1 rfl ?_
      refine mm_s1 rfl ⟨(nc_5_3 NN (Or.resolve_left q20 c27)).1, ?_⟩
      refine np_Pile_hasRuns (by decide) L N (nc_5_3 NN (Or.resolve_left q20 c27)) ?_
      show mm_Go (mm_run 5) mc_LI_merge _ (40, [(0, .inr (.inr 1)), (1, .inl v1), (2, .inl v2), (3, .inl v3), (4, .inr (.inr r20))], [.inl (nf_Pile_hasRuns (r20 + 8) v2 v3 M20)], M20)
      refine mm_s1 rfl ⟨fun c40 => ?_, fun c40 => ?_⟩
      · show mm_Go (mm_run 5) mc_LI_merge _ (45, [(0, .inr (.inr 1)), (1, .inl v1), (2, .inl v2), (3, .inl v3), (4, .inr (.inr r20))], [], M20)
        refine mm_s1 rfl ?_
        refine nn_getr rfl (Or.resolve_left q20 c27).1 (lf_5_3 L N (Or.resolve_left q20 c27)) ?_
        refine nn_getr rfl (nc_5_3 NN (Or.resolve_left q20 c27)).1 (lf_6_2 L N (nc_5_3 NN (Or.resolve_left q20 c27))) ?_
        refine mm_s1 rfl ?_
        refine mm_s1 rfl ?_
        show mm_Go (mm_run 5) mc_LI_merge _ (55, [(0, .inr (.inr 1)), (1, .inl v1), (2, .inl v2), (3, .inl v3), (4, .inr (.inr r20))], [.inl v3, .inl v2, .inr (.inr (r20 + 11))], M20)
        replace h := h.2 ⟨c27, c40⟩
        refine mm_s1 rfl ⟨trivial, ?_⟩
        refine nn_call (D := 1) (by decide) (h n L N (nc_6_2 NN (nc_5_3 NN (Or.resolve_left q20 c27)))) ?_
        intro v M55 q; clear L N h
        obtain ⟨r55, rfl, L, N, h⟩ := q
        show mm_Go (mm_run 5) mc_LI_merge _ (58, [(0, .inr (.inr 1)), (1, .inl v1), (2, .inl v2), (3, .inl v3), (4, .inr (.inr r20))], [.inl r55], M55)
        refine mm_s1 rfl ?_
        refine mm_s1 rfl ?_
        refine mm_s1 rfl ?_
        show mm_Go (mm_run 5) mc_LI_merge _ (62, [(0, .inr (.inr 1)), (1, .inl v1), (2, .inl v2), (3, .inl v3), (4, .inr (.inr r20)), (5, .inl (mm_w (r55 + 1)))], [], M55)
        refine mm_s1 rfl ?_
        refine nn_getr rfl (Or.resolve_left q20 c27).1 (lf_5_3 L N (Or.resolve_left q20 c27)) ?_
        refine mm_s1 rfl ?_
        refine mm_s1 rfl ?_
        refine mm_s1 rfl ?_
        show mm_Go (mm_run 5) mc_LI_merge _ (71, [(0, .inr (.inr 1)), (1, .inl v1), (2, .inl v2), (3, .inl v3), (4, .inr (.inr r20)), (5, .inl (mm_w (r55 + 1)))], [.inl (mm_w (r55 + 1)), .inl v3, .inl v2, .inr (.inr (r20 + 8))], M55)
        refine mm_s1 rfl ?_
        refine mm_s1 rfl ⟨(Or.resolve_left q20 c27).1, ?_⟩
        show mm_Go (mm_run 5) mc_LI_merge _ (76, [(0, .inr (.inr 1)), (1, .inl v1), (2, .inl v2), (3, .inl v3), (4, .inr (.inr r20)), (5, .inl (mm_w (r55 + 1)))], [.inl (nn_rf M55 r20 7), .inl (mm_w (r55 + 1)), .inl v3, .inl v2, .inr (.inr (r20 + 8))], M55)
        refine mm_s1 rfl ?_
        refine nn_getr rfl (nn_c1 NN).1 (lf_1_0 L N (nn_c1 NN)) ?_
        refine nn_getr rfl (nc_1_0 NN (nn_c1 NN)).1 (lf_9_1 L N (nc_1_0 NN (nn_c1 NN))) ?_
        refine mm_s1 rfl ⟨(nc_5_3 NN (Or.resolve_left q20 c27)).1, ?_⟩
        refine nn_call (D := 3) (by decide) (h n L N (nc_5_3 NN (Or.resolve_left q20 c27)) (nc_9_1 NN (nc_1_0 NN (nn_c1 NN)))) ?_
        intro v M83 q; clear L N h
        obtain ⟨rfl, L, N, h⟩ := q
        show mm_Go (mm_run 5) mc_LI_merge _ (86, [(0, .inr (.inr 1)), (1, .inl v1), (2, .inl v2), (3, .inl v3), (4, .inr (.inr r20)), (5, .inl (mm_w (r55 + 1)))], [], M83)
        refine mm_s1 rfl ?_
        refine nn_getr rfl (Or.resolve_left q20 c27).1 (lf_5_3 L N (Or.resolve_left q20 c27)) ?_
        refine mm_s1 rfl ⟨(nc_5_3 NN (Or.resolve_left q20 c27)).1, ?_⟩
        show mm_Go (mm_run 5) mc_LI_merge _ (94, [(0, .inr (.inr 1)), (1, .inl v1), (2, .inl v2), (3, .inl v3), (4, .inr (.inr r20)), (5, .inl (mm_w (r55 + 1)))], [.inl (nn_rf M83 (r20 + 8) 5)], M83)
        exact mm_s1 rfl ⟨_, rfl, L, N, h⟩
      · show mm_Go (mm_run 5) mc_LI_merge _ (43, [(0, .inr (.inr 1)), (1, .inl v1), (2, .inl v2), (3, .inl v3), (4, .inr (.inr r20))], [], M20)
        replace c40 := Decidable.not_not.mp c40
        refine mm_s1 rfl ?_
        replace h := h.1 (Or.inr c40)
        exact mm_s1 rfl ⟨_, rfl, L, N, h⟩
  · show mm_Go (mm_run 5) mc_LI_merge _ (5, [(0, .inr (.inr 1)), (1, .inl v1), (2, .inl v2), (3, .inl v3)], [], M)
    replace c2 := Decidable.not_not.mp c2
    replace h := h.2 c2
    refine mm_s1 rfl ?_
    refine nn_getr rfl (nn_c1 NN).1 (lf_1_0 L N (nn_c1 NN)) ?_
    refine mm_s1 rfl ?_
    refine mm_s1 rfl ?_
    refine mm_s1 rfl ⟨(nc_1_0 NN (nn_c1 NN)).1, ?_⟩
    refine nn_call (D := 5) (by decide) (h n L N (nc_1_0 NN (nn_c1 NN))) ?_
    intro v M11 q; clear L N h
    obtain ⟨r11, rfl, L, N, h⟩ := q
    show mm_Go (mm_run 5) mc_LI_merge _ (14, [(0, .inr (.inr 1)), (1, .inl v1), (2, .inl v2), (3, .inl v3)], [.inl r11], M11)
    exact mm_s1 rfl ⟨_, rfl, L, N, h⟩
def nr_LI_index (v1 : Int) (v2 : Int) (M : mm_M) (R : Int → mm_M → Prop) : Prop := ∀ n, nn_L M → M.1 = n → mm_run 6 mi_LI_index [.inr (.inr 1), .inl v1, .inl v2] M (nw_I n R)
set_option maxRecDepth 20000 in
theorem ng_LI_index (v1 : Int) (v2 : Int) (M : mm_M) (R : Int → mm_M → Prop) (h : (nr_Store_find 2 v1 M (fun r5 M5 => ((r5 ≠ 0 → ((v2 < 20 → ((v2 < 10 → (nr_Index_told r5 v2 9 M5 (fun r74 M74 => R r74 M74))) ∧ (10 ≤ v2 → ((12 < v2 → (nr_Index_told r5 v2 9 M5 (fun r74 M74 => R r74 M74))) ∧ (v2 ≤ 12 → (((nn_rf M5 r5 5) ≠ 2 → R (-2) M5) ∧ ((nn_rf M5 r5 5) = 2 → (nr_Index_toldOfValues r5 v2 M5 (fun r53 M53 => R r53 M53))))))))) ∧ (20 ≤ v2 → (nr_Pile_told (r5 + 8) v2 M5 (fun r27 M27 => R r27 M27))))) ∧ (r5 = 0 → R (-2) M5))))) : nr_LI_index v1 v2 M R := by
  intro n L N 
  have NN := nn_L_n L N
  show mm_Go (mm_run 5) mc_LI_index _ (0, [(0, .inr (.inr 1)), (1, .inl v1), (2, .inl v2)], [], M)
  refine mm_s1 rfl ?_
  refine nn_getr rfl (nn_c1 NN).1 (lf_1_0 L N (nn_c1 NN)) ?_
  refine mm_s1 rfl ?_
  refine mm_s1 rfl ⟨(nc_1_0 NN (nn_c1 NN)).1, ?_⟩
  refine nn_call (D := 1) (by decide) (h n L N (nc_1_0 NN (nn_c1 NN))) ?_
  intro v M5 q; clear L N h
  obtain ⟨r5, rfl, q5, L, N, h⟩ := q
  show mm_Go (mm_run 5) mc_LI_index _ (8, [(0, .inr (.inr 1)), (1, .inl v1), (2, .inl v2)], [.inr (.inr r5)], M5)
  refine mm_s1 rfl ?_
  show mm_Go (mm_run 5) mc_LI_index _ (9, [(0, .inr (.inr 1)), (1, .inl v1), (2, .inl v2), (3, .inr (.inr r5))], [], M5)
  refine mm_s1 rfl ?_
  refine mm_s1 rfl ⟨fun c10 => ?_, fun c10 => ?_⟩
  · show mm_Go (mm_run 5) mc_LI_index _ (16, [(0, .inr (.inr 1)), (1, .inl v1), (2, .inl v2), (3, .inr (.inr r5))], [], M5)
    replace h := h.1 c10
    refine mm_s1 rfl ?_
    refine mm_s1 rfl ?_
    refine mm_s1 rfl ⟨fun c19 => ?_, fun c19 => ?_⟩
    · show mm_Go (mm_run 5) mc_LI_index _ (31, [(0, .inr (.inr 1)), (1, .inl v1), (2, .inl v2), (3, .inr (.inr r5))], [], M5)
      replace h := h.1 c19
      refine mm_s1 rfl ?_
      refine mm_s1 rfl ?_
      refine mm_s1 rfl ⟨fun c34 => ?_, fun c34 => ?_⟩
      · show mm_Go (mm_run 5) mc_LI_index _ (62, [(0, .inr (.inr 1)), (1, .inl v1), (2, .inl v2), (3, .inr (.inr r5))], [], M5)
        replace h := h.1 c34
        refine mm_s1 rfl ?_
        refine mm_s1 rfl ?_
        refine mm_s1 rfl ?_
        refine nn_getr rfl (nn_c1 NN).1 (lf_1_0 L N (nn_c1 NN)) ?_
        refine nn_getr rfl (nc_1_0 NN (nn_c1 NN)).1 (lf_9_1 L N (nc_1_0 NN (nn_c1 NN))) ?_
        show mm_Go (mm_run 5) mc_LI_index _ (71, [(0, .inr (.inr 1)), (1, .inl v1), (2, .inl v2), (3, .inr (.inr r5))], [.inr (.inr 5), .inl v2, .inr (.inr r5)], M5)
        refine nn_getr rfl (nc_9_1 NN (nc_1_0 NN (nn_c1 NN))).1 (lf_10_1 L N (nc_9_1 NN (nc_1_0 NN (nn_c1 NN)))) ?_
        refine mm_s1 rfl ⟨(Or.resolve_left q5 c10).1, ?_⟩
        refine nn_call (D := 5) (by decide) (h n L N (Or.resolve_left q5 c10) (nc_10_1 NN (nc_9_1 NN (nc_1_0 NN (nn_c1 NN))))) ?_
        intro v M74 q; clear L N h
        obtain ⟨r74, rfl, L, N, h⟩ := q
        show mm_Go (mm_run 5) mc_LI_index _ (77, [(0, .inr (.inr 1)), (1, .inl v1), (2, .inl v2), (3, .inr (.inr r5))], [.inl r74], M74)
        exact mm_s1 rfl ⟨_, rfl, L, N, h⟩
      · show mm_Go (mm_run 5) mc_LI_index _ (37, [(0, .inr (.inr 1)), (1, .inl v1), (2, .inl v2), (3, .inr (.inr r5))], [], M5)
        replace c34 := Int.not_lt.mp c34
        replace h := h.2 c34
        refine mm_s1 rfl ?_
        refine mm_s1 rfl ?_
        refine mm_s1 rfl ⟨fun c40 => ?_, fun c40 => ?_⟩
        · show mm_Go (mm_run 5) mc_LI_index _ (62, [(0, .inr (.inr 1)), (1, .inl v1), (2, .inl v2), (3, .inr (.inr r5))], [], M5)
          replace h := h.1 c40
          refine mm_s1 rfl ?_
          refine mm_s1 rfl ?_
          refine mm_s1 rfl ?_
          refine nn_getr rfl (nn_c1 NN).1 (lf_1_0 L N (nn_c1 NN)) ?_
          refine nn_getr rfl (nc_1_0 NN (nn_c1 NN)).1 (lf_9_1 L N (nc_1_0 NN (nn_c1 NN))) ?_
          show mm_Go (mm_run 5) mc_LI_index _ (71, [(0, .inr (.inr 1)), (1, .inl v1), (2, .inl v2), (3, .inr (.inr r5))], [.inr (.inr 5), .inl v2, .inr (.inr r5)], M5)
          refine nn_getr rfl (nc_9_1 NN (nc_1_0 NN (nn_c1 NN))).1 (lf_10_1 L N (nc_9_1 NN (nc_1_0 NN (nn_c1 NN)))) ?_
          refine mm_s1 rfl ⟨(Or.resolve_left q5 c10).1, ?_⟩
          refine nn_call (D := 5) (by decide) (h n L N (Or.resolve_left q5 c10) (nc_10_1 NN (nc_9_1 NN (nc_1_0 NN (nn_c1 NN))))) ?_
          intro v M74 q; clear L N h
          obtain ⟨r74, rfl, L, N, h⟩ := q
          show mm_Go (mm_run 5) mc_LI_index _ (77, [(0, .inr (.inr 1)), (1, .inl v1), (2, .inl v2), (3, .inr (.inr r5))], [.inl r74], M74)
          exact mm_s1 rfl ⟨_, rfl, L, N, h⟩
        · show mm_Go (mm_run 5) mc_LI_index _ (43, [(0, .inr (.inr 1)), (1, .inl v1), (2, .inl v2), (3, .inr (.inr r5))], [], M5)
          replace c40 := Int.not_lt.mp c40
          replace h := h.2 c40
          refine mm_s1 rfl ?_
          refine mm_s1 rfl ⟨(Or.resolve_left q5 c10).1, ?_⟩
          show mm_Go (mm_run 5) mc_LI_index _ (47, [(0, .inr (.inr 1)), (1, .inl v1), (2, .inl v2), (3, .inr (.inr r5))], [.inl (nn_rf M5 r5 5)], M5)
          refine mm_s1 rfl ?_
          refine mm_s1 rfl ⟨fun c48 => ?_, fun c48 => ?_⟩
          · show mm_Go (mm_run 5) mc_LI_index _ (59, [(0, .inr (.inr 1)), (1, .inl v1), (2, .inl v2), (3, .inr (.inr r5))], [], M5)
            replace h := h.1 c48
            refine mm_s1 rfl ?_
            exact mm_s1 rfl ⟨_, rfl, L, N, h⟩
          · show mm_Go (mm_run 5) mc_LI_index _ (51, [(0, .inr (.inr 1)), (1, .inl v1), (2, .inl v2), (3, .inr (.inr r5))], [], M5)
            replace c48 := Decidable.not_not.mp c48
            replace h := h.2 c48
            refine mm_s1 rfl ?_
            refine mm_s1 rfl ?_
            refine mm_s1 rfl ⟨(Or.resolve_left q5 c10).1, ?_⟩
            refine nn_call (D := 2) (by decide) (h n L N (Or.resolve_left q5 c10)) ?_
            intro v M53 q; clear L N h
            obtain ⟨r53, rfl, L, N, h⟩ := q
            show mm_Go (mm_run 5) mc_LI_index _ (56, [(0, .inr (.inr 1)), (1, .inl v1), (2, .inl v2), (3, .inr (.inr r5))], [.inl r53], M53)
            refine mm_s1 rfl ?_
            show mm_Go (mm_run 5) mc_LI_index _ (61, [(0, .inr (.inr 1)), (1, .inl v1), (2, .inl v2), (3, .inr (.inr r5))], [.inl r53], M53)
            exact mm_s1 rfl ⟨_, rfl, L, N, h⟩
    · show mm_Go (mm_run 5) mc_LI_index _ (22, [(0, .inr (.inr 1)), (1, .inl v1), (2, .inl v2), (3, .inr (.inr r5))], [], M5)
      replace c19 := Int.not_lt.mp c19
      replace h := h.2 c19
      refine mm_s1 rfl ?_
      refine nn_getr rfl (Or.resolve_left q5 c10).1 (lf_5_3 L N (Or.resolve_left q5 c10)) ?_
      refine mm_s1 rfl ?_
      refine mm_s1 rfl ⟨(nc_5_3 NN (Or.resolve_left q5 c10)).1, ?_⟩
      refine nn_call (D := 2) (by decide) (h n L N (nc_5_3 NN (Or.resolve_left q5 c10))) ?_
      intro v M27 q; clear L N h
      obtain ⟨r27, rfl, L, N, h⟩ := q
      show mm_Go (mm_run 5) mc_LI_index _ (30, [(0, .inr (.inr 1)), (1, .inl v1), (2, .inl v2), (3, .inr (.inr r5))], [.inl r27], M27)
      exact mm_s1 rfl ⟨_, rfl, L, N, h⟩
  · show mm_Go (mm_run 5) mc_LI_index _ (13, [(0, .inr (.inr 1)), (1, .inl v1), (2, .inl v2), (3, .inr (.inr r5))], [], M5)
    replace c10 := Decidable.not_not.mp c10
    replace h := h.2 c10
    refine mm_s1 rfl ?_
    exact mm_s1 rfl ⟨_, rfl, L, N, h⟩
def nr_Store_write (v0 : Nat) (v1 : Int) (v2 : Int) (v3 : Int) (M : mm_M) (R : Int → mm_M → Prop) : Prop := ∀ n, nn_L M → M.1 = n → nn_C 9 v0 n → mm_run 6 mi_Store_write [.inr (.inr v0), .inl v1, .inl v2, .inl v3] M (nw_I n R)
def nk_Store_write_48 (v0 : Nat) (v2 : Int) (v3 : Int) (v4 : Int) (v5 : Int) (M : mm_M) (R : Int → mm_M → Prop) : Prop := ∀ n, nn_L M → M.1 = n → nn_C 9 v0 n → mm_Go (mm_run 5) mc_Store_write (nw_I n R) (48, [(0, .inr (.inr v0)), (2, .inl v2), (3, .inl v3), (4, .inl v4), (5, .inl v5)], [], M)
def nk_Store_write_108 (v0 : Nat) (v4 : Int) (v5 : Int) (M : mm_M) (R : Int → mm_M → Prop) : Prop := ∀ n, nn_L M → M.1 = n → nn_C 9 v0 n → mm_Go (mm_run 5) mc_Store_write (nw_I n R) (108, [(0, .inr (.inr v0)), (4, .inl v4), (5, .inl v5)], [], M)
set_option maxRecDepth 20000 in
theorem ng_Store_write (v0 : Nat) (v1 : Int) (v2 : Int) (v3 : Int) (M : mm_M) (R : Int → mm_M → Prop) (h : ((v1 = 3 → (nr_Table_write (v0 + 3) v2 v3 M (fun M33 => nk_Store_write_48 v0 v2 v3 (nn_rf M33 (v0 + 3) 6) 0 M33 R))) ∧ (v1 ≠ 3 → (nr_Store_isRefused v0 v1 v2 v3 M (fun r9 M9 => ((r9 = 0 → (nr_Table_write (v0 + 3) v2 v3 M9 (fun M33 => nk_Store_write_48 v0 v2 v3 (nn_rf M33 (v0 + 3) 6) 0 M33 R))) ∧ (r9 ≠ 0 → (∀ M22 : mm_M, M22 = nn_uf M9 v0 11 (mm_w ((nn_rf M9 v0 11) + 1)) → R (-1) M22)))))))) : nr_Store_write v0 v1 v2 v3 M R := by
  intro n L N C0
  have NN := nn_L_n L N
  show mm_Go (mm_run 5) mc_Store_write _ (0, [(0, .inr (.inr v0)), (1, .inl v1), (2, .inl v2), (3, .inl v3)], [], M)
  refine mm_s1 rfl ?_
  refine mm_s1 rfl ?_
  refine mm_s1 rfl ⟨fun c2 => ?_, fun c2 => ?_⟩
  · show mm_Go (mm_run 5) mc_Store_write _ (27, [(0, .inr (.inr v0)), (1, .inl v1), (2, .inl v2), (3, .inl v3)], [], M)
    replace h := h.1 c2
    refine mm_s1 rfl ?_
    refine nn_getr rfl C0.1 (lf_9_1 L N C0) ?_
    refine mm_s1 rfl ?_
    refine mm_s1 rfl ?_
    refine mm_s1 rfl ⟨(nc_9_1 NN C0).1, ?_⟩
    refine nn_call (D := 2) (by decide) (h n L N (nc_9_1 NN C0)) ?_
    intro v M33 q; clear L N h
    obtain ⟨rfl, L, N, h⟩ := q
    show mm_Go (mm_run 5) mc_Store_write _ (36, [(0, .inr (.inr v0)), (1, .inl v1), (2, .inl v2), (3, .inl v3)], [], M33)
    refine mm_s1 rfl ?_
    refine nn_getr rfl C0.1 (lf_9_1 L N C0) ?_
    refine mm_s1 rfl ⟨(nc_9_1 NN C0).1, ?_⟩
    show mm_Go (mm_run 5) mc_Store_write _ (43, [(0, .inr (.inr v0)), (1, .inl v1), (2, .inl v2), (3, .inl v3)], [.inl (nn_rf M33 (v0 + 3) 6)], M33)
    refine mm_s1 rfl ?_
    show mm_Go (mm_run 5) mc_Store_write _ (45, [(0, .inr (.inr v0)), (1, .inl v1), (2, .inl v2), (3, .inl v3), (4, .inl (nn_rf M33 (v0 + 3) 6))], [], M33)
    refine mm_s1 rfl ?_
    refine mm_s1 rfl ?_
    show mm_Go (mm_run 5) mc_Store_write _ (48, [(0, .inr (.inr v0)), (1, .inl v1), (2, .inl v2), (3, .inl v3), (4, .inl (nn_rf M33 (v0 + 3) 6)), (5, .inl 0)], [], M33)
    exact nn_go_ext (nn_xc rfl (nn_xc rfl (nn_xc rfl (nn_xc rfl (nn_xc rfl nn_xn))))) (h n L N C0)
  · show mm_Go (mm_run 5) mc_Store_write _ (5, [(0, .inr (.inr v0)), (1, .inl v1), (2, .inl v2), (3, .inl v3)], [], M)
    replace h := h.2 c2
    refine mm_s1 rfl ?_
    refine mm_s1 rfl ?_
    refine mm_s1 rfl ?_
    refine mm_s1 rfl ?_
    refine mm_s1 rfl ⟨C0.1, ?_⟩
    refine nn_call (D := 4) (by decide) (h n L N C0) ?_
    intro v M9 q; clear L N h
    obtain ⟨r9, rfl, q9, L, N, h⟩ := q
    show mm_Go (mm_run 5) mc_Store_write _ (12, [(0, .inr (.inr v0)), (1, .inl v1), (2, .inl v2), (3, .inl v3)], [.inl r9], M9)
    refine mm_s1 rfl ⟨fun c12 => ?_, fun c12 => ?_⟩
    · show mm_Go (mm_run 5) mc_Store_write _ (27, [(0, .inr (.inr v0)), (1, .inl v1), (2, .inl v2), (3, .inl v3)], [], M9)
      replace h := h.1 c12
      refine mm_s1 rfl ?_
      refine nn_getr rfl C0.1 (lf_9_1 L N C0) ?_
      refine mm_s1 rfl ?_
      refine mm_s1 rfl ?_
      refine mm_s1 rfl ⟨(nc_9_1 NN C0).1, ?_⟩
      refine nn_call (D := 2) (by decide) (h n L N (nc_9_1 NN C0)) ?_
      intro v M33 q; clear L N h
      obtain ⟨rfl, L, N, h⟩ := q
      show mm_Go (mm_run 5) mc_Store_write _ (36, [(0, .inr (.inr v0)), (1, .inl v1), (2, .inl v2), (3, .inl v3)], [], M33)
      refine mm_s1 rfl ?_
      refine nn_getr rfl C0.1 (lf_9_1 L N C0) ?_
      refine mm_s1 rfl ⟨(nc_9_1 NN C0).1, ?_⟩
      show mm_Go (mm_run 5) mc_Store_write _ (43, [(0, .inr (.inr v0)), (1, .inl v1), (2, .inl v2), (3, .inl v3)], [.inl (nn_rf M33 (v0 + 3) 6)], M33)
      refine mm_s1 rfl ?_
      show mm_Go (mm_run 5) mc_Store_write _ (45, [(0, .inr (.inr v0)), (1, .inl v1), (2, .inl v2), (3, .inl v3), (4, .inl (nn_rf M33 (v0 + 3) 6))], [], M33)
      refine mm_s1 rfl ?_
      refine mm_s1 rfl ?_
      show mm_Go (mm_run 5) mc_Store_write _ (48, [(0, .inr (.inr v0)), (1, .inl v1), (2, .inl v2), (3, .inl v3), (4, .inl (nn_rf M33 (v0 + 3) 6)), (5, .inl 0)], [], M33)
      exact nn_go_ext (nn_xc rfl (nn_xc rfl (nn_xc rfl (nn_xc rfl (nn_xc rfl nn_xn))))) (h n L N C0)
    · show mm_Go (mm_run 5) mc_Store_write _ (15, [(0, .inr (.inr v0)), (1, .inl v1), (2, .inl v2), (3, .inl v3)], [], M9)
      replace h := h.2 c12
      refine mm_s1 rfl ?_
      refine mm_s1 rfl ?_
      refine mm_s1 rfl ⟨C0.1, ?_⟩
      show mm_Go (mm_run 5) mc_Store_write _ (20, [(0, .inr (.inr v0)), (1, .inl v1), (2, .inl v2), (3, .inl v3)], [.inl (nn_rf M9 v0 11), .inr (.inr v0)], M9)
      refine mm_s1 rfl ?_
      refine mm_s1 rfl ?_
      refine mm_s1 rfl ⟨C0.1, ?_⟩
      show mm_Go (mm_run 5) mc_Store_write _ (25, [(0, .inr (.inr v0)), (1, .inl v1), (2, .inl v2), (3, .inl v3)], [], (nn_uf M9 v0 11 (mm_w ((nn_rf M9 v0 11) + 1))))
      have L : nn_L (nn_uf M9 v0 11 (mm_w ((nn_rf M9 v0 11) + 1))) := nn_L_up L C0.1 rfl
      have N : (nn_uf M9 v0 11 (mm_w ((nn_rf M9 v0 11) + 1))).1 = n := N
      generalize e_M22 : (nn_uf M9 v0 11 (mm_w ((nn_rf M9 v0 11) + 1))) = M22 at L N ⊢
      replace h := h _ e_M22.symm
      show mm_Go (mm_run 5) mc_Store_write _ (25, [(0, .inr (.inr v0)), (1, .inl v1), (2, .inl v2), (3, .inl v3)], [], M22)
      refine mm_s1 rfl ?_
      exact mm_s1 rfl ⟨_, rfl, L, N, h⟩
set_option maxRecDepth 20000 in
theorem ng_Store_write_48 (v0 : Nat) (v2 : Int) (v3 : Int) (v4 : Int) (v5 : Int) (M : mm_M) (R : Int → mm_M → Prop) (h : ((4 ≤ v5 → (((nn_rf M (v0 + 3) 7) < (nn_rf M v0 7) → nk_Store_write_108 v0 v4 0 M R) ∧ ((nn_rf M v0 7) ≤ (nn_rf M (v0 + 3) 7) → (nr_Store_flushed v0 M (fun M102 => nk_Store_write_108 v0 v4 0 M102 R))))) ∧ (v5 < 4 → (((0 : Int) ≤ v5 ∧ v5 < (4 : Int)) ∧ (((nn_rf M (v0 + 90 + 15 * (v5).toNat) 5) = 0 → nk_Store_write_48 v0 v2 v3 v4 (mm_w (v5 + 1)) M R) ∧ ((nn_rf M (v0 + 90 + 15 * (v5).toNat) 5) ≠ 0 → (((0 : Int) ≤ v5 ∧ v5 < (4 : Int)) ∧ (nr_Index_take (v0 + 90 + 15 * (v5).toNat) v2 v3 v4 M (fun M78 => nk_Store_write_48 v0 v2 v3 v4 (mm_w (v5 + 1)) M78 R))))))))) : nk_Store_write_48 v0 v2 v3 v4 v5 M R := by
  intro n L N C0
  have NN := nn_L_n L N
  show mm_Go (mm_run 5) mc_Store_write _ (48, [(0, .inr (.inr v0)), (2, .inl v2), (3, .inl v3), (4, .inl v4), (5, .inl v5)], [], M)
  refine mm_s1 rfl ?_
  refine mm_s1 rfl ?_
  refine mm_s1 rfl ⟨fun c51 => ?_, fun c51 => ?_⟩
  · show mm_Go (mm_run 5) mc_Store_write _ (87, [(0, .inr (.inr v0)), (2, .inl v2), (3, .inl v3), (4, .inl v4), (5, .inl v5)], [], M)
    replace h := h.1 c51
    refine mm_s1 rfl ?_
    refine nn_getr rfl C0.1 (lf_9_1 L N C0) ?_
    refine mm_s1 rfl ⟨(nc_9_1 NN C0).1, ?_⟩
    show mm_Go (mm_run 5) mc_Store_write _ (94, [(0, .inr (.inr v0)), (2, .inl v2), (3, .inl v3), (4, .inl v4), (5, .inl v5)], [.inl (nn_rf M (v0 + 3) 7)], M)
    refine mm_s1 rfl ?_
    refine mm_s1 rfl ⟨C0.1, ?_⟩
    show mm_Go (mm_run 5) mc_Store_write _ (98, [(0, .inr (.inr v0)), (2, .inl v2), (3, .inl v3), (4, .inl v4), (5, .inl v5)], [.inl (nn_rf M v0 7), .inl (nn_rf M (v0 + 3) 7)], M)
    refine mm_s1 rfl ⟨fun c98 => ?_, fun c98 => ?_⟩
    · show mm_Go (mm_run 5) mc_Store_write _ (105, [(0, .inr (.inr v0)), (2, .inl v2), (3, .inl v3), (4, .inl v4), (5, .inl v5)], [], M)
      replace h := h.1 c98
      refine mm_s1 rfl ?_
      refine mm_s1 rfl ?_
      show mm_Go (mm_run 5) mc_Store_write _ (108, [(0, .inr (.inr v0)), (2, .inl v2), (3, .inl v3), (4, .inl v4), (5, .inl 0)], [], M)
      exact nn_go_ext (nn_xc rfl (nn_xc rfl (nn_xc rfl nn_xn))) (h n L N C0)
    · show mm_Go (mm_run 5) mc_Store_write _ (101, [(0, .inr (.inr v0)), (2, .inl v2), (3, .inl v3), (4, .inl v4), (5, .inl v5)], [], M)
      replace c98 := Int.not_lt.mp c98
      replace h := h.2 c98
      refine mm_s1 rfl ?_
      refine mm_s1 rfl ⟨C0.1, ?_⟩
      refine nn_call (D := 5) (by decide) (h n L N C0) ?_
      intro v M102 q; clear L N h
      obtain ⟨rfl, L, N, h⟩ := q
      show mm_Go (mm_run 5) mc_Store_write _ (105, [(0, .inr (.inr v0)), (2, .inl v2), (3, .inl v3), (4, .inl v4), (5, .inl v5)], [], M102)
      refine mm_s1 rfl ?_
      refine mm_s1 rfl ?_
      show mm_Go (mm_run 5) mc_Store_write _ (108, [(0, .inr (.inr v0)), (2, .inl v2), (3, .inl v3), (4, .inl v4), (5, .inl 0)], [], M102)
      exact nn_go_ext (nn_xc rfl (nn_xc rfl (nn_xc rfl nn_xn))) (h n L N C0)
  · show mm_Go (mm_run 5) mc_Store_write _ (54, [(0, .inr (.inr v0)), (2, .inl v2), (3, .inl v3), (4, .inl v4), (5, .inl v5)], [], M)
    replace c51 := Int.not_le.mp c51
    replace h := h.2 c51
    refine mm_s1 rfl ?_
    refine nn_getr rfl C0.1 (lf_9_2 L N C0) ?_
    refine mm_s1 rfl ?_
    obtain ⟨b60, h⟩ := h
    have C60 : nn_C 5 (v0 + 90 + 15 * (v5).toNat) n := (nn_arr NN (nc_9_2 NN C0).2).1 (nc_9_2 NN C0).1 _ (nn_tn b60 (by decide))
    refine nn_aald rfl (nn_bd30 (na_9_2 NN C0) (by decide) b60) (nn_l35 L N (nc_9_2 NN C0) b60) ?_
    show mm_Go (mm_run 5) mc_Store_write _ (61, [(0, .inr (.inr v0)), (2, .inl v2), (3, .inl v3), (4, .inl v4), (5, .inl v5)], [.inr (.inr (v0 + 90 + 15 * (v5).toNat))], M)
    refine mm_s1 rfl ⟨C60.1, ?_⟩
    show mm_Go (mm_run 5) mc_Store_write _ (64, [(0, .inr (.inr v0)), (2, .inl v2), (3, .inl v3), (4, .inl v4), (5, .inl v5)], [.inl (nn_rf M (v0 + 90 + 15 * (v5).toNat) 5)], M)
    refine mm_s1 rfl ⟨fun c64 => ?_, fun c64 => ?_⟩
    · show mm_Go (mm_run 5) mc_Store_write _ (81, [(0, .inr (.inr v0)), (2, .inl v2), (3, .inl v3), (4, .inl v4), (5, .inl v5)], [], M)
      replace h := h.1 c64
      refine mm_s1 rfl ?_
      show mm_Go (mm_run 5) mc_Store_write _ (84, [(0, .inr (.inr v0)), (2, .inl v2), (3, .inl v3), (4, .inl v4), (5, .inl (mm_w (v5 + 1)))], [], M)
      refine mm_s1 rfl ?_
      show mm_Go (mm_run 5) mc_Store_write _ (48, [(0, .inr (.inr v0)), (2, .inl v2), (3, .inl v3), (4, .inl v4), (5, .inl (mm_w (v5 + 1)))], [], M)
      exact nn_go_ext (nn_xc rfl (nn_xc rfl (nn_xc rfl (nn_xc rfl (nn_xc rfl nn_xn))))) (h n L N C0)
    · show mm_Go (mm_run 5) mc_Store_write _ (67, [(0, .inr (.inr v0)), (2, .inl v2), (3, .inl v3), (4, .inl v4), (5, .inl v5)], [], M)
      replace h := h.2 c64
      refine mm_s1 rfl ?_
      refine nn_getr rfl C0.1 (lf_9_2 L N C0) ?_
      refine mm_s1 rfl ?_
      obtain ⟨b73, h⟩ := h
      have C73 : nn_C 5 (v0 + 90 + 15 * (v5).toNat) n := (nn_arr NN (nc_9_2 NN C0).2).1 (nc_9_2 NN C0).1 _ (nn_tn b73 (by decide))
      refine nn_aald rfl (nn_bd30 (na_9_2 NN C0) (by decide) b73) (nn_l35 L N (nc_9_2 NN C0) b73) ?_
      show mm_Go (mm_run 5) mc_Store_write _ (74, [(0, .inr (.inr v0)), (2, .inl v2), (3, .inl v3), (4, .inl v4), (5, .inl v5)], [.inr (.inr (v0 + 90 + 15 * (v5).toNat))], M)
      refine mm_s1 rfl ?_
      refine mm_s1 rfl ?_
      refine mm_s1 rfl ?_
      refine mm_s1 rfl ⟨C73.1, ?_⟩
      refine nn_call (D := 4) (by decide) (h n L N C73) ?_
      intro v M78 q; clear L N h
      obtain ⟨rfl, L, N, h⟩ := q
      show mm_Go (mm_run 5) mc_Store_write _ (81, [(0, .inr (.inr v0)), (2, .inl v2), (3, .inl v3), (4, .inl v4), (5, .inl v5)], [], M78)
      refine mm_s1 rfl ?_
      show mm_Go (mm_run 5) mc_Store_write _ (84, [(0, .inr (.inr v0)), (2, .inl v2), (3, .inl v3), (4, .inl v4), (5, .inl (mm_w (v5 + 1)))], [], M78)
      refine mm_s1 rfl ?_
      show mm_Go (mm_run 5) mc_Store_write _ (48, [(0, .inr (.inr v0)), (2, .inl v2), (3, .inl v3), (4, .inl v4), (5, .inl (mm_w (v5 + 1)))], [], M78)
      exact nn_go_ext (nn_xc rfl (nn_xc rfl (nn_xc rfl (nn_xc rfl (nn_xc rfl nn_xn))))) (h n L N C0)
set_option maxRecDepth 20000 in
theorem ng_Store_write_108 (v0 : Nat) (v4 : Int) (v5 : Int) (M : mm_M) (R : Int → mm_M → Prop) (h : ((4 ≤ v5 → R v4 M) ∧ (v5 < 4 → (((0 : Int) ≤ v5 ∧ v5 < (4 : Int)) ∧ ((((nn_rf M (v0 + 90 + 15 * (v5).toNat) 5) ≠ 0) → ((0 : Int) ≤ v5 ∧ v5 < (4 : Int))) ∧ (((nn_rf M (v0 + 90 + 15 * (v5).toNat) 5) ≠ 0) → (nc_Index_size (v0 + 90 + 15 * (v5).toNat) M)) ∧ (((nn_rf M (v0 + 90 + 15 * (v5).toNat) 5) ≠ 0) ∧ (96 < (nf_Index_size (v0 + 90 + 15 * (v5).toNat) M)) → ((0 : Int) ≤ v5 ∧ v5 < (4 : Int))) ∧ (((nn_rf M (v0 + 90 + 15 * (v5).toNat) 5) = 0 ∨ ((nf_Index_size (v0 + 90 + 15 * (v5).toNat) M) ≤ 96)) → nk_Store_write_108 v0 v4 (mm_w (v5 + 1)) M R) ∧ (((nn_rf M (v0 + 90 + 15 * (v5).toNat) 5) ≠ 0 ∧ (96 < (nf_Index_size (v0 + 90 + 15 * (v5).toNat) M))) → (nr_Pile_repairRuns ((v0 + 90 + 15 * (v5).toNat) + 8) (v0 + 3) M (fun r156 M156 => nk_Store_write_108 v0 v4 (mm_w (v5 + 1)) M156 R)))))))) : nk_Store_write_108 v0 v4 v5 M R := by
  intro n L N C0
  have NN := nn_L_n L N
  show mm_Go (mm_run 5) mc_Store_write _ (108, [(0, .inr (.inr v0)), (4, .inl v4), (5, .inl v5)], [], M)
  refine mm_s1 rfl ?_
  refine mm_s1 rfl ?_
  refine mm_s1 rfl ⟨fun c111 => ?_, fun c111 => ?_⟩
  · show mm_Go (mm_run 5) mc_Store_write _ (166, [(0, .inr (.inr v0)), (4, .inl v4), (5, .inl v5)], [], M)
    replace h := h.1 c111
    refine mm_s1 rfl ?_
    exact mm_s1 rfl ⟨_, rfl, L, N, h⟩
  · show mm_Go (mm_run 5) mc_Store_write _ (114, [(0, .inr (.inr v0)), (4, .inl v4), (5, .inl v5)], [], M)
    replace c111 := Int.not_le.mp c111
    replace h := h.2 c111
    refine mm_s1 rfl ?_
    refine nn_getr rfl C0.1 (lf_9_2 L N C0) ?_
    refine mm_s1 rfl ?_
    obtain ⟨b120, h⟩ := h
    have C120 : nn_C 5 (v0 + 90 + 15 * (v5).toNat) n := (nn_arr NN (nc_9_2 NN C0).2).1 (nc_9_2 NN C0).1 _ (nn_tn b120 (by decide))
    refine nn_aald rfl (nn_bd30 (na_9_2 NN C0) (by decide) b120) (nn_l35 L N (nc_9_2 NN C0) b120) ?_
    show mm_Go (mm_run 5) mc_Store_write _ (121, [(0, .inr (.inr v0)), (4, .inl v4), (5, .inl v5)], [.inr (.inr (v0 + 90 + 15 * (v5).toNat))], M)
    refine mm_s1 rfl ⟨C120.1, ?_⟩
    show mm_Go (mm_run 5) mc_Store_write _ (124, [(0, .inr (.inr v0)), (4, .inl v4), (5, .inl v5)], [.inl (nn_rf M (v0 + 90 + 15 * (v5).toNat) 5)], M)
    refine mm_s1 rfl ⟨fun c124 => ?_, fun c124 => ?_⟩
    · show mm_Go (mm_run 5) mc_Store_write _ (160, [(0, .inr (.inr v0)), (4, .inl v4), (5, .inl v5)], [], M)
      refine mm_s1 rfl ?_
      show mm_Go (mm_run 5) mc_Store_write _ (163, [(0, .inr (.inr v0)), (4, .inl v4), (5, .inl (mm_w (v5 + 1)))], [], M)
      refine mm_s1 rfl ?_
      show mm_Go (mm_run 5) mc_Store_write _ (108, [(0, .inr (.inr v0)), (4, .inl v4), (5, .inl (mm_w (v5 + 1)))], [], M)
      replace h := h.2.2.2.1 (Or.inl c124)
      exact nn_go_ext (nn_xc rfl (nn_xc rfl (nn_xc rfl nn_xn))) (h n L N C0)
    · show mm_Go (mm_run 5) mc_Store_write _ (127, [(0, .inr (.inr v0)), (4, .inl v4), (5, .inl v5)], [], M)
      refine mm_s1 rfl ?_
      refine nn_getr rfl C0.1 (lf_9_2 L N C0) ?_
      refine mm_s1 rfl ?_
      have b133 := h.1 c124
      have C133 : nn_C 5 (v0 + 90 + 15 * (v5).toNat) n := (nn_arr NN (nc_9_2 NN C0).2).1 (nc_9_2 NN C0).1 _ (nn_tn b133 (by decide))
      refine nn_aald rfl (nn_bd30 (na_9_2 NN C0) (by decide) b133) (nn_l35 L N (nc_9_2 NN C0) b133) ?_
      show mm_Go (mm_run 5) mc_Store_write _ (134, [(0, .inr (.inr v0)), (4, .inl v4), (5, .inl v5)], [.inr (.inr (v0 + 90 + 15 * (v5).toNat))], M)
      have b134 := h.2.1 c124
      refine mm_s1 rfl ⟨C133.1, ?_⟩
      refine np_Index_size (by decide) L N C133 b134 ?_
      show mm_Go (mm_run 5) mc_Store_write _ (137, [(0, .inr (.inr v0)), (4, .inl v4), (5, .inl v5)], [.inl (nf_Index_size (v0 + 90 + 15 * (v5).toNat) M)], M)
      refine mm_s1 rfl ?_
      refine mm_s1 rfl ⟨fun c139 => ?_, fun c139 => ?_⟩
      · show mm_Go (mm_run 5) mc_Store_write _ (160, [(0, .inr (.inr v0)), (4, .inl v4), (5, .inl v5)], [], M)
        refine mm_s1 rfl ?_
        show mm_Go (mm_run 5) mc_Store_write _ (163, [(0, .inr (.inr v0)), (4, .inl v4), (5, .inl (mm_w (v5 + 1)))], [], M)
        refine mm_s1 rfl ?_
        show mm_Go (mm_run 5) mc_Store_write _ (108, [(0, .inr (.inr v0)), (4, .inl v4), (5, .inl (mm_w (v5 + 1)))], [], M)
        replace h := h.2.2.2.1 (Or.inr c139)
        exact nn_go_ext (nn_xc rfl (nn_xc rfl (nn_xc rfl nn_xn))) (h n L N C0)
      · show mm_Go (mm_run 5) mc_Store_write _ (142, [(0, .inr (.inr v0)), (4, .inl v4), (5, .inl v5)], [], M)
        replace c139 := Int.not_le.mp c139
        refine mm_s1 rfl ?_
        refine nn_getr rfl C0.1 (lf_9_2 L N C0) ?_
        refine mm_s1 rfl ?_
        have b148 := h.2.2.1 ⟨c124, c139⟩
        have C148 : nn_C 5 (v0 + 90 + 15 * (v5).toNat) n := (nn_arr NN (nc_9_2 NN C0).2).1 (nc_9_2 NN C0).1 _ (nn_tn b148 (by decide))
        refine nn_aald rfl (nn_bd30 (na_9_2 NN C0) (by decide) b148) (nn_l35 L N (nc_9_2 NN C0) b148) ?_
        show mm_Go (mm_run 5) mc_Store_write _ (149, [(0, .inr (.inr v0)), (4, .inl v4), (5, .inl v5)], [.inr (.inr (v0 + 90 + 15 * (v5).toNat))], M)
        refine nn_getr rfl C148.1 (lf_5_3 L N C148) ?_
        refine mm_s1 rfl ?_
        refine nn_getr rfl C0.1 (lf_9_1 L N C0) ?_
        replace h := h.2.2.2.2 ⟨c124, c139⟩
        refine mm_s1 rfl ⟨(nc_5_3 NN C148).1, ?_⟩
        refine nn_call (D := 3) (by decide) (h n L N (nc_5_3 NN C148) (nc_9_1 NN C0)) ?_
        intro v M156 q; clear L N h
        obtain ⟨r156, rfl, L, N, h⟩ := q
        show mm_Go (mm_run 5) mc_Store_write _ (159, [(0, .inr (.inr v0)), (4, .inl v4), (5, .inl v5)], [.inl r156], M156)
        refine mm_s1 rfl ?_
        refine mm_s1 rfl ?_
        show mm_Go (mm_run 5) mc_Store_write _ (163, [(0, .inr (.inr v0)), (4, .inl v4), (5, .inl (mm_w (v5 + 1)))], [], M156)
        refine mm_s1 rfl ?_
        show mm_Go (mm_run 5) mc_Store_write _ (108, [(0, .inr (.inr v0)), (4, .inl v4), (5, .inl (mm_w (v5 + 1)))], [], M156)
        exact nn_go_ext (nn_xc rfl (nn_xc rfl (nn_xc rfl nn_xn))) (h n L N C0)
def nr_Store_counted (v0 : Nat) (v1 : Int) (v2 : Nat) (M : mm_M) (R : Int → mm_M → Prop) : Prop := ∀ n, nn_L M → M.1 = n → nn_C 9 v0 n → nn_C 10 v2 n → mm_run 6 mi_Store_counted [.inr (.inr v0), .inl v1, .inr (.inr v2)] M (nw_I n R)
set_option maxRecDepth 20000 in
theorem ng_Store_counted (v0 : Nat) (v1 : Int) (v2 : Nat) (M : mm_M) (R : Int → mm_M → Prop) (h : ((v1 = 0 → R (nn_rf M (v0 + 3) 6) M) ∧ (v1 = 1 → R (nn_rf M (v0 + 3) 7) M) ∧ (v1 = 2 → R (nf_Versions_size (v0 + 4) M) M) ∧ (v1 = 3 → R (nn_rf M (v0 + 3) 5) M) ∧ (v1 = 4 → (nr_Table_versions (v0 + 3) M (fun r111 M111 => R r111 M111))) ∧ (v1 = 5 → (nr_Versions_gone (v0 + 7) M (fun r132 M132 => R (mm_w ((nf_Versions_size (v0 + 7) M) - r132)) M132))) ∧ (v1 = 6 → (nr_Table_gone (v0 + 3) M (fun r141 M141 => R r141 M141))) ∧ (v1 = 7 → (nr_Store_sure v0 M (fun r146 M146 => R r146 M146))) ∧ (v1 = 8 → (nr_Store_leftOver v0 M (fun r151 M151 => R r151 M151))) ∧ (v1 = 9 → (nr_Store_openCursors v0 M (fun r156 M156 => R r156 M156))) ∧ (v1 = 10 → (nr_Store_bits v0 M (fun r161 M161 => R r161 M161))) ∧ (v1 = 11 → R (nn_rf M v0 11) M) ∧ (v1 = 12 → R (nn_rf M v0 12) M) ∧ (v1 = 13 → (nr_Store_nextMerges v0 v2 M (fun r177 M177 => R r177 M177))) ∧ ((v1 < 0 ∨ 13 < v1) → R (-1) M))) : nr_Store_counted v0 v1 v2 M R := by
  intro n L N C0 C2
  have NN := nn_L_n L N
  show mm_Go (mm_run 5) mc_Store_counted _ (0, [(0, .inr (.inr v0)), (1, .inl v1), (2, .inr (.inr v2))], [], M)
  refine mm_s1 rfl ?_
  refine nn_sw rfl (by decide) (fun k hk hx => ?_) (fun c1 => ?_)
  · match k, hk, hx with
    | 0, _, hx =>
      have c1 : v1 = 0 := hx.trans (by decide)
      replace h := h.1 c1
      show mm_Go (mm_run 5) mc_Store_counted _ (72, [(0, .inr (.inr v0)), (1, .inl v1), (2, .inr (.inr v2))], [], M)
      refine mm_s1 rfl ?_
      refine nn_getr rfl C0.1 (lf_9_1 L N C0) ?_
      refine mm_s1 rfl ⟨(nc_9_1 NN C0).1, ?_⟩
      show mm_Go (mm_run 5) mc_Store_counted _ (79, [(0, .inr (.inr v0)), (1, .inl v1), (2, .inr (.inr v2))], [.inl (nn_rf M (v0 + 3) 6)], M)
      exact mm_s1 rfl ⟨_, rfl, L, N, h⟩
    | 1, _, hx =>
      have c1 : v1 = 1 := hx.trans (by decide)
      replace h := h.2.1 c1
      show mm_Go (mm_run 5) mc_Store_counted _ (80, [(0, .inr (.inr v0)), (1, .inl v1), (2, .inr (.inr v2))], [], M)
      refine mm_s1 rfl ?_
      refine nn_getr rfl C0.1 (lf_9_1 L N C0) ?_
      refine mm_s1 rfl ⟨(nc_9_1 NN C0).1, ?_⟩
      show mm_Go (mm_run 5) mc_Store_counted _ (87, [(0, .inr (.inr v0)), (1, .inl v1), (2, .inr (.inr v2))], [.inl (nn_rf M (v0 + 3) 7)], M)
      exact mm_s1 rfl ⟨_, rfl, L, N, h⟩
    | 2, _, hx =>
      have c1 : v1 = 2 := hx.trans (by decide)
      replace h := h.2.2.1 c1
      show mm_Go (mm_run 5) mc_Store_counted _ (88, [(0, .inr (.inr v0)), (1, .inl v1), (2, .inr (.inr v2))], [], M)
      refine mm_s1 rfl ?_
      refine nn_getr rfl C0.1 (lf_9_1 L N C0) ?_
      refine nn_getr rfl (nc_9_1 NN C0).1 (lf_10_0 L N (nc_9_1 NN C0)) ?_
      refine mm_s1 rfl ⟨(nc_10_0 NN (nc_9_1 NN C0)).1, ?_⟩
      refine np_Versions_size (by decide) L N (nc_10_0 NN (nc_9_1 NN C0)) ?_
      show mm_Go (mm_run 5) mc_Store_counted _ (98, [(0, .inr (.inr v0)), (1, .inl v1), (2, .inr (.inr v2))], [.inl (nf_Versions_size (v0 + 4) M)], M)
      exact mm_s1 rfl ⟨_, rfl, L, N, h⟩
    | 3, _, hx =>
      have c1 : v1 = 3 := hx.trans (by decide)
      replace h := h.2.2.2.1 c1
      show mm_Go (mm_run 5) mc_Store_counted _ (99, [(0, .inr (.inr v0)), (1, .inl v1), (2, .inr (.inr v2))], [], M)
      refine mm_s1 rfl ?_
      refine nn_getr rfl C0.1 (lf_9_1 L N C0) ?_
      refine mm_s1 rfl ⟨(nc_9_1 NN C0).1, ?_⟩
      show mm_Go (mm_run 5) mc_Store_counted _ (106, [(0, .inr (.inr v0)), (1, .inl v1), (2, .inr (.inr v2))], [.inl (nn_rf M (v0 + 3) 5)], M)
      exact mm_s1 rfl ⟨_, rfl, L, N, h⟩
    | 4, _, hx =>
      have c1 : v1 = 4 := hx.trans (by decide)
      replace h := h.2.2.2.2.1 c1
      show mm_Go (mm_run 5) mc_Store_counted _ (107, [(0, .inr (.inr v0)), (1, .inl v1), (2, .inr (.inr v2))], [], M)
      refine mm_s1 rfl ?_
      refine nn_getr rfl C0.1 (lf_9_1 L N C0) ?_
      refine mm_s1 rfl ⟨(nc_9_1 NN C0).1, ?_⟩
      refine nn_call (D := 3) (by decide) (h n L N (nc_9_1 NN C0)) ?_
      intro v M111 q; clear L N h
      obtain ⟨r111, rfl, L, N, h⟩ := q
      show mm_Go (mm_run 5) mc_Store_counted _ (114, [(0, .inr (.inr v0)), (1, .inl v1), (2, .inr (.inr v2))], [.inl r111], M111)
      exact mm_s1 rfl ⟨_, rfl, L, N, h⟩
    | 5, _, hx =>
      have c1 : v1 = 5 := hx.trans (by decide)
      replace h := h.2.2.2.2.2.1 c1
      show mm_Go (mm_run 5) mc_Store_counted _ (115, [(0, .inr (.inr v0)), (1, .inl v1), (2, .inr (.inr v2))], [], M)
      refine mm_s1 rfl ?_
      refine nn_getr rfl C0.1 (lf_9_1 L N C0) ?_
      refine nn_getr rfl (nc_9_1 NN C0).1 (lf_10_1 L N (nc_9_1 NN C0)) ?_
      refine mm_s1 rfl ⟨(nc_10_1 NN (nc_9_1 NN C0)).1, ?_⟩
      refine np_Versions_size (by decide) L N (nc_10_1 NN (nc_9_1 NN C0)) ?_
      show mm_Go (mm_run 5) mc_Store_counted _ (125, [(0, .inr (.inr v0)), (1, .inl v1), (2, .inr (.inr v2))], [.inl (nf_Versions_size (v0 + 7) M)], M)
      refine mm_s1 rfl ?_
      refine nn_getr rfl C0.1 (lf_9_1 L N C0) ?_
      refine nn_getr rfl (nc_9_1 NN C0).1 (lf_10_1 L N (nc_9_1 NN C0)) ?_
      refine mm_s1 rfl ⟨(nc_10_1 NN (nc_9_1 NN C0)).1, ?_⟩
      refine nn_call (D := 2) (by decide) (h n L N (nc_10_1 NN (nc_9_1 NN C0))) ?_
      intro v M132 q; clear L N h
      obtain ⟨r132, rfl, L, N, h⟩ := q
      show mm_Go (mm_run 5) mc_Store_counted _ (135, [(0, .inr (.inr v0)), (1, .inl v1), (2, .inr (.inr v2))], [.inl r132, .inl (nf_Versions_size (v0 + 7) M)], M132)
      refine mm_s1 rfl ?_
      exact mm_s1 rfl ⟨_, rfl, L, N, h⟩
    | 6, _, hx =>
      have c1 : v1 = 6 := hx.trans (by decide)
      replace h := h.2.2.2.2.2.2.1 c1
      show mm_Go (mm_run 5) mc_Store_counted _ (137, [(0, .inr (.inr v0)), (1, .inl v1), (2, .inr (.inr v2))], [], M)
      refine mm_s1 rfl ?_
      refine nn_getr rfl C0.1 (lf_9_1 L N C0) ?_
      refine mm_s1 rfl ⟨(nc_9_1 NN C0).1, ?_⟩
      refine nn_call (D := 3) (by decide) (h n L N (nc_9_1 NN C0)) ?_
      intro v M141 q; clear L N h
      obtain ⟨r141, rfl, L, N, h⟩ := q
      show mm_Go (mm_run 5) mc_Store_counted _ (144, [(0, .inr (.inr v0)), (1, .inl v1), (2, .inr (.inr v2))], [.inl r141], M141)
      exact mm_s1 rfl ⟨_, rfl, L, N, h⟩
    | 7, _, hx =>
      have c1 : v1 = 7 := hx.trans (by decide)
      replace h := h.2.2.2.2.2.2.2.1 c1
      show mm_Go (mm_run 5) mc_Store_counted _ (145, [(0, .inr (.inr v0)), (1, .inl v1), (2, .inr (.inr v2))], [], M)
      refine mm_s1 rfl ?_
      refine mm_s1 rfl ⟨C0.1, ?_⟩
      refine nn_call (D := 4) (by decide) (h n L N C0) ?_
      intro v M146 q; clear L N h
      obtain ⟨r146, rfl, L, N, h⟩ := q
      show mm_Go (mm_run 5) mc_Store_counted _ (149, [(0, .inr (.inr v0)), (1, .inl v1), (2, .inr (.inr v2))], [.inl r146], M146)
      exact mm_s1 rfl ⟨_, rfl, L, N, h⟩
    | 8, _, hx =>
      have c1 : v1 = 8 := hx.trans (by decide)
      replace h := h.2.2.2.2.2.2.2.2.1 c1
      show mm_Go (mm_run 5) mc_Store_counted _ (150, [(0, .inr (.inr v0)), (1, .inl v1), (2, .inr (.inr v2))], [], M)
      refine mm_s1 rfl ?_
      refine mm_s1 rfl ⟨C0.1, ?_⟩
      refine nn_call (D := 3) (by decide) (h n L N C0) ?_
      intro v M151 q; clear L N h
      obtain ⟨r151, rfl, L, N, h⟩ := q
      show mm_Go (mm_run 5) mc_Store_counted _ (154, [(0, .inr (.inr v0)), (1, .inl v1), (2, .inr (.inr v2))], [.inl r151], M151)
      exact mm_s1 rfl ⟨_, rfl, L, N, h⟩
    | 9, _, hx =>
      have c1 : v1 = 9 := hx.trans (by decide)
      replace h := h.2.2.2.2.2.2.2.2.2.1 c1
      show mm_Go (mm_run 5) mc_Store_counted _ (155, [(0, .inr (.inr v0)), (1, .inl v1), (2, .inr (.inr v2))], [], M)
      refine mm_s1 rfl ?_
      refine mm_s1 rfl ⟨C0.1, ?_⟩
      refine nn_call (D := 1) (by decide) (h n L N C0) ?_
      intro v M156 q; clear L N h
      obtain ⟨r156, rfl, L, N, h⟩ := q
      show mm_Go (mm_run 5) mc_Store_counted _ (159, [(0, .inr (.inr v0)), (1, .inl v1), (2, .inr (.inr v2))], [.inl r156], M156)
      exact mm_s1 rfl ⟨_, rfl, L, N, h⟩
    | 10, _, hx =>
      have c1 : v1 = 10 := hx.trans (by decide)
      replace h := h.2.2.2.2.2.2.2.2.2.2.1 c1
      show mm_Go (mm_run 5) mc_Store_counted _ (160, [(0, .inr (.inr v0)), (1, .inl v1), (2, .inr (.inr v2))], [], M)
      refine mm_s1 rfl ?_
      refine mm_s1 rfl ⟨C0.1, ?_⟩
      refine nn_call (D := 1) (by decide) (h n L N C0) ?_
      intro v M161 q; clear L N h
      obtain ⟨r161, rfl, L, N, h⟩ := q
      show mm_Go (mm_run 5) mc_Store_counted _ (164, [(0, .inr (.inr v0)), (1, .inl v1), (2, .inr (.inr v2))], [.inl r161], M161)
      exact mm_s1 rfl ⟨_, rfl, L, N, h⟩
    | 11, _, hx =>
      have c1 : v1 = 11 := hx.trans (by decide)
      replace h := h.2.2.2.2.2.2.2.2.2.2.2.1 c1
      show mm_Go (mm_run 5) mc_Store_counted _ (165, [(0, .inr (.inr v0)), (1, .inl v1), (2, .inr (.inr v2))], [], M)
      refine mm_s1 rfl ?_
      refine mm_s1 rfl ⟨C0.1, ?_⟩
      show mm_Go (mm_run 5) mc_Store_counted _ (169, [(0, .inr (.inr v0)), (1, .inl v1), (2, .inr (.inr v2))], [.inl (nn_rf M v0 11)], M)
      exact mm_s1 rfl ⟨_, rfl, L, N, h⟩
    | 12, _, hx =>
      have c1 : v1 = 12 := hx.trans (by decide)
      replace h := h.2.2.2.2.2.2.2.2.2.2.2.2.1 c1
      show mm_Go (mm_run 5) mc_Store_counted _ (170, [(0, .inr (.inr v0)), (1, .inl v1), (2, .inr (.inr v2))], [], M)
      refine mm_s1 rfl ?_
      refine mm_s1 rfl ⟨C0.1, ?_⟩
      show mm_Go (mm_run 5) mc_Store_counted _ (174, [(0, .inr (.inr v0)), (1, .inl v1), (2, .inr (.inr v2))], [.inl (nn_rf M v0 12)], M)
      exact mm_s1 rfl ⟨_, rfl, L, N, h⟩
    | 13, _, hx =>
      have c1 : v1 = 13 := hx.trans (by decide)
      replace h := h.2.2.2.2.2.2.2.2.2.2.2.2.2.1 c1
      show mm_Go (mm_run 5) mc_Store_counted _ (175, [(0, .inr (.inr v0)), (1, .inl v1), (2, .inr (.inr v2))], [], M)
      refine mm_s1 rfl ?_
      refine mm_s1 rfl ?_
      refine mm_s1 rfl ⟨C0.1, ?_⟩
      refine nn_call (D := 5) (by decide) (h n L N C0 C2) ?_
      intro v M177 q; clear L N h
      obtain ⟨r177, rfl, L, N, h⟩ := q
      show mm_Go (mm_run 5) mc_Store_counted _ (180, [(0, .inr (.inr v0)), (1, .inl v1), (2, .inr (.inr v2))], [.inl r177], M177)
      exact mm_s1 rfl ⟨_, rfl, L, N, h⟩
    | k + 14, hk, _ => exact absurd hk (by show ¬ (k + 14 < 14); omega)
  · replace h := h.2.2.2.2.2.2.2.2.2.2.2.2.2.2 c1
    show mm_Go (mm_run 5) mc_Store_counted _ (181, [(0, .inr (.inr v0)), (1, .inl v1), (2, .inr (.inr v2))], [], M)
    refine mm_s1 rfl ?_
    exact mm_s1 rfl ⟨_, rfl, L, N, h⟩
def nr_M_define  (M : mm_M) (R : Int → mm_M → Prop) : Prop := ∀ n, nn_L M → M.1 = n → mm_run 6 mi_M_define [.inr (.inr 407)] M (nw_I n R)
def nk_M_define_37 (v1 : Int) (M : mm_M) (R : Int → mm_M → Prop) : Prop := ∀ n, nn_L M → M.1 = n → mm_Go (mm_run 5) mc_M_define (nw_I n R) (37, [(0, .inr (.inr 407)), (1, .inl v1)], [], M)
def nk_M_define_79 (v1 : Int) (v2 : Int) (v3 : Int) (M : mm_M) (R : Int → mm_M → Prop) : Prop := ∀ n, nn_L M → M.1 = n → mm_Go (mm_run 5) mc_M_define (nw_I n R) (79, [(0, .inr (.inr 407)), (1, .inl v1), (2, .inl v2), (3, .inl v3)], [], M)
set_option maxRecDepth 20000 in
theorem ng_M_define  (M : mm_M) (R : Int → mm_M → Prop) (h : (∀ M8 : mm_M, M8 = nn_uf M 407 3 (nn_ri M 408 20) → (∀ M18 : mm_M, M18 = nn_ui M8 408 20 0 → (∀ M26 : mm_M, M26 = nn_ui M18 408 21 0 → (∀ M34 : mm_M, M34 = nn_ui M26 408 22 (-1) → nk_M_define_37 0 M34 R))))) : nr_M_define  M R := by
  intro n L N 
  have NN := nn_L_n L N
  show mm_Go (mm_run 5) mc_M_define _ (0, [(0, .inr (.inr 407))], [], M)
  refine mm_s1 rfl ?_
  refine mm_s1 rfl ?_
  refine nn_getr rfl (nn_c407 NN).1 (lf_13_0 L N (nn_c407 NN)) ?_
  refine mm_s1 rfl ?_
  refine mm_s1 rfl ⟨nn_bd (na_13_0 NN (nn_c407 NN)) (by decide), ?_⟩
  show mm_Go (mm_run 5) mc_M_define _ (8, [(0, .inr (.inr 407))], [.inl (nn_ri M 408 20), .inr (.inr 407)], M)
  refine mm_s1 rfl ⟨(nn_c407 NN).1, ?_⟩
  show mm_Go (mm_run 5) mc_M_define _ (11, [(0, .inr (.inr 407))], [], (nn_uf M 407 3 (nn_ri M 408 20)))
  have L : nn_L (nn_uf M 407 3 (nn_ri M 408 20)) := nn_L_up L (nn_c407 NN).1 rfl
  have N : (nn_uf M 407 3 (nn_ri M 408 20)).1 = n := N
  generalize e_M8 : (nn_uf M 407 3 (nn_ri M 408 20)) = M8 at L N ⊢
  replace h := h _ e_M8.symm
  show mm_Go (mm_run 5) mc_M_define _ (11, [(0, .inr (.inr 407))], [], M8)
  refine mm_s1 rfl ?_
  refine nn_getr rfl (nn_c407 NN).1 (lf_13_0 L N (nn_c407 NN)) ?_
  refine mm_s1 rfl ?_
  refine mm_s1 rfl ?_
  refine mm_s1 rfl ⟨nn_bd (na_13_0 NN (nn_c407 NN)) (show (0 : Int) ≤ 20 ∧ (20 : Int) < 32844 by decide), ?_⟩
  show mm_Go (mm_run 5) mc_M_define _ (19, [(0, .inr (.inr 407))], [], (nn_ui M8 408 20 0))
  have L : nn_L (nn_ui M8 408 20 0) := nn_L_ua L (congrArg Prod.fst (na_13_0 NN (nn_c407 NN))) (by decide)
  have N : (nn_ui M8 408 20 0).1 = n := N
  generalize e_M18 : (nn_ui M8 408 20 0) = M18 at L N ⊢
  replace h := h _ e_M18.symm
  show mm_Go (mm_run 5) mc_M_define _ (19, [(0, .inr (.inr 407))], [], M18)
  refine mm_s1 rfl ?_
  refine nn_getr rfl (nn_c407 NN).1 (lf_13_0 L N (nn_c407 NN)) ?_
  refine mm_s1 rfl ?_
  refine mm_s1 rfl ?_
  refine mm_s1 rfl ⟨nn_bd (na_13_0 NN (nn_c407 NN)) (show (0 : Int) ≤ 21 ∧ (21 : Int) < 32844 by decide), ?_⟩
  show mm_Go (mm_run 5) mc_M_define _ (27, [(0, .inr (.inr 407))], [], (nn_ui M18 408 21 0))
  have L : nn_L (nn_ui M18 408 21 0) := nn_L_ua L (congrArg Prod.fst (na_13_0 NN (nn_c407 NN))) (by decide)
  have N : (nn_ui M18 408 21 0).1 = n := N
  generalize e_M26 : (nn_ui M18 408 21 0) = M26 at L N ⊢
  replace h := h _ e_M26.symm
  show mm_Go (mm_run 5) mc_M_define _ (27, [(0, .inr (.inr 407))], [], M26)
  refine mm_s1 rfl ?_
  refine nn_getr rfl (nn_c407 NN).1 (lf_13_0 L N (nn_c407 NN)) ?_
  refine mm_s1 rfl ?_
  refine mm_s1 rfl ?_
  refine mm_s1 rfl ⟨nn_bd (na_13_0 NN (nn_c407 NN)) (show (0 : Int) ≤ 22 ∧ (22 : Int) < 32844 by decide), ?_⟩
  show mm_Go (mm_run 5) mc_M_define _ (35, [(0, .inr (.inr 407))], [], (nn_ui M26 408 22 (-1)))
  have L : nn_L (nn_ui M26 408 22 (-1)) := nn_L_ua L (congrArg Prod.fst (na_13_0 NN (nn_c407 NN))) (by decide)
  have N : (nn_ui M26 408 22 (-1)).1 = n := N
  generalize e_M34 : (nn_ui M26 408 22 (-1)) = M34 at L N ⊢
  replace h := h _ e_M34.symm
  show mm_Go (mm_run 5) mc_M_define _ (35, [(0, .inr (.inr 407))], [], M34)
  refine mm_s1 rfl ?_
  refine mm_s1 rfl ?_
  show mm_Go (mm_run 5) mc_M_define _ (37, [(0, .inr (.inr 407)), (1, .inl 0)], [], M34)
  exact nn_go_ext (nn_xc rfl (nn_xc rfl nn_xn)) (h n L N)
set_option maxRecDepth 20000 in
theorem ng_M_define_37 (v1 : Int) (M : mm_M) (R : Int → mm_M → Prop) (h : ((4 ≤ v1 → ((v1 ≠ 4 → nk_M_define_79 v1 (nf_M_at 0 v1) 0 M R) ∧ (v1 = 4 → R (-2) M))) ∧ (v1 < 4 → (((0 : Int) ≤ (mm_w ((nf_M_at 0 v1) + 0)) ∧ (mm_w ((nf_M_at 0 v1) + 0)) < (32844 : Int)) ∧ (((nn_ri M 408 (mm_w ((nf_M_at 0 v1) + 0))) ≤ 0 → ((v1 ≠ 4 → nk_M_define_79 v1 (nf_M_at 0 v1) 0 M R) ∧ (v1 = 4 → R (-2) M))) ∧ (0 < (nn_ri M 408 (mm_w ((nf_M_at 0 v1) + 0))) → nk_M_define_37 (mm_w (v1 + 1)) M R)))))) : nk_M_define_37 v1 M R := by
  intro n L N 
  have NN := nn_L_n L N
  show mm_Go (mm_run 5) mc_M_define _ (37, [(0, .inr (.inr 407)), (1, .inl v1)], [], M)
  refine mm_s1 rfl ?_
  refine mm_s1 rfl ?_
  refine mm_s1 rfl ⟨fun c39 => ?_, fun c39 => ?_⟩
  · show mm_Go (mm_run 5) mc_M_define _ (63, [(0, .inr (.inr 407)), (1, .inl v1)], [], M)
    replace h := h.1 c39
    refine mm_s1 rfl ?_
    refine mm_s1 rfl ?_
    refine mm_s1 rfl ⟨fun c65 => ?_, fun c65 => ?_⟩
    · show mm_Go (mm_run 5) mc_M_define _ (71, [(0, .inr (.inr 407)), (1, .inl v1)], [], M)
      replace h := h.1 c65
      refine mm_s1 rfl ?_
      refine mm_s1 rfl ?_
      refine mm_s1 rfl ⟨trivial, ?_⟩
      refine np_M_at (by decide) L N ?_
      show mm_Go (mm_run 5) mc_M_define _ (76, [(0, .inr (.inr 407)), (1, .inl v1)], [.inl (nf_M_at 0 v1)], M)
      refine mm_s1 rfl ?_
      show mm_Go (mm_run 5) mc_M_define _ (77, [(0, .inr (.inr 407)), (1, .inl v1), (2, .inl (nf_M_at 0 v1))], [], M)
      refine mm_s1 rfl ?_
      refine mm_s1 rfl ?_
      show mm_Go (mm_run 5) mc_M_define _ (79, [(0, .inr (.inr 407)), (1, .inl v1), (2, .inl (nf_M_at 0 v1)), (3, .inl 0)], [], M)
      exact nn_go_ext (nn_xc rfl (nn_xc rfl (nn_xc rfl (nn_xc rfl nn_xn)))) (h n L N)
    · show mm_Go (mm_run 5) mc_M_define _ (68, [(0, .inr (.inr 407)), (1, .inl v1)], [], M)
      replace c65 := Decidable.not_not.mp c65
      replace h := h.2 c65
      refine mm_s1 rfl ?_
      exact mm_s1 rfl ⟨_, rfl, L, N, h⟩
  · show mm_Go (mm_run 5) mc_M_define _ (42, [(0, .inr (.inr 407)), (1, .inl v1)], [], M)
    replace c39 := Int.not_le.mp c39
    replace h := h.2 c39
    refine mm_s1 rfl ?_
    refine nn_getr rfl (nn_c407 NN).1 (lf_13_0 L N (nn_c407 NN)) ?_
    refine mm_s1 rfl ?_
    refine mm_s1 rfl ?_
    refine mm_s1 rfl ⟨trivial, ?_⟩
    refine np_M_at (by decide) L N ?_
    show mm_Go (mm_run 5) mc_M_define _ (51, [(0, .inr (.inr 407)), (1, .inl v1)], [.inl (nf_M_at 0 v1), .inr (.inr 408)], M)
    refine mm_s1 rfl ?_
    refine mm_s1 rfl ?_
    obtain ⟨b53, h⟩ := h
    refine mm_s1 rfl ⟨nn_bd (na_13_0 NN (nn_c407 NN)) b53, ?_⟩
    show mm_Go (mm_run 5) mc_M_define _ (54, [(0, .inr (.inr 407)), (1, .inl v1)], [.inl (nn_ri M 408 (mm_w ((nf_M_at 0 v1) + 0)))], M)
    refine mm_s1 rfl ⟨fun c54 => ?_, fun c54 => ?_⟩
    · show mm_Go (mm_run 5) mc_M_define _ (63, [(0, .inr (.inr 407)), (1, .inl v1)], [], M)
      replace h := h.1 c54
      refine mm_s1 rfl ?_
      refine mm_s1 rfl ?_
      refine mm_s1 rfl ⟨fun c65 => ?_, fun c65 => ?_⟩
      · show mm_Go (mm_run 5) mc_M_define _ (71, [(0, .inr (.inr 407)), (1, .inl v1)], [], M)
        replace h := h.1 c65
        refine mm_s1 rfl ?_
        refine mm_s1 rfl ?_
        refine mm_s1 rfl ⟨trivial, ?_⟩
        refine np_M_at (by decide) L N ?_
        show mm_Go (mm_run 5) mc_M_define _ (76, [(0, .inr (.inr 407)), (1, .inl v1)], [.inl (nf_M_at 0 v1)], M)
        refine mm_s1 rfl ?_
        show mm_Go (mm_run 5) mc_M_define _ (77, [(0, .inr (.inr 407)), (1, .inl v1), (2, .inl (nf_M_at 0 v1))], [], M)
        refine mm_s1 rfl ?_
        refine mm_s1 rfl ?_
        show mm_Go (mm_run 5) mc_M_define _ (79, [(0, .inr (.inr 407)), (1, .inl v1), (2, .inl (nf_M_at 0 v1)), (3, .inl 0)], [], M)
        exact nn_go_ext (nn_xc rfl (nn_xc rfl (nn_xc rfl (nn_xc rfl nn_xn)))) (h n L N)
      · show mm_Go (mm_run 5) mc_M_define _ (68, [(0, .inr (.inr 407)), (1, .inl v1)], [], M)
        replace c65 := Decidable.not_not.mp c65
        replace h := h.2 c65
        refine mm_s1 rfl ?_
        exact mm_s1 rfl ⟨_, rfl, L, N, h⟩
    · show mm_Go (mm_run 5) mc_M_define _ (57, [(0, .inr (.inr 407)), (1, .inl v1)], [], M)
      replace c54 := Int.not_le.mp c54
      replace h := h.2 c54
      refine mm_s1 rfl ?_
      show mm_Go (mm_run 5) mc_M_define _ (60, [(0, .inr (.inr 407)), (1, .inl (mm_w (v1 + 1)))], [], M)
      refine mm_s1 rfl ?_
      show mm_Go (mm_run 5) mc_M_define _ (37, [(0, .inr (.inr 407)), (1, .inl (mm_w (v1 + 1)))], [], M)
      exact nn_go_ext (nn_xc rfl (nn_xc rfl nn_xn)) (h n L N)
set_option maxRecDepth 20000 in
theorem ng_M_define_79 (v1 : Int) (v2 : Int) (v3 : Int) (M : mm_M) (R : Int → mm_M → Prop) (h : ((855 ≤ v3 → (∀ M103 : mm_M, M103 = nn_uf M 407 4 0 → (∀ M108 : mm_M, M108 = nn_uf M103 407 7 0 → (nr_M_takes M108 (fun M112 => (nr_M_readsIndex v2 M112 (fun M117 => (((nn_rf M117 407 7) ≤ 0 → (((nn_ri M117 408 0) ≠ 0 → (((0 : Int) ≤ (mm_w (v2 + 0)) ∧ (mm_w (v2 + 0)) < (32844 : Int)) ∧ (∀ M172 : mm_M, M172 = nn_ui M117 408 (mm_w (v2 + 0)) 1 → (((0 : Int) ≤ (mm_w (v2 + 3)) ∧ (mm_w (v2 + 3)) < (32844 : Int)) ∧ (∀ M186 : mm_M, M186 = nn_ui M172 408 (mm_w (v2 + 3)) (nn_ri M172 408 0) → R v1 M186))))) ∧ ((nn_ri M117 408 0) = 0 → (((0 : Int) ≤ (mm_w (v2 + 0)) ∧ (mm_w (v2 + 0)) < (32844 : Int)) ∧ (∀ M172 : mm_M, M172 = nn_ui M117 408 (mm_w (v2 + 0)) 2 → (((0 : Int) ≤ (mm_w (v2 + 3)) ∧ (mm_w (v2 + 3)) < (32844 : Int)) ∧ (∀ M186 : mm_M, M186 = nn_ui M172 408 (mm_w (v2 + 3)) (nn_ri M172 408 0) → R v1 M186))))))) ∧ (0 < (nn_rf M117 407 7) → (∀ M137 : mm_M, M137 = nn_ui M117 408 21 (nn_rf M117 407 7) → (∀ M148 : mm_M, M148 = nn_ui M137 408 22 (nn_rf M137 407 8) → R (-1) M148))))))))))) ∧ (v3 < 855 → (((0 : Int) ≤ (mm_w (v2 + v3)) ∧ (mm_w (v2 + v3)) < (32844 : Int)) ∧ (∀ M94 : mm_M, M94 = nn_ui M 408 (mm_w (v2 + v3)) 0 → nk_M_define_79 v1 v2 (mm_w (v3 + 1)) M94 R))))) : nk_M_define_79 v1 v2 v3 M R := by
  intro n L N 
  have NN := nn_L_n L N
  show mm_Go (mm_run 5) mc_M_define _ (79, [(0, .inr (.inr 407)), (1, .inl v1), (2, .inl v2), (3, .inl v3)], [], M)
  refine mm_s1 rfl ?_
  refine mm_s1 rfl ?_
  refine mm_s1 rfl ⟨fun c83 => ?_, fun c83 => ?_⟩
  · show mm_Go (mm_run 5) mc_M_define _ (101, [(0, .inr (.inr 407)), (1, .inl v1), (2, .inl v2), (3, .inl v3)], [], M)
    replace h := h.1 c83
    refine mm_s1 rfl ?_
    refine mm_s1 rfl ?_
    refine mm_s1 rfl ⟨(nn_c407 NN).1, ?_⟩
    show mm_Go (mm_run 5) mc_M_define _ (106, [(0, .inr (.inr 407)), (1, .inl v1), (2, .inl v2), (3, .inl v3)], [], (nn_uf M 407 4 0))
    have L : nn_L (nn_uf M 407 4 0) := nn_L_up L (nn_c407 NN).1 rfl
    have N : (nn_uf M 407 4 0).1 = n := N
    generalize e_M103 : (nn_uf M 407 4 0) = M103 at L N ⊢
    replace h := h _ e_M103.symm
    show mm_Go (mm_run 5) mc_M_define _ (106, [(0, .inr (.inr 407)), (1, .inl v1), (2, .inl v2), (3, .inl v3)], [], M103)
    refine mm_s1 rfl ?_
    refine mm_s1 rfl ?_
    refine mm_s1 rfl ⟨(nn_c407 NN).1, ?_⟩
    show mm_Go (mm_run 5) mc_M_define _ (111, [(0, .inr (.inr 407)), (1, .inl v1), (2, .inl v2), (3, .inl v3)], [], (nn_uf M103 407 7 0))
    have L : nn_L (nn_uf M103 407 7 0) := nn_L_up L (nn_c407 NN).1 rfl
    have N : (nn_uf M103 407 7 0).1 = n := N
    generalize e_M108 : (nn_uf M103 407 7 0) = M108 at L N ⊢
    replace h := h _ e_M108.symm
    show mm_Go (mm_run 5) mc_M_define _ (111, [(0, .inr (.inr 407)), (1, .inl v1), (2, .inl v2), (3, .inl v3)], [], M108)
    refine mm_s1 rfl ?_
    refine mm_s1 rfl ⟨(nn_c407 NN).1, ?_⟩
    refine nn_call (D := 2) (by decide) (h n L N) ?_
    intro v M112 q; clear L N h
    obtain ⟨rfl, L, N, h⟩ := q
    show mm_Go (mm_run 5) mc_M_define _ (115, [(0, .inr (.inr 407)), (1, .inl v1), (2, .inl v2), (3, .inl v3)], [], M112)
    refine mm_s1 rfl ?_
    refine mm_s1 rfl ?_
    refine mm_s1 rfl ⟨(nn_c407 NN).1, ?_⟩
    refine nn_call (D := 5) (by decide) (h n L N) ?_
    intro v M117 q; clear L N h
    obtain ⟨rfl, L, N, h⟩ := q
    show mm_Go (mm_run 5) mc_M_define _ (120, [(0, .inr (.inr 407)), (1, .inl v1), (2, .inl v2), (3, .inl v3)], [], M117)
    refine mm_s1 rfl ?_
    refine mm_s1 rfl ⟨(nn_c407 NN).1, ?_⟩
    show mm_Go (mm_run 5) mc_M_define _ (124, [(0, .inr (.inr 407)), (1, .inl v1), (2, .inl v2), (3, .inl v3)], [.inl (nn_rf M117 407 7)], M117)
    refine mm_s1 rfl ⟨fun c124 => ?_, fun c124 => ?_⟩
    · show mm_Go (mm_run 5) mc_M_define _ (151, [(0, .inr (.inr 407)), (1, .inl v1), (2, .inl v2), (3, .inl v3)], [], M117)
      replace h := h.1 c124
      refine mm_s1 rfl ?_
      refine nn_getr rfl (nn_c407 NN).1 (lf_13_0 L N (nn_c407 NN)) ?_
      refine mm_s1 rfl ?_
      refine mm_s1 rfl ?_
      refine mm_s1 rfl ?_
      show mm_Go (mm_run 5) mc_M_define _ (158, [(0, .inr (.inr 407)), (1, .inl v1), (2, .inl v2), (3, .inl v3)], [.inl (mm_w (v2 + 0)), .inr (.inr 408)], M117)
      refine mm_s1 rfl ?_
      refine nn_getr rfl (nn_c407 NN).1 (lf_13_0 L N (nn_c407 NN)) ?_
      refine mm_s1 rfl ?_
      refine mm_s1 rfl ⟨nn_bd (na_13_0 NN (nn_c407 NN)) (by decide), ?_⟩
      show mm_Go (mm_run 5) mc_M_define _ (164, [(0, .inr (.inr 407)), (1, .inl v1), (2, .inl v2), (3, .inl v3)], [.inl (nn_ri M117 408 0), .inl (mm_w (v2 + 0)), .inr (.inr 408)], M117)
      refine mm_s1 rfl ⟨fun c164 => ?_, fun c164 => ?_⟩
      · show mm_Go (mm_run 5) mc_M_define _ (171, [(0, .inr (.inr 407)), (1, .inl v1), (2, .inl v2), (3, .inl v3)], [.inl (mm_w (v2 + 0)), .inr (.inr 408)], M117)
        replace h := h.1 c164
        refine mm_s1 rfl ?_
        obtain ⟨b172, h⟩ := h
        refine mm_s1 rfl ⟨nn_bd (na_13_0 NN (nn_c407 NN)) b172, ?_⟩
        show mm_Go (mm_run 5) mc_M_define _ (173, [(0, .inr (.inr 407)), (1, .inl v1), (2, .inl v2), (3, .inl v3)], [], (nn_ui M117 408 (mm_w (v2 + 0)) 1))
        have L : nn_L (nn_ui M117 408 (mm_w (v2 + 0)) 1) := nn_L_ua L (congrArg Prod.fst (na_13_0 NN (nn_c407 NN))) (by decide)
        have N : (nn_ui M117 408 (mm_w (v2 + 0)) 1).1 = n := N
        generalize e_M172 : (nn_ui M117 408 (mm_w (v2 + 0)) 1) = M172 at L N ⊢
        replace h := h _ e_M172.symm
        show mm_Go (mm_run 5) mc_M_define _ (173, [(0, .inr (.inr 407)), (1, .inl v1), (2, .inl v2), (3, .inl v3)], [], M172)
        refine mm_s1 rfl ?_
        refine nn_getr rfl (nn_c407 NN).1 (lf_13_0 L N (nn_c407 NN)) ?_
        refine mm_s1 rfl ?_
        refine mm_s1 rfl ?_
        refine mm_s1 rfl ?_
        show mm_Go (mm_run 5) mc_M_define _ (180, [(0, .inr (.inr 407)), (1, .inl v1), (2, .inl v2), (3, .inl v3)], [.inl (mm_w (v2 + 3)), .inr (.inr 408)], M172)
        refine mm_s1 rfl ?_
        refine nn_getr rfl (nn_c407 NN).1 (lf_13_0 L N (nn_c407 NN)) ?_
        refine mm_s1 rfl ?_
        refine mm_s1 rfl ⟨nn_bd (na_13_0 NN (nn_c407 NN)) (by decide), ?_⟩
        show mm_Go (mm_run 5) mc_M_define _ (186, [(0, .inr (.inr 407)), (1, .inl v1), (2, .inl v2), (3, .inl v3)], [.inl (nn_ri M172 408 0), .inl (mm_w (v2 + 3)), .inr (.inr 408)], M172)
        obtain ⟨b186, h⟩ := h
        refine mm_s1 rfl ⟨nn_bd (na_13_0 NN (nn_c407 NN)) b186, ?_⟩
        show mm_Go (mm_run 5) mc_M_define _ (187, [(0, .inr (.inr 407)), (1, .inl v1), (2, .inl v2), (3, .inl v3)], [], (nn_ui M172 408 (mm_w (v2 + 3)) (nn_ri M172 408 0)))
        have L : nn_L (nn_ui M172 408 (mm_w (v2 + 3)) (nn_ri M172 408 0)) := nn_L_ua L (congrArg Prod.fst (na_13_0 NN (nn_c407 NN))) (by decide)
        have N : (nn_ui M172 408 (mm_w (v2 + 3)) (nn_ri M172 408 0)).1 = n := N
        generalize e_M186 : (nn_ui M172 408 (mm_w (v2 + 3)) (nn_ri M172 408 0)) = M186 at L N ⊢
        replace h := h _ e_M186.symm
        show mm_Go (mm_run 5) mc_M_define _ (187, [(0, .inr (.inr 407)), (1, .inl v1), (2, .inl v2), (3, .inl v3)], [], M186)
        refine mm_s1 rfl ?_
        exact mm_s1 rfl ⟨_, rfl, L, N, h⟩
      · show mm_Go (mm_run 5) mc_M_define _ (167, [(0, .inr (.inr 407)), (1, .inl v1), (2, .inl v2), (3, .inl v3)], [.inl (mm_w (v2 + 0)), .inr (.inr 408)], M117)
        replace c164 := Decidable.not_not.mp c164
        replace h := h.2 c164
        refine mm_s1 rfl ?_
        refine mm_s1 rfl ?_
        show mm_Go (mm_run 5) mc_M_define _ (172, [(0, .inr (.inr 407)), (1, .inl v1), (2, .inl v2), (3, .inl v3)], [.inl 2, .inl (mm_w (v2 + 0)), .inr (.inr 408)], M117)
        obtain ⟨b172, h⟩ := h
        refine mm_s1 rfl ⟨nn_bd (na_13_0 NN (nn_c407 NN)) b172, ?_⟩
        show mm_Go (mm_run 5) mc_M_define _ (173, [(0, .inr (.inr 407)), (1, .inl v1), (2, .inl v2), (3, .inl v3)], [], (nn_ui M117 408 (mm_w (v2 + 0)) 2))
        have L : nn_L (nn_ui M117 408 (mm_w (v2 + 0)) 2) := nn_L_ua L (congrArg Prod.fst (na_13_0 NN (nn_c407 NN))) (by decide)
        have N : (nn_ui M117 408 (mm_w (v2 + 0)) 2).1 = n := N
        generalize e_M172 : (nn_ui M117 408 (mm_w (v2 + 0)) 2) = M172 at L N ⊢
        replace h := h _ e_M172.symm
        show mm_Go (mm_run 5) mc_M_define _ (173, [(0, .inr (.inr 407)), (1, .inl v1), (2, .inl v2), (3, .inl v3)], [], M172)
        refine mm_s1 rfl ?_
        refine nn_getr rfl (nn_c407 NN).1 (lf_13_0 L N (nn_c407 NN)) ?_
        refine mm_s1 rfl ?_
        refine mm_s1 rfl ?_
        refine mm_s1 rfl ?_
        show mm_Go (mm_run 5) mc_M_define _ (180, [(0, .inr (.inr 407)), (1, .inl v1), (2, .inl v2), (3, .inl v3)], [.inl (mm_w (v2 + 3)), .inr (.inr 408)], M172)
        refine mm_s1 rfl ?_
        refine nn_getr rfl (nn_c407 NN).1 (lf_13_0 L N (nn_c407 NN)) ?_
        refine mm_s1 rfl ?_
        refine mm_s1 rfl ⟨nn_bd (na_13_0 NN (nn_c407 NN)) (by decide), ?_⟩
        show mm_Go (mm_run 5) mc_M_define _ (186, [(0, .inr (.inr 407)), (1, .inl v1), (2, .inl v2), (3, .inl v3)], [.inl (nn_ri M172 408 0), .inl (mm_w (v2 + 3)), .inr (.inr 408)], M172)
        obtain ⟨b186, h⟩ := h
        refine mm_s1 rfl ⟨nn_bd (na_13_0 NN (nn_c407 NN)) b186, ?_⟩
        show mm_Go (mm_run 5) mc_M_define _ (187, [(0, .inr (.inr 407)), (1, .inl v1), (2, .inl v2), (3, .inl v3)], [], (nn_ui M172 408 (mm_w (v2 + 3)) (nn_ri M172 408 0)))
        have L : nn_L (nn_ui M172 408 (mm_w (v2 + 3)) (nn_ri M172 408 0)) := nn_L_ua L (congrArg Prod.fst (na_13_0 NN (nn_c407 NN))) (by decide)
        have N : (nn_ui M172 408 (mm_w (v2 + 3)) (nn_ri M172 408 0)).1 = n := N
        generalize e_M186 : (nn_ui M172 408 (mm_w (v2 + 3)) (nn_ri M172 408 0)) = M186 at L N ⊢
        replace h := h _ e_M186.symm
        show mm_Go (mm_run 5) mc_M_define _ (187, [(0, .inr (.inr 407)), (1, .inl v1), (2, .inl v2), (3, .inl v3)], [], M186)
        refine mm_s1 rfl ?_
        exact mm_s1 rfl ⟨_, rfl, L, N, h⟩
    · show mm_Go (mm_run 5) mc_M_define _ (127, [(0, .inr (.inr 407)), (1, .inl v1), (2, .inl v2), (3, .inl v3)], [], M117)
      replace c124 := Int.not_le.mp c124
      replace h := h.2 c124
      refine mm_s1 rfl ?_
      refine nn_getr rfl (nn_c407 NN).1 (lf_13_0 L N (nn_c407 NN)) ?_
      refine mm_s1 rfl ?_
      refine mm_s1 rfl ?_
      refine mm_s1 rfl ⟨(nn_c407 NN).1, ?_⟩
      show mm_Go (mm_run 5) mc_M_define _ (137, [(0, .inr (.inr 407)), (1, .inl v1), (2, .inl v2), (3, .inl v3)], [.inl (nn_rf M117 407 7), .inl 21, .inr (.inr 408)], M117)
      refine mm_s1 rfl ⟨nn_bd (na_13_0 NN (nn_c407 NN)) (show (0 : Int) ≤ 21 ∧ (21 : Int) < 32844 by decide), ?_⟩
      show mm_Go (mm_run 5) mc_M_define _ (138, [(0, .inr (.inr 407)), (1, .inl v1), (2, .inl v2), (3, .inl v3)], [], (nn_ui M117 408 21 (nn_rf M117 407 7)))
      have L : nn_L (nn_ui M117 408 21 (nn_rf M117 407 7)) := nn_L_ua L (congrArg Prod.fst (na_13_0 NN (nn_c407 NN))) (by decide)
      have N : (nn_ui M117 408 21 (nn_rf M117 407 7)).1 = n := N
      generalize e_M137 : (nn_ui M117 408 21 (nn_rf M117 407 7)) = M137 at L N ⊢
      replace h := h _ e_M137.symm
      show mm_Go (mm_run 5) mc_M_define _ (138, [(0, .inr (.inr 407)), (1, .inl v1), (2, .inl v2), (3, .inl v3)], [], M137)
      refine mm_s1 rfl ?_
      refine nn_getr rfl (nn_c407 NN).1 (lf_13_0 L N (nn_c407 NN)) ?_
      refine mm_s1 rfl ?_
      refine mm_s1 rfl ?_
      refine mm_s1 rfl ⟨(nn_c407 NN).1, ?_⟩
      show mm_Go (mm_run 5) mc_M_define _ (148, [(0, .inr (.inr 407)), (1, .inl v1), (2, .inl v2), (3, .inl v3)], [.inl (nn_rf M137 407 8), .inl 22, .inr (.inr 408)], M137)
      refine mm_s1 rfl ⟨nn_bd (na_13_0 NN (nn_c407 NN)) (show (0 : Int) ≤ 22 ∧ (22 : Int) < 32844 by decide), ?_⟩
      show mm_Go (mm_run 5) mc_M_define _ (149, [(0, .inr (.inr 407)), (1, .inl v1), (2, .inl v2), (3, .inl v3)], [], (nn_ui M137 408 22 (nn_rf M137 407 8)))
      have L : nn_L (nn_ui M137 408 22 (nn_rf M137 407 8)) := nn_L_ua L (congrArg Prod.fst (na_13_0 NN (nn_c407 NN))) (by decide)
      have N : (nn_ui M137 408 22 (nn_rf M137 407 8)).1 = n := N
      generalize e_M148 : (nn_ui M137 408 22 (nn_rf M137 407 8)) = M148 at L N ⊢
      replace h := h _ e_M148.symm
      show mm_Go (mm_run 5) mc_M_define _ (149, [(0, .inr (.inr 407)), (1, .inl v1), (2, .inl v2), (3, .inl v3)], [], M148)
      refine mm_s1 rfl ?_
      exact mm_s1 rfl ⟨_, rfl, L, N, h⟩
  · show mm_Go (mm_run 5) mc_M_define _ (86, [(0, .inr (.inr 407)), (1, .inl v1), (2, .inl v2), (3, .inl v3)], [], M)
    replace c83 := Int.not_le.mp c83
    replace h := h.2 c83
    refine mm_s1 rfl ?_
    refine nn_getr rfl (nn_c407 NN).1 (lf_13_0 L N (nn_c407 NN)) ?_
    refine mm_s1 rfl ?_
    refine mm_s1 rfl ?_
    refine mm_s1 rfl ?_
    show mm_Go (mm_run 5) mc_M_define _ (93, [(0, .inr (.inr 407)), (1, .inl v1), (2, .inl v2), (3, .inl v3)], [.inl (mm_w (v2 + v3)), .inr (.inr 408)], M)
    refine mm_s1 rfl ?_
    obtain ⟨b94, h⟩ := h
    refine mm_s1 rfl ⟨nn_bd (na_13_0 NN (nn_c407 NN)) b94, ?_⟩
    show mm_Go (mm_run 5) mc_M_define _ (95, [(0, .inr (.inr 407)), (1, .inl v1), (2, .inl v2), (3, .inl v3)], [], (nn_ui M 408 (mm_w (v2 + v3)) 0))
    have L : nn_L (nn_ui M 408 (mm_w (v2 + v3)) 0) := nn_L_ua L (congrArg Prod.fst (na_13_0 NN (nn_c407 NN))) (by decide)
    have N : (nn_ui M 408 (mm_w (v2 + v3)) 0).1 = n := N
    generalize e_M94 : (nn_ui M 408 (mm_w (v2 + v3)) 0) = M94 at L N ⊢
    replace h := h _ e_M94.symm
    show mm_Go (mm_run 5) mc_M_define _ (95, [(0, .inr (.inr 407)), (1, .inl v1), (2, .inl v2), (3, .inl v3)], [], M94)
    refine mm_s1 rfl ?_
    show mm_Go (mm_run 5) mc_M_define _ (98, [(0, .inr (.inr 407)), (1, .inl v1), (2, .inl v2), (3, .inl (mm_w (v3 + 1)))], [], M94)
    refine mm_s1 rfl ?_
    show mm_Go (mm_run 5) mc_M_define _ (79, [(0, .inr (.inr 407)), (1, .inl v1), (2, .inl v2), (3, .inl (mm_w (v3 + 1)))], [], M94)
    exact nn_go_ext (nn_xc rfl (nn_xc rfl (nn_xc rfl (nn_xc rfl nn_xn)))) (h n L N)
def nr_M_merges (v1 : Int) (v2 : Int) (v3 : Int) (v4 : Int) (v5 : Int) (M : mm_M) (R : mm_M → Prop) : Prop := ∀ n, nn_L M → M.1 = n → mm_run 6 mi_M_merges [.inr (.inr 407), .inl v1, .inl v2, .inl v3, .inl v4, .inl v5] M (nw_V n R)
set_option maxRecDepth 20000 in
theorem ng_M_merges (v1 : Int) (v2 : Int) (v3 : Int) (v4 : Int) (v5 : Int) (M : mm_M) (R : mm_M → Prop) (h : ((0 ≤ v2 → (nr_M_mergesIndex v1 v2 v3 v4 v5 M (fun M25 => R M25))) ∧ (v2 < 0 → (nr_M_mergesTable v1 v3 v4 v5 M (fun M11 => R M11))))) : nr_M_merges v1 v2 v3 v4 v5 M R := by
  intro n L N 
  have NN := nn_L_n L N
  show mm_Go (mm_run 5) mc_M_merges _ (0, [(0, .inr (.inr 407)), (1, .inl v1), (2, .inl v2), (3, .inl v3), (4, .inl v4), (5, .inl v5)], [], M)
  refine mm_s1 rfl ?_
  refine mm_s1 rfl ⟨fun c1 => ?_, fun c1 => ?_⟩
  · show mm_Go (mm_run 5) mc_M_merges _ (17, [(0, .inr (.inr 407)), (1, .inl v1), (2, .inl v2), (3, .inl v3), (4, .inl v4), (5, .inl v5)], [], M)
    replace h := h.1 c1
    refine mm_s1 rfl ?_
    refine mm_s1 rfl ?_
    refine mm_s1 rfl ?_
    refine mm_s1 rfl ?_
    refine mm_s1 rfl ?_
    show mm_Go (mm_run 5) mc_M_merges _ (23, [(0, .inr (.inr 407)), (1, .inl v1), (2, .inl v2), (3, .inl v3), (4, .inl v4), (5, .inl v5)], [.inl v4, .inl v3, .inl v2, .inl v1, .inr (.inr 407)], M)
    refine mm_s1 rfl ?_
    refine mm_s1 rfl ⟨(nn_c407 NN).1, ?_⟩
    refine nn_call (D := 5) (by decide) (h n L N) ?_
    intro v M25 q; clear L N h
    obtain ⟨rfl, L, N, h⟩ := q
    show mm_Go (mm_run 5) mc_M_merges _ (28, [(0, .inr (.inr 407)), (1, .inl v1), (2, .inl v2), (3, .inl v3), (4, .inl v4), (5, .inl v5)], [], M25)
    exact mm_s1 rfl ⟨rfl, L, N, h⟩
  · show mm_Go (mm_run 5) mc_M_merges _ (4, [(0, .inr (.inr 407)), (1, .inl v1), (2, .inl v2), (3, .inl v3), (4, .inl v4), (5, .inl v5)], [], M)
    replace c1 := Int.not_le.mp c1
    replace h := h.2 c1
    refine mm_s1 rfl ?_
    refine mm_s1 rfl ?_
    refine mm_s1 rfl ?_
    refine mm_s1 rfl ?_
    refine mm_s1 rfl ?_
    show mm_Go (mm_run 5) mc_M_merges _ (11, [(0, .inr (.inr 407)), (1, .inl v1), (2, .inl v2), (3, .inl v3), (4, .inl v4), (5, .inl v5)], [.inl v5, .inl v4, .inl v3, .inl v1, .inr (.inr 407)], M)
    refine mm_s1 rfl ⟨(nn_c407 NN).1, ?_⟩
    refine nn_call (D := 4) (by decide) (h n L N) ?_
    intro v M11 q; clear L N h
    obtain ⟨rfl, L, N, h⟩ := q
    show mm_Go (mm_run 5) mc_M_merges _ (14, [(0, .inr (.inr 407)), (1, .inl v1), (2, .inl v2), (3, .inl v3), (4, .inl v4), (5, .inl v5)], [], M11)
    refine mm_s1 rfl ?_
    show mm_Go (mm_run 5) mc_M_merges _ (28, [(0, .inr (.inr 407)), (1, .inl v1), (2, .inl v2), (3, .inl v3), (4, .inl v4), (5, .inl v5)], [], M11)
    exact mm_s1 rfl ⟨rfl, L, N, h⟩
def nr_M_repair (v1 : Int) (M : mm_M) (R : Int → mm_M → Prop) : Prop := ∀ n, nn_L M → M.1 = n → mm_run 6 mi_M_repair [.inr (.inr 407), .inl v1] M (nw_I n R)
set_option maxRecDepth 20000 in
theorem ng_M_repair (v1 : Int) (M : mm_M) (R : Int → mm_M → Prop) (h : ((nc_M_isIndex v1 M) ∧ (((nf_M_isIndex v1 M) = 0 → R (-1) M) ∧ ((nf_M_isIndex v1 M) ≠ 0 → (nr_M_repairs 0 v1 M (fun r11 M11 => R r11 M11)))))) : nr_M_repair v1 M R := by
  intro n L N 
  have NN := nn_L_n L N
  show mm_Go (mm_run 5) mc_M_repair _ (0, [(0, .inr (.inr 407)), (1, .inl v1)], [], M)
  refine mm_s1 rfl ?_
  refine mm_s1 rfl ?_
  obtain ⟨b2, h⟩ := h
  refine mm_s1 rfl ⟨(nn_c407 NN).1, ?_⟩
  refine np_M_isIndex (by decide) L N b2 ?_
  show mm_Go (mm_run 5) mc_M_repair _ (5, [(0, .inr (.inr 407)), (1, .inl v1)], [.inl (nf_M_isIndex v1 M)], M)
  refine mm_s1 rfl ⟨fun c5 => ?_, fun c5 => ?_⟩
  · show mm_Go (mm_run 5) mc_M_repair _ (17, [(0, .inr (.inr 407)), (1, .inl v1)], [], M)
    replace h := h.1 c5
    refine mm_s1 rfl ?_
    exact mm_s1 rfl ⟨_, rfl, L, N, h⟩
  · show mm_Go (mm_run 5) mc_M_repair _ (8, [(0, .inr (.inr 407)), (1, .inl v1)], [], M)
    replace h := h.2 c5
    refine mm_s1 rfl ?_
    refine mm_s1 rfl ?_
    refine mm_s1 rfl ?_
    refine mm_s1 rfl ⟨(nn_c407 NN).1, ?_⟩
    refine nn_call (D := 5) (by decide) (h n L N) ?_
    intro v M11 q; clear L N h
    obtain ⟨r11, rfl, L, N, h⟩ := q
    show mm_Go (mm_run 5) mc_M_repair _ (14, [(0, .inr (.inr 407)), (1, .inl v1)], [.inl r11], M11)
    refine mm_s1 rfl ?_
    show mm_Go (mm_run 5) mc_M_repair _ (18, [(0, .inr (.inr 407)), (1, .inl v1)], [.inl r11], M11)
    exact mm_s1 rfl ⟨_, rfl, L, N, h⟩
def nr_M_clashes (v1 : Int) (M : mm_M) (R : Int → mm_M → Prop) : Prop := ∀ n, nn_L M → M.1 = n → mm_run 6 mi_M_clashes [.inr (.inr 407), .inl v1] M (nw_Z n R)
def nk_M_clashes_14 (v1 : Int) (v2 : Int) (v3 : Int) (v4 : Int) (v5 : Int) (M : mm_M) (R : Int → mm_M → Prop) : Prop := ∀ n, nn_L M → M.1 = n → mm_Go (mm_run 5) mc_M_clashes (nw_Z n R) (14, [(0, .inr (.inr 407)), (1, .inl v1), (2, .inl v2), (3, .inl v3), (4, .inl v4), (5, .inl v5)], [], M)
set_option maxRecDepth 20000 in
theorem ng_M_clashes (v1 : Int) (M : mm_M) (R : Int → mm_M → Prop) (h : nk_M_clashes_14 v1 (nf_M_at 0 v1) (-1) (-1) 0 M R) : nr_M_clashes v1 M R := by
  intro n L N 
  have NN := nn_L_n L N
  show mm_Go (mm_run 5) mc_M_clashes _ (0, [(0, .inr (.inr 407)), (1, .inl v1)], [], M)
  refine mm_s1 rfl ?_
  refine mm_s1 rfl ?_
  refine mm_s1 rfl ⟨trivial, ?_⟩
  refine np_M_at (by decide) L N ?_
  show mm_Go (mm_run 5) mc_M_clashes _ (5, [(0, .inr (.inr 407)), (1, .inl v1)], [.inl (nf_M_at 0 v1)], M)
  refine mm_s1 rfl ?_
  show mm_Go (mm_run 5) mc_M_clashes _ (6, [(0, .inr (.inr 407)), (1, .inl v1), (2, .inl (nf_M_at 0 v1))], [], M)
  refine mm_s1 rfl ?_
  refine mm_s1 rfl ?_
  show mm_Go (mm_run 5) mc_M_clashes _ (8, [(0, .inr (.inr 407)), (1, .inl v1), (2, .inl (nf_M_at 0 v1)), (3, .inl (-1))], [], M)
  refine mm_s1 rfl ?_
  refine mm_s1 rfl ?_
  show mm_Go (mm_run 5) mc_M_clashes _ (11, [(0, .inr (.inr 407)), (1, .inl v1), (2, .inl (nf_M_at 0 v1)), (3, .inl (-1)), (4, .inl (-1))], [], M)
  refine mm_s1 rfl ?_
  refine mm_s1 rfl ?_
  show mm_Go (mm_run 5) mc_M_clashes _ (14, [(0, .inr (.inr 407)), (1, .inl v1), (2, .inl (nf_M_at 0 v1)), (3, .inl (-1)), (4, .inl (-1)), (5, .inl 0)], [], M)
  exact nn_go_ext (nn_xc rfl (nn_xc rfl (nn_xc rfl (nn_xc rfl (nn_xc rfl (nn_xc rfl nn_xn)))))) (h n L N)
set_option maxRecDepth 20000 in
theorem ng_M_clashes_14 (v1 : Int) (v2 : Int) (v3 : Int) (v4 : Int) (v5 : Int) (M : mm_M) (R : Int → mm_M → Prop) (h : ((32 ≤ v5 → ((0 ≤ v4 → (∀ M129 : mm_M, M129 = nn_ui M 408 7 (mm_w ((nn_ri M 408 7) + 1)) → (nr_M_whys 0 2 v4 v1 v3 M129 (fun M137 => (nr_M_other 0 v2 v4 v3 M137 (fun r152 M152 => (∀ M155 : mm_M, M155 = nn_ui M152 408 13 r152 → (nr_M_stampOf 0 (nn_ri M155 408 13) M155 (fun r171 M171 => (∀ M174 : mm_M, M174 = nn_ui M171 408 14 r171 → (nr_M_goes v1 M174 (fun M177 => R 1 M177)))))))))))) ∧ (v4 < 0 → R 0 M))) ∧ (v5 < 32 → (((0 : Int) ≤ (mm_w (v2 + 1)) ∧ (mm_w (v2 + 1)) < (32844 : Int)) ∧ (((nn_ri M 408 (mm_w (v2 + 1))) ≠ 1 → ((0 ≤ v4 → (∀ M129 : mm_M, M129 = nn_ui M 408 7 (mm_w ((nn_ri M 408 7) + 1)) → (nr_M_whys 0 2 v4 v1 v3 M129 (fun M137 => (nr_M_other 0 v2 v4 v3 M137 (fun r152 M152 => (∀ M155 : mm_M, M155 = nn_ui M152 408 13 r152 → (nr_M_stampOf 0 (nn_ri M155 408 13) M155 (fun r171 M171 => (∀ M174 : mm_M, M174 = nn_ui M171 408 14 r171 → (nr_M_goes v1 M174 (fun M177 => R 1 M177)))))))))))) ∧ (v4 < 0 → R 0 M))) ∧ ((nn_ri M 408 (mm_w (v2 + 1))) = 1 → (nr_M_isWanted 0 v2 v5 M (fun r38 M38 => ((r38 ≠ 0 → (nr_M_rowOf 0 v5 M38 (fun r53 M53 => (nr_M_valueOf v2 r53 M53 (fun r56 M56 => (nr_M_other 0 v2 v5 r56 M56 (fun r68 M68 => (((r68 < 0 ∨ (v5 < r68 ∨ (v3 ≠ (-1) ∧ (v3 ≤ r56)))) → nk_M_clashes_14 v1 v2 v3 v4 (mm_w (v5 + 1)) M68 R) ∧ ((0 ≤ r68 ∧ (r68 ≤ v5 ∧ (v3 = (-1) ∨ (r56 < v3)))) → nk_M_clashes_14 v1 v2 r56 v5 (mm_w (v5 + 1)) M68 R))))))))) ∧ (r38 = 0 → nk_M_clashes_14 v1 v2 v3 v4 (mm_w (v5 + 1)) M38 R)))))))))) : nk_M_clashes_14 v1 v2 v3 v4 v5 M R := by
  intro n L N 
  have NN := nn_L_n L N
  show mm_Go (mm_run 5) mc_M_clashes _ (14, [(0, .inr (.inr 407)), (1, .inl v1), (2, .inl v2), (3, .inl v3), (4, .inl v4), (5, .inl v5)], [], M)
  refine mm_s1 rfl ?_
  refine mm_s1 rfl ?_
  refine mm_s1 rfl ⟨fun c18 => ?_, fun c18 => ?_⟩
  · show mm_Go (mm_run 5) mc_M_clashes _ (112, [(0, .inr (.inr 407)), (1, .inl v1), (2, .inl v2), (3, .inl v3), (4, .inl v4), (5, .inl v5)], [], M)
    replace h := h.1 c18
    refine mm_s1 rfl ?_
    refine mm_s1 rfl ⟨fun c114 => ?_, fun c114 => ?_⟩
    · show mm_Go (mm_run 5) mc_M_clashes _ (119, [(0, .inr (.inr 407)), (1, .inl v1), (2, .inl v2), (3, .inl v3), (4, .inl v4), (5, .inl v5)], [], M)
      replace h := h.1 c114
      refine mm_s1 rfl ?_
      refine nn_getr rfl (nn_c407 NN).1 (lf_13_0 L N (nn_c407 NN)) ?_
      refine mm_s1 rfl ?_
      refine mm_s1 rfl ?_
      refine mm_s1 rfl ⟨nn_bd (na_13_0 NN (nn_c407 NN)) (by decide), ?_⟩
      show mm_Go (mm_run 5) mc_M_clashes _ (127, [(0, .inr (.inr 407)), (1, .inl v1), (2, .inl v2), (3, .inl v3), (4, .inl v4), (5, .inl v5)], [.inl (nn_ri M 408 7), .inl 7, .inr (.inr 408)], M)
      refine mm_s1 rfl ?_
      refine mm_s1 rfl ?_
      refine mm_s1 rfl ⟨nn_bd (na_13_0 NN (nn_c407 NN)) (show (0 : Int) ≤ 7 ∧ (7 : Int) < 32844 by decide), ?_⟩
      show mm_Go (mm_run 5) mc_M_clashes _ (130, [(0, .inr (.inr 407)), (1, .inl v1), (2, .inl v2), (3, .inl v3), (4, .inl v4), (5, .inl v5)], [], (nn_ui M 408 7 (mm_w ((nn_ri M 408 7) + 1))))
      have L : nn_L (nn_ui M 408 7 (mm_w ((nn_ri M 408 7) + 1))) := nn_L_ua L (congrArg Prod.fst (na_13_0 NN (nn_c407 NN))) (by decide)
      have N : (nn_ui M 408 7 (mm_w ((nn_ri M 408 7) + 1))).1 = n := N
      generalize e_M129 : (nn_ui M 408 7 (mm_w ((nn_ri M 408 7) + 1))) = M129 at L N ⊢
      replace h := h _ e_M129.symm
      show mm_Go (mm_run 5) mc_M_clashes _ (130, [(0, .inr (.inr 407)), (1, .inl v1), (2, .inl v2), (3, .inl v3), (4, .inl v4), (5, .inl v5)], [], M129)
      refine mm_s1 rfl ?_
      refine mm_s1 rfl ?_
      refine mm_s1 rfl ?_
      refine mm_s1 rfl ?_
      refine mm_s1 rfl ?_
      show mm_Go (mm_run 5) mc_M_clashes _ (136, [(0, .inr (.inr 407)), (1, .inl v1), (2, .inl v2), (3, .inl v3), (4, .inl v4), (5, .inl v5)], [.inl v1, .inl v4, .inl 2, .inl 0, .inr (.inr 407)], M129)
      refine mm_s1 rfl ?_
      refine mm_s1 rfl ⟨(nn_c407 NN).1, ?_⟩
      refine nn_call (D := 1) (by decide) (h n L N) ?_
      intro v M137 q; clear L N h
      obtain ⟨rfl, L, N, h⟩ := q
      show mm_Go (mm_run 5) mc_M_clashes _ (140, [(0, .inr (.inr 407)), (1, .inl v1), (2, .inl v2), (3, .inl v3), (4, .inl v4), (5, .inl v5)], [], M137)
      refine mm_s1 rfl ?_
      refine nn_getr rfl (nn_c407 NN).1 (lf_13_0 L N (nn_c407 NN)) ?_
      refine mm_s1 rfl ?_
      refine mm_s1 rfl ?_
      refine mm_s1 rfl ?_
      show mm_Go (mm_run 5) mc_M_clashes _ (148, [(0, .inr (.inr 407)), (1, .inl v1), (2, .inl v2), (3, .inl v3), (4, .inl v4), (5, .inl v5)], [.inl 0, .inr (.inr 407), .inl 13, .inr (.inr 408)], M137)
      refine mm_s1 rfl ?_
      refine mm_s1 rfl ?_
      refine mm_s1 rfl ?_
      refine mm_s1 rfl ⟨(nn_c407 NN).1, ?_⟩
      refine nn_call (D := 5) (by decide) (h n L N) ?_
      intro v M152 q; clear L N h
      obtain ⟨r152, rfl, L, N, h⟩ := q
      show mm_Go (mm_run 5) mc_M_clashes _ (155, [(0, .inr (.inr 407)), (1, .inl v1), (2, .inl v2), (3, .inl v3), (4, .inl v4), (5, .inl v5)], [.inl r152, .inl 13, .inr (.inr 408)], M152)
      refine mm_s1 rfl ⟨nn_bd (na_13_0 NN (nn_c407 NN)) (show (0 : Int) ≤ 13 ∧ (13 : Int) < 32844 by decide), ?_⟩
      show mm_Go (mm_run 5) mc_M_clashes _ (156, [(0, .inr (.inr 407)), (1, .inl v1), (2, .inl v2), (3, .inl v3), (4, .inl v4), (5, .inl v5)], [], (nn_ui M152 408 13 r152))
      have L : nn_L (nn_ui M152 408 13 r152) := nn_L_ua L (congrArg Prod.fst (na_13_0 NN (nn_c407 NN))) (by decide)
      have N : (nn_ui M152 408 13 r152).1 = n := N
      generalize e_M155 : (nn_ui M152 408 13 r152) = M155 at L N ⊢
      replace h := h _ e_M155.symm
      show mm_Go (mm_run 5) mc_M_clashes _ (156, [(0, .inr (.inr 407)), (1, .inl v1), (2, .inl v2), (3, .inl v3), (4, .inl v4), (5, .inl v5)], [], M155)
      refine mm_s1 rfl ?_
      refine nn_getr rfl (nn_c407 NN).1 (lf_13_0 L N (nn_c407 NN)) ?_
      refine mm_s1 rfl ?_
      refine mm_s1 rfl ?_
      refine mm_s1 rfl ?_
      show mm_Go (mm_run 5) mc_M_clashes _ (164, [(0, .inr (.inr 407)), (1, .inl v1), (2, .inl v2), (3, .inl v3), (4, .inl v4), (5, .inl v5)], [.inl 0, .inr (.inr 407), .inl 14, .inr (.inr 408)], M155)
      refine mm_s1 rfl ?_
      refine nn_getr rfl (nn_c407 NN).1 (lf_13_0 L N (nn_c407 NN)) ?_
      refine mm_s1 rfl ?_
      refine mm_s1 rfl ⟨nn_bd (na_13_0 NN (nn_c407 NN)) (by decide), ?_⟩
      show mm_Go (mm_run 5) mc_M_clashes _ (171, [(0, .inr (.inr 407)), (1, .inl v1), (2, .inl v2), (3, .inl v3), (4, .inl v4), (5, .inl v5)], [.inl (nn_ri M155 408 13), .inl 0, .inr (.inr 407), .inl 14, .inr (.inr 408)], M155)
      refine mm_s1 rfl ⟨(nn_c407 NN).1, ?_⟩
      refine nn_call (D := 3) (by decide) (h n L N) ?_
      intro v M171 q; clear L N h
      obtain ⟨r171, rfl, L, N, h⟩ := q
      show mm_Go (mm_run 5) mc_M_clashes _ (174, [(0, .inr (.inr 407)), (1, .inl v1), (2, .inl v2), (3, .inl v3), (4, .inl v4), (5, .inl v5)], [.inl r171, .inl 14, .inr (.inr 408)], M171)
      refine mm_s1 rfl ⟨nn_bd (na_13_0 NN (nn_c407 NN)) (show (0 : Int) ≤ 14 ∧ (14 : Int) < 32844 by decide), ?_⟩
      show mm_Go (mm_run 5) mc_M_clashes _ (175, [(0, .inr (.inr 407)), (1, .inl v1), (2, .inl v2), (3, .inl v3), (4, .inl v4), (5, .inl v5)], [], (nn_ui M171 408 14 r171))
      have L : nn_L (nn_ui M171 408 14 r171) := nn_L_ua L (congrArg Prod.fst (na_13_0 NN (nn_c407 NN))) (by decide)
      have N : (nn_ui M171 408 14 r171).1 = n := N
      generalize e_M174 : (nn_ui M171 408 14 r171) = M174 at L N ⊢
      replace h := h _ e_M174.symm
      show mm_Go (mm_run 5) mc_M_clashes _ (175, [(0, .inr (.inr 407)), (1, .inl v1), (2, .inl v2), (3, .inl v3), (4, .inl v4), (5, .inl v5)], [], M174)
      refine mm_s1 rfl ?_
      refine mm_s1 rfl ?_
      refine mm_s1 rfl ⟨(nn_c407 NN).1, ?_⟩
      refine nn_call (D := 2) (by decide) (h n L N) ?_
      intro v M177 q; clear L N h
      obtain ⟨rfl, L, N, h⟩ := q
      show mm_Go (mm_run 5) mc_M_clashes _ (180, [(0, .inr (.inr 407)), (1, .inl v1), (2, .inl v2), (3, .inl v3), (4, .inl v4), (5, .inl v5)], [], M177)
      refine mm_s1 rfl ?_
      exact mm_s1 rfl ⟨(Or.inr rfl), _, rfl, (Or.inr rfl), L, N, h⟩
    · show mm_Go (mm_run 5) mc_M_clashes _ (117, [(0, .inr (.inr 407)), (1, .inl v1), (2, .inl v2), (3, .inl v3), (4, .inl v4), (5, .inl v5)], [], M)
      replace c114 := Int.not_le.mp c114
      replace h := h.2 c114
      refine mm_s1 rfl ?_
      exact mm_s1 rfl ⟨(Or.inl rfl), _, rfl, (Or.inl rfl), L, N, h⟩
  · show mm_Go (mm_run 5) mc_M_clashes _ (21, [(0, .inr (.inr 407)), (1, .inl v1), (2, .inl v2), (3, .inl v3), (4, .inl v4), (5, .inl v5)], [], M)
    replace c18 := Int.not_le.mp c18
    replace h := h.2 c18
    refine mm_s1 rfl ?_
    refine nn_getr rfl (nn_c407 NN).1 (lf_13_0 L N (nn_c407 NN)) ?_
    refine mm_s1 rfl ?_
    refine mm_s1 rfl ?_
    refine mm_s1 rfl ?_
    show mm_Go (mm_run 5) mc_M_clashes _ (28, [(0, .inr (.inr 407)), (1, .inl v1), (2, .inl v2), (3, .inl v3), (4, .inl v4), (5, .inl v5)], [.inl (mm_w (v2 + 1)), .inr (.inr 408)], M)
    obtain ⟨b28, h⟩ := h
    refine mm_s1 rfl ⟨nn_bd (na_13_0 NN (nn_c407 NN)) b28, ?_⟩
    show mm_Go (mm_run 5) mc_M_clashes _ (29, [(0, .inr (.inr 407)), (1, .inl v1), (2, .inl v2), (3, .inl v3), (4, .inl v4), (5, .inl v5)], [.inl (nn_ri M 408 (mm_w (v2 + 1)))], M)
    refine mm_s1 rfl ?_
    refine mm_s1 rfl ⟨fun c30 => ?_, fun c30 => ?_⟩
    · show mm_Go (mm_run 5) mc_M_clashes _ (112, [(0, .inr (.inr 407)), (1, .inl v1), (2, .inl v2), (3, .inl v3), (4, .inl v4), (5, .inl v5)], [], M)
      replace h := h.1 c30
      refine mm_s1 rfl ?_
      refine mm_s1 rfl ⟨fun c114 => ?_, fun c114 => ?_⟩
      · show mm_Go (mm_run 5) mc_M_clashes _ (119, [(0, .inr (.inr 407)), (1, .inl v1), (2, .inl v2), (3, .inl v3), (4, .inl v4), (5, .inl v5)], [], M)
        replace h := h.1 c114
        refine mm_s1 rfl ?_
        refine nn_getr rfl (nn_c407 NN).1 (lf_13_0 L N (nn_c407 NN)) ?_
        refine mm_s1 rfl ?_
        refine mm_s1 rfl ?_
        refine mm_s1 rfl ⟨nn_bd (na_13_0 NN (nn_c407 NN)) (by decide), ?_⟩
        show mm_Go (mm_run 5) mc_M_clashes _ (127, [(0, .inr (.inr 407)), (1, .inl v1), (2, .inl v2), (3, .inl v3), (4, .inl v4), (5, .inl v5)], [.inl (nn_ri M 408 7), .inl 7, .inr (.inr 408)], M)
        refine mm_s1 rfl ?_
        refine mm_s1 rfl ?_
        refine mm_s1 rfl ⟨nn_bd (na_13_0 NN (nn_c407 NN)) (show (0 : Int) ≤ 7 ∧ (7 : Int) < 32844 by decide), ?_⟩
        show mm_Go (mm_run 5) mc_M_clashes _ (130, [(0, .inr (.inr 407)), (1, .inl v1), (2, .inl v2), (3, .inl v3), (4, .inl v4), (5, .inl v5)], [], (nn_ui M 408 7 (mm_w ((nn_ri M 408 7) + 1))))
        have L : nn_L (nn_ui M 408 7 (mm_w ((nn_ri M 408 7) + 1))) := nn_L_ua L (congrArg Prod.fst (na_13_0 NN (nn_c407 NN))) (by decide)
        have N : (nn_ui M 408 7 (mm_w ((nn_ri M 408 7) + 1))).1 = n := N
        generalize e_M129 : (nn_ui M 408 7 (mm_w ((nn_ri M 408 7) + 1))) = M129 at L N ⊢
        replace h := h _ e_M129.symm
        show mm_Go (mm_run 5) mc_M_clashes _ (130, [(0, .inr (.inr 407)), (1, .inl v1), (2, .inl v2), (3, .inl v3), (4, .inl v4), (5, .inl v5)], [], M129)
        refine mm_s1 rfl ?_
        refine mm_s1 rfl ?_
        refine mm_s1 rfl ?_
        refine mm_s1 rfl ?_
        refine mm_s1 rfl ?_
        show mm_Go (mm_run 5) mc_M_clashes _ (136, [(0, .inr (.inr 407)), (1, .inl v1), (2, .inl v2), (3, .inl v3), (4, .inl v4), (5, .inl v5)], [.inl v1, .inl v4, .inl 2, .inl 0, .inr (.inr 407)], M129)
        refine mm_s1 rfl ?_
        refine mm_s1 rfl ⟨(nn_c407 NN).1, ?_⟩
        refine nn_call (D := 1) (by decide) (h n L N) ?_
        intro v M137 q; clear L N h
        obtain ⟨rfl, L, N, h⟩ := q
        show mm_Go (mm_run 5) mc_M_clashes _ (140, [(0, .inr (.inr 407)), (1, .inl v1), (2, .inl v2), (3, .inl v3), (4, .inl v4), (5, .inl v5)], [], M137)
        refine mm_s1 rfl ?_
        refine nn_getr rfl (nn_c407 NN).1 (lf_13_0 L N (nn_c407 NN)) ?_
        refine mm_s1 rfl ?_
        refine mm_s1 rfl ?_
        refine mm_s1 rfl ?_
        show mm_Go (mm_run 5) mc_M_clashes _ (148, [(0, .inr (.inr 407)), (1, .inl v1), (2, .inl v2), (3, .inl v3), (4, .inl v4), (5, .inl v5)], [.inl 0, .inr (.inr 407), .inl 13, .inr (.inr 408)], M137)
        refine mm_s1 rfl ?_
        refine mm_s1 rfl ?_
        refine mm_s1 rfl ?_
        refine mm_s1 rfl ⟨(nn_c407 NN).1, ?_⟩
        refine nn_call (D := 5) (by decide) (h n L N) ?_
        intro v M152 q; clear L N h
        obtain ⟨r152, rfl, L, N, h⟩ := q
        show mm_Go (mm_run 5) mc_M_clashes _ (155, [(0, .inr (.inr 407)), (1, .inl v1), (2, .inl v2), (3, .inl v3), (4, .inl v4), (5, .inl v5)], [.inl r152, .inl 13, .inr (.inr 408)], M152)
        refine mm_s1 rfl ⟨nn_bd (na_13_0 NN (nn_c407 NN)) (show (0 : Int) ≤ 13 ∧ (13 : Int) < 32844 by decide), ?_⟩
        show mm_Go (mm_run 5) mc_M_clashes _ (156, [(0, .inr (.inr 407)), (1, .inl v1), (2, .inl v2), (3, .inl v3), (4, .inl v4), (5, .inl v5)], [], (nn_ui M152 408 13 r152))
        have L : nn_L (nn_ui M152 408 13 r152) := nn_L_ua L (congrArg Prod.fst (na_13_0 NN (nn_c407 NN))) (by decide)
        have N : (nn_ui M152 408 13 r152).1 = n := N
        generalize e_M155 : (nn_ui M152 408 13 r152) = M155 at L N ⊢
        replace h := h _ e_M155.symm
        show mm_Go (mm_run 5) mc_M_clashes _ (156, [(0, .inr (.inr 407)), (1, .inl v1), (2, .inl v2), (3, .inl v3), (4, .inl v4), (5, .inl v5)], [], M155)
        refine mm_s1 rfl ?_
        refine nn_getr rfl (nn_c407 NN).1 (lf_13_0 L N (nn_c407 NN)) ?_
        refine mm_s1 rfl ?_
        refine mm_s1 rfl ?_
        refine mm_s1 rfl ?_
        show mm_Go (mm_run 5) mc_M_clashes _ (164, [(0, .inr (.inr 407)), (1, .inl v1), (2, .inl v2), (3, .inl v3), (4, .inl v4), (5, .inl v5)], [.inl 0, .inr (.inr 407), .inl 14, .inr (.inr 408)], M155)
        refine mm_s1 rfl ?_
        refine nn_getr rfl (nn_c407 NN).1 (lf_13_0 L N (nn_c407 NN)) ?_
        refine mm_s1 rfl ?_
        refine mm_s1 rfl ⟨nn_bd (na_13_0 NN (nn_c407 NN)) (by decide), ?_⟩
        show mm_Go (mm_run 5) mc_M_clashes _ (171, [(0, .inr (.inr 407)), (1, .inl v1), (2, .inl v2), (3, .inl v3), (4, .inl v4), (5, .inl v5)], [.inl (nn_ri M155 408 13), .inl 0, .inr (.inr 407), .inl 14, .inr (.inr 408)], M155)
        refine mm_s1 rfl ⟨(nn_c407 NN).1, ?_⟩
        refine nn_call (D := 3) (by decide) (h n L N) ?_
        intro v M171 q; clear L N h
        obtain ⟨r171, rfl, L, N, h⟩ := q
        show mm_Go (mm_run 5) mc_M_clashes _ (174, [(0, .inr (.inr 407)), (1, .inl v1), (2, .inl v2), (3, .inl v3), (4, .inl v4), (5, .inl v5)], [.inl r171, .inl 14, .inr (.inr 408)], M171)
        refine mm_s1 rfl ⟨nn_bd (na_13_0 NN (nn_c407 NN)) (show (0 : Int) ≤ 14 ∧ (14 : Int) < 32844 by decide), ?_⟩
        show mm_Go (mm_run 5) mc_M_clashes _ (175, [(0, .inr (.inr 407)), (1, .inl v1), (2, .inl v2), (3, .inl v3), (4, .inl v4), (5, .inl v5)], [], (nn_ui M171 408 14 r171))
        have L : nn_L (nn_ui M171 408 14 r171) := nn_L_ua L (congrArg Prod.fst (na_13_0 NN (nn_c407 NN))) (by decide)
        have N : (nn_ui M171 408 14 r171).1 = n := N
        generalize e_M174 : (nn_ui M171 408 14 r171) = M174 at L N ⊢
        replace h := h _ e_M174.symm
        show mm_Go (mm_run 5) mc_M_clashes _ (175, [(0, .inr (.inr 407)), (1, .inl v1), (2, .inl v2), (3, .inl v3), (4, .inl v4), (5, .inl v5)], [], M174)
        refine mm_s1 rfl ?_
        refine mm_s1 rfl ?_
        refine mm_s1 rfl ⟨(nn_c407 NN).1, ?_⟩
        refine nn_call (D := 2) (by decide) (h n L N) ?_
        intro v M177 q; clear L N h
        obtain ⟨rfl, L, N, h⟩ := q
        show mm_Go (mm_run 5) mc_M_clashes _ (180, [(0, .inr (.inr 407)), (1, .inl v1), (2, .inl v2), (3, .inl v3), (4, .inl v4), (5, .inl v5)], [], M177)
        refine mm_s1 rfl ?_
        exact mm_s1 rfl ⟨(Or.inr rfl), _, rfl, (Or.inr rfl), L, N, h⟩
      · show mm_Go (mm_run 5) mc_M_clashes _ (117, [(0, .inr (.inr 407)), (1, .inl v1), (2, .inl v2), (3, .inl v3), (4, .inl v4), (5, .inl v5)], [], M)
        replace c114 := Int.not_le.mp c114
        replace h := h.2 c114
        refine mm_s1 rfl ?_
        exact mm_s1 rfl ⟨(Or.inl rfl), _, rfl, (Or.inl rfl), L, N, h⟩
    · show mm_Go (mm_run 5) mc_M_clashes _ (33, [(0, .inr (.inr 407)), (1, .inl v1), (2, .inl v2), (3, .inl v3), (4, .inl v4), (5, .inl v5)], [], M)
      replace c30 := Decidable.not_not.mp c30
      replace h := h.2 c30
      refine mm_s1 rfl ?_
      refine mm_s1 rfl ?_
      refine mm_s1 rfl ?_
      refine mm_s1 rfl ?_
      refine mm_s1 rfl ⟨(nn_c407 NN).1, ?_⟩
      refine nn_call (D := 4) (by decide) (h n L N) ?_
      intro v M38 q; clear L N h
      obtain ⟨r38, rfl, q38, L, N, h⟩ := q
      show mm_Go (mm_run 5) mc_M_clashes _ (41, [(0, .inr (.inr 407)), (1, .inl v1), (2, .inl v2), (3, .inl v3), (4, .inl v4), (5, .inl v5)], [.inl r38], M38)
      refine mm_s1 rfl ⟨fun c41 => ?_, fun c41 => ?_⟩
      · show mm_Go (mm_run 5) mc_M_clashes _ (47, [(0, .inr (.inr 407)), (1, .inl v1), (2, .inl v2), (3, .inl v3), (4, .inl v4), (5, .inl v5)], [], M38)
        replace h := h.1 c41
        refine mm_s1 rfl ?_
        refine mm_s1 rfl ?_
        refine mm_s1 rfl ?_
        refine mm_s1 rfl ?_
        refine mm_s1 rfl ?_
        show mm_Go (mm_run 5) mc_M_clashes _ (53, [(0, .inr (.inr 407)), (1, .inl v1), (2, .inl v2), (3, .inl v3), (4, .inl v4), (5, .inl v5)], [.inl v5, .inl 0, .inr (.inr 407), .inl v2, .inr (.inr 407)], M38)
        refine mm_s1 rfl ⟨(nn_c407 NN).1, ?_⟩
        refine nn_call (D := 3) (by decide) (h n L N) ?_
        intro v M53 q; clear L N h
        obtain ⟨r53, rfl, L, N, h⟩ := q
        show mm_Go (mm_run 5) mc_M_clashes _ (56, [(0, .inr (.inr 407)), (1, .inl v1), (2, .inl v2), (3, .inl v3), (4, .inl v4), (5, .inl v5)], [.inl r53, .inl v2, .inr (.inr 407)], M53)
        refine mm_s1 rfl ⟨(nn_c407 NN).1, ?_⟩
        refine nn_call (D := 3) (by decide) (h n L N) ?_
        intro v M56 q; clear L N h
        obtain ⟨r56, rfl, L, N, h⟩ := q
        show mm_Go (mm_run 5) mc_M_clashes _ (59, [(0, .inr (.inr 407)), (1, .inl v1), (2, .inl v2), (3, .inl v3), (4, .inl v4), (5, .inl v5)], [.inl r56], M56)
        refine mm_s1 rfl ?_
        show mm_Go (mm_run 5) mc_M_clashes _ (61, [(0, .inr (.inr 407)), (1, .inl v1), (2, .inl v2), (3, .inl v3), (4, .inl v4), (5, .inl v5), (6, .inl r56)], [], M56)
        refine mm_s1 rfl ?_
        refine mm_s1 rfl ?_
        refine mm_s1 rfl ?_
        refine mm_s1 rfl ?_
        refine mm_s1 rfl ?_
        show mm_Go (mm_run 5) mc_M_clashes _ (68, [(0, .inr (.inr 407)), (1, .inl v1), (2, .inl v2), (3, .inl v3), (4, .inl v4), (5, .inl v5), (6, .inl r56)], [.inl r56, .inl v5, .inl v2, .inl 0, .inr (.inr 407)], M56)
        refine mm_s1 rfl ⟨(nn_c407 NN).1, ?_⟩
        refine nn_call (D := 5) (by decide) (h n L N) ?_
        intro v M68 q; clear L N h
        obtain ⟨r68, rfl, L, N, h⟩ := q
        show mm_Go (mm_run 5) mc_M_clashes _ (71, [(0, .inr (.inr 407)), (1, .inl v1), (2, .inl v2), (3, .inl v3), (4, .inl v4), (5, .inl v5), (6, .inl r56)], [.inl r68], M68)
        refine mm_s1 rfl ?_
        show mm_Go (mm_run 5) mc_M_clashes _ (73, [(0, .inr (.inr 407)), (1, .inl v1), (2, .inl v2), (3, .inl v3), (4, .inl v4), (5, .inl v5), (6, .inl r56), (7, .inl r68)], [], M68)
        refine mm_s1 rfl ?_
        refine mm_s1 rfl ⟨fun c75 => ?_, fun c75 => ?_⟩
        · show mm_Go (mm_run 5) mc_M_clashes _ (106, [(0, .inr (.inr 407)), (1, .inl v1), (2, .inl v2), (3, .inl v3), (4, .inl v4), (5, .inl v5), (6, .inl r56), (7, .inl r68)], [], M68)
          refine mm_s1 rfl ?_
          show mm_Go (mm_run 5) mc_M_clashes _ (109, [(0, .inr (.inr 407)), (1, .inl v1), (2, .inl v2), (3, .inl v3), (4, .inl v4), (5, .inl (mm_w (v5 + 1))), (6, .inl r56), (7, .inl r68)], [], M68)
          refine mm_s1 rfl ?_
          show mm_Go (mm_run 5) mc_M_clashes _ (14, [(0, .inr (.inr 407)), (1, .inl v1), (2, .inl v2), (3, .inl v3), (4, .inl v4), (5, .inl (mm_w (v5 + 1))), (6, .inl r56), (7, .inl r68)], [], M68)
          replace h := h.1 (Or.inl c75)
          exact nn_go_ext (nn_xc rfl (nn_xc rfl (nn_xc rfl (nn_xc rfl (nn_xc rfl (nn_xc rfl nn_xn)))))) (h n L N)
        · show mm_Go (mm_run 5) mc_M_clashes _ (78, [(0, .inr (.inr 407)), (1, .inl v1), (2, .inl v2), (3, .inl v3), (4, .inl v4), (5, .inl v5), (6, .inl r56), (7, .inl r68)], [], M68)
          replace c75 := Int.not_lt.mp c75
          refine mm_s1 rfl ?_
          refine mm_s1 rfl ?_
          refine mm_s1 rfl ⟨fun c82 => ?_, fun c82 => ?_⟩
          · show mm_Go (mm_run 5) mc_M_clashes _ (106, [(0, .inr (.inr 407)), (1, .inl v1), (2, .inl v2), (3, .inl v3), (4, .inl v4), (5, .inl v5), (6, .inl r56), (7, .inl r68)], [], M68)
            refine mm_s1 rfl ?_
            show mm_Go (mm_run 5) mc_M_clashes _ (109, [(0, .inr (.inr 407)), (1, .inl v1), (2, .inl v2), (3, .inl v3), (4, .inl v4), (5, .inl (mm_w (v5 + 1))), (6, .inl r56), (7, .inl r68)], [], M68)
            refine mm_s1 rfl ?_
            show mm_Go (mm_run 5) mc_M_clashes _ (14, [(0, .inr (.inr 407)), (1, .inl v1), (2, .inl v2), (3, .inl v3), (4, .inl v4), (5, .inl (mm_w (v5 + 1))), (6, .inl r56), (7, .inl r68)], [], M68)
            replace h := h.1 (Or.inr (Or.inl c82))
            exact nn_go_ext (nn_xc rfl (nn_xc rfl (nn_xc rfl (nn_xc rfl (nn_xc rfl (nn_xc rfl nn_xn)))))) (h n L N)
          · show mm_Go (mm_run 5) mc_M_clashes _ (85, [(0, .inr (.inr 407)), (1, .inl v1), (2, .inl v2), (3, .inl v3), (4, .inl v4), (5, .inl v5), (6, .inl r56), (7, .inl r68)], [], M68)
            replace c82 := Int.not_lt.mp c82
            refine mm_s1 rfl ?_
            refine mm_s1 rfl ?_
            refine mm_s1 rfl ⟨fun c87 => ?_, fun c87 => ?_⟩
            · show mm_Go (mm_run 5) mc_M_clashes _ (99, [(0, .inr (.inr 407)), (1, .inl v1), (2, .inl v2), (3, .inl v3), (4, .inl v4), (5, .inl v5), (6, .inl r56), (7, .inl r68)], [], M68)
              refine mm_s1 rfl ?_
              refine mm_s1 rfl ?_
              show mm_Go (mm_run 5) mc_M_clashes _ (102, [(0, .inr (.inr 407)), (1, .inl v1), (2, .inl v2), (3, .inl r56), (4, .inl v4), (5, .inl v5), (6, .inl r56), (7, .inl r68)], [], M68)
              refine mm_s1 rfl ?_
              refine mm_s1 rfl ?_
              show mm_Go (mm_run 5) mc_M_clashes _ (106, [(0, .inr (.inr 407)), (1, .inl v1), (2, .inl v2), (3, .inl r56), (4, .inl v5), (5, .inl v5), (6, .inl r56), (7, .inl r68)], [], M68)
              refine mm_s1 rfl ?_
              show mm_Go (mm_run 5) mc_M_clashes _ (109, [(0, .inr (.inr 407)), (1, .inl v1), (2, .inl v2), (3, .inl r56), (4, .inl v5), (5, .inl (mm_w (v5 + 1))), (6, .inl r56), (7, .inl r68)], [], M68)
              refine mm_s1 rfl ?_
              show mm_Go (mm_run 5) mc_M_clashes _ (14, [(0, .inr (.inr 407)), (1, .inl v1), (2, .inl v2), (3, .inl r56), (4, .inl v5), (5, .inl (mm_w (v5 + 1))), (6, .inl r56), (7, .inl r68)], [], M68)
              replace h := h.2 ⟨c75, ⟨c82, (Or.inl c87)⟩⟩
              exact nn_go_ext (nn_xc rfl (nn_xc rfl (nn_xc rfl (nn_xc rfl (nn_xc rfl (nn_xc rfl nn_xn)))))) (h n L N)
            · show mm_Go (mm_run 5) mc_M_clashes _ (90, [(0, .inr (.inr 407)), (1, .inl v1), (2, .inl v2), (3, .inl v3), (4, .inl v4), (5, .inl v5), (6, .inl r56), (7, .inl r68)], [], M68)
              refine mm_s1 rfl ?_
              refine mm_s1 rfl ?_
              refine mm_s1 rfl ⟨fun c93 => ?_, fun c93 => ?_⟩
              · show mm_Go (mm_run 5) mc_M_clashes _ (99, [(0, .inr (.inr 407)), (1, .inl v1), (2, .inl v2), (3, .inl v3), (4, .inl v4), (5, .inl v5), (6, .inl r56), (7, .inl r68)], [], M68)
                refine mm_s1 rfl ?_
                refine mm_s1 rfl ?_
                show mm_Go (mm_run 5) mc_M_clashes _ (102, [(0, .inr (.inr 407)), (1, .inl v1), (2, .inl v2), (3, .inl r56), (4, .inl v4), (5, .inl v5), (6, .inl r56), (7, .inl r68)], [], M68)
                refine mm_s1 rfl ?_
                refine mm_s1 rfl ?_
                show mm_Go (mm_run 5) mc_M_clashes _ (106, [(0, .inr (.inr 407)), (1, .inl v1), (2, .inl v2), (3, .inl r56), (4, .inl v5), (5, .inl v5), (6, .inl r56), (7, .inl r68)], [], M68)
                refine mm_s1 rfl ?_
                show mm_Go (mm_run 5) mc_M_clashes _ (109, [(0, .inr (.inr 407)), (1, .inl v1), (2, .inl v2), (3, .inl r56), (4, .inl v5), (5, .inl (mm_w (v5 + 1))), (6, .inl r56), (7, .inl r68)], [], M68)
                refine mm_s1 rfl ?_
                show mm_Go (mm_run 5) mc_M_clashes _ (14, [(0, .inr (.inr 407)), (1, .inl v1), (2, .inl v2), (3, .inl r56), (4, .inl v5), (5, .inl (mm_w (v5 + 1))), (6, .inl r56), (7, .inl r68)], [], M68)
                replace h := h.2 ⟨c75, ⟨c82, (Or.inr c93)⟩⟩
                exact nn_go_ext (nn_xc rfl (nn_xc rfl (nn_xc rfl (nn_xc rfl (nn_xc rfl (nn_xc rfl nn_xn)))))) (h n L N)
              · show mm_Go (mm_run 5) mc_M_clashes _ (96, [(0, .inr (.inr 407)), (1, .inl v1), (2, .inl v2), (3, .inl v3), (4, .inl v4), (5, .inl v5), (6, .inl r56), (7, .inl r68)], [], M68)
                replace c93 := Int.not_lt.mp c93
                refine mm_s1 rfl ?_
                show mm_Go (mm_run 5) mc_M_clashes _ (106, [(0, .inr (.inr 407)), (1, .inl v1), (2, .inl v2), (3, .inl v3), (4, .inl v4), (5, .inl v5), (6, .inl r56), (7, .inl r68)], [], M68)
                refine mm_s1 rfl ?_
                show mm_Go (mm_run 5) mc_M_clashes _ (109, [(0, .inr (.inr 407)), (1, .inl v1), (2, .inl v2), (3, .inl v3), (4, .inl v4), (5, .inl (mm_w (v5 + 1))), (6, .inl r56), (7, .inl r68)], [], M68)
                refine mm_s1 rfl ?_
                show mm_Go (mm_run 5) mc_M_clashes _ (14, [(0, .inr (.inr 407)), (1, .inl v1), (2, .inl v2), (3, .inl v3), (4, .inl v4), (5, .inl (mm_w (v5 + 1))), (6, .inl r56), (7, .inl r68)], [], M68)
                replace h := h.1 (Or.inr (Or.inr ⟨c87, c93⟩))
                exact nn_go_ext (nn_xc rfl (nn_xc rfl (nn_xc rfl (nn_xc rfl (nn_xc rfl (nn_xc rfl nn_xn)))))) (h n L N)
      · show mm_Go (mm_run 5) mc_M_clashes _ (44, [(0, .inr (.inr 407)), (1, .inl v1), (2, .inl v2), (3, .inl v3), (4, .inl v4), (5, .inl v5)], [], M38)
        replace c41 := Decidable.not_not.mp c41
        replace h := h.2 c41
        refine mm_s1 rfl ?_
        show mm_Go (mm_run 5) mc_M_clashes _ (106, [(0, .inr (.inr 407)), (1, .inl v1), (2, .inl v2), (3, .inl v3), (4, .inl v4), (5, .inl v5)], [], M38)
        refine mm_s1 rfl ?_
        show mm_Go (mm_run 5) mc_M_clashes _ (109, [(0, .inr (.inr 407)), (1, .inl v1), (2, .inl v2), (3, .inl v3), (4, .inl v4), (5, .inl (mm_w (v5 + 1)))], [], M38)
        refine mm_s1 rfl ?_
        show mm_Go (mm_run 5) mc_M_clashes _ (14, [(0, .inr (.inr 407)), (1, .inl v1), (2, .inl v2), (3, .inl v3), (4, .inl v4), (5, .inl (mm_w (v5 + 1)))], [], M38)
        exact nn_go_ext (nn_xc rfl (nn_xc rfl (nn_xc rfl (nn_xc rfl (nn_xc rfl (nn_xc rfl nn_xn)))))) (h n L N)
