/-! the references' own rows: by program (wip/whole/dec.py) -/
theorem nc_1_0 {o n : Nat} (N : nn_N n) (C : nn_C 1 o n) : nn_C 9 (o + 1) n := (nn_kid N C (show (1, 1, 9, 14) ∈ nn_tab by decide)).1
theorem na_1_0 {o n : Nat} (N : nn_N n) (C : nn_C 1 o n) : mm_kd (o + 1) = (9, 14) := (nn_kid N C (show (1, 1, 9, 14) ∈ nn_tab by decide)).2 (by decide)
theorem lf_1_0 {M : mm_M} {n o : Nat} (L : nn_L M) (N : M.1 = n) (C : nn_C 1 o n) : M.2 o 0 = ((o + 1 : Nat) : Int) := nn_lf L N C 1 rfl (by decide)
theorem nc_1_1 {o n : Nat} (N : nn_N n) (C : nn_C 1 o n) : nn_C 9 (o + 160) n := (nn_kid N C (show (1, 160, 9, 14) ∈ nn_tab by decide)).1
theorem na_1_1 {o n : Nat} (N : nn_N n) (C : nn_C 1 o n) : mm_kd (o + 160) = (9, 14) := (nn_kid N C (show (1, 160, 9, 14) ∈ nn_tab by decide)).2 (by decide)
theorem lf_1_1 {M : mm_M} {n o : Nat} (L : nn_L M) (N : M.1 = n) (C : nn_C 1 o n) : M.2 o 1 = ((o + 160 : Nat) : Int) := nn_lf L N C 160 rfl (by decide)
theorem nc_1_2 {o n : Nat} (N : nn_N n) (C : nn_C 1 o n) : nn_C 10 (o + 319) n := (nn_kid N C (show (1, 319, 10, 9) ∈ nn_tab by decide)).1
theorem na_1_2 {o n : Nat} (N : nn_N n) (C : nn_C 1 o n) : mm_kd (o + 319) = (10, 9) := (nn_kid N C (show (1, 319, 10, 9) ∈ nn_tab by decide)).2 (by decide)
theorem lf_1_2 {M : mm_M} {n o : Nat} (L : nn_L M) (N : M.1 = n) (C : nn_C 1 o n) : M.2 o 2 = ((o + 319 : Nat) : Int) := nn_lf L N C 319 rfl (by decide)
theorem nc_1_3 {o n : Nat} (N : nn_N n) (C : nn_C 1 o n) : nn_C 7 (o + 401) n := (nn_kid N C (show (1, 401, 7, 5) ∈ nn_tab by decide)).1
theorem na_1_3 {o n : Nat} (N : nn_N n) (C : nn_C 1 o n) : mm_kd (o + 401) = (7, 5) := (nn_kid N C (show (1, 401, 7, 5) ∈ nn_tab by decide)).2 (by decide)
theorem lf_1_3 {M : mm_M} {n o : Nat} (L : nn_L M) (N : M.1 = n) (C : nn_C 1 o n) : M.2 o 3 = ((o + 401 : Nat) : Int) := nn_lf L N C 401 rfl (by decide)
theorem nc_1_4 {o n : Nat} (N : nn_N n) (C : nn_C 1 o n) : nn_C 39 (o + 405) n := (nn_kid N C (show (1, 405, 39, 3) ∈ nn_tab by decide)).1
theorem na_1_4 {o n : Nat} (N : nn_N n) (C : nn_C 1 o n) : mm_kd (o + 405) = (39, 3) := (nn_kid N C (show (1, 405, 39, 3) ∈ nn_tab by decide)).2 (by decide)
theorem lf_1_4 {M : mm_M} {n o : Nat} (L : nn_L M) (N : M.1 = n) (C : nn_C 1 o n) : M.2 o 4 = ((o + 405 : Nat) : Int) := nn_lf L N C 405 rfl (by decide)
theorem nc_3_0 {o n : Nat} (N : nn_N n) (C : nn_C 3 o n) : nn_C 20 (o + 1) n := (nn_kid N C (show (3, 1, 20, 32) ∈ nn_tab by decide)).1
theorem na_3_0 {o n : Nat} (N : nn_N n) (C : nn_C 3 o n) : mm_kd (o + 1) = (20, 32) := (nn_kid N C (show (3, 1, 20, 32) ∈ nn_tab by decide)).2 (by decide)
theorem lf_3_0 {M : mm_M} {n o : Nat} (L : nn_L M) (N : M.1 = n) (C : nn_C 3 o n) : M.2 o 0 = ((o + 1 : Nat) : Int) := nn_lf L N C 1 rfl (by decide)
theorem nc_3_1 {o n : Nat} (N : nn_N n) (C : nn_C 3 o n) : nn_C 20 (o + 2) n := (nn_kid N C (show (3, 2, 20, 48) ∈ nn_tab by decide)).1
theorem na_3_1 {o n : Nat} (N : nn_N n) (C : nn_C 3 o n) : mm_kd (o + 2) = (20, 48) := (nn_kid N C (show (3, 2, 20, 48) ∈ nn_tab by decide)).2 (by decide)
theorem lf_3_1 {M : mm_M} {n o : Nat} (L : nn_L M) (N : M.1 = n) (C : nn_C 3 o n) : M.2 o 1 = ((o + 2 : Nat) : Int) := nn_lf L N C 2 rfl (by decide)
theorem nc_4_0 {o n : Nat} (N : nn_N n) (C : nn_C 4 o n) : nn_C 21 (o + 1) n := (nn_kid N C (show (4, 1, 21, 0) ∈ nn_tab by decide)).1
theorem lf_4_0 {M : mm_M} {n o : Nat} (L : nn_L M) (N : M.1 = n) (C : nn_C 4 o n) : M.2 o 0 = ((o + 1 : Nat) : Int) := nn_lf L N C 1 rfl (by decide)
theorem nc_5_0 {o n : Nat} (N : nn_N n) (C : nn_C 5 o n) : nn_C 8 (o + 1) n := (nn_kid N C (show (5, 1, 8, 3) ∈ nn_tab by decide)).1
theorem na_5_0 {o n : Nat} (N : nn_N n) (C : nn_C 5 o n) : mm_kd (o + 1) = (8, 3) := (nn_kid N C (show (5, 1, 8, 3) ∈ nn_tab by decide)).2 (by decide)
theorem lf_5_0 {M : mm_M} {n o : Nat} (L : nn_L M) (N : M.1 = n) (C : nn_C 5 o n) : M.2 o 0 = ((o + 1 : Nat) : Int) := nn_lf L N C 1 rfl (by decide)
theorem nc_5_1 {o n : Nat} (N : nn_N n) (C : nn_C 5 o n) : nn_C 4 (o + 4) n := (nn_kid N C (show (5, 4, 4, 2) ∈ nn_tab by decide)).1
theorem na_5_1 {o n : Nat} (N : nn_N n) (C : nn_C 5 o n) : mm_kd (o + 4) = (4, 2) := (nn_kid N C (show (5, 4, 4, 2) ∈ nn_tab by decide)).2 (by decide)
theorem lf_5_1 {M : mm_M} {n o : Nat} (L : nn_L M) (N : M.1 = n) (C : nn_C 5 o n) : M.2 o 1 = ((o + 4 : Nat) : Int) := nn_lf L N C 4 rfl (by decide)
theorem nc_5_2 {o n : Nat} (N : nn_N n) (C : nn_C 5 o n) : nn_C 4 (o + 6) n := (nn_kid N C (show (5, 6, 4, 2) ∈ nn_tab by decide)).1
theorem na_5_2 {o n : Nat} (N : nn_N n) (C : nn_C 5 o n) : mm_kd (o + 6) = (4, 2) := (nn_kid N C (show (5, 6, 4, 2) ∈ nn_tab by decide)).2 (by decide)
theorem lf_5_2 {M : mm_M} {n o : Nat} (L : nn_L M) (N : M.1 = n) (C : nn_C 5 o n) : M.2 o 2 = ((o + 6 : Nat) : Int) := nn_lf L N C 6 rfl (by decide)
theorem nc_5_3 {o n : Nat} (N : nn_N n) (C : nn_C 5 o n) : nn_C 6 (o + 8) n := (nn_kid N C (show (5, 8, 6, 6) ∈ nn_tab by decide)).1
theorem na_5_3 {o n : Nat} (N : nn_N n) (C : nn_C 5 o n) : mm_kd (o + 8) = (6, 6) := (nn_kid N C (show (5, 8, 6, 6) ∈ nn_tab by decide)).2 (by decide)
theorem lf_5_3 {M : mm_M} {n o : Nat} (L : nn_L M) (N : M.1 = n) (C : nn_C 5 o n) : M.2 o 3 = ((o + 8 : Nat) : Int) := nn_lf L N C 8 rfl (by decide)
theorem nc_5_4 {o n : Nat} (N : nn_N n) (C : nn_C 5 o n) : nn_C 20 (o + 14) n := (nn_kid N C (show (5, 14, 20, 32) ∈ nn_tab by decide)).1
theorem na_5_4 {o n : Nat} (N : nn_N n) (C : nn_C 5 o n) : mm_kd (o + 14) = (20, 32) := (nn_kid N C (show (5, 14, 20, 32) ∈ nn_tab by decide)).2 (by decide)
theorem lf_5_4 {M : mm_M} {n o : Nat} (L : nn_L M) (N : M.1 = n) (C : nn_C 5 o n) : M.2 o 4 = ((o + 14 : Nat) : Int) := nn_lf L N C 14 rfl (by decide)
theorem nc_6_0 {o n : Nat} (N : nn_N n) (C : nn_C 6 o n) : nn_C 21 (o + 1) n := (nn_kid N C (show (6, 1, 21, 144) ∈ nn_tab by decide)).1
theorem na_6_0 {o n : Nat} (N : nn_N n) (C : nn_C 6 o n) : mm_kd (o + 1) = (21, 144) := (nn_kid N C (show (6, 1, 21, 144) ∈ nn_tab by decide)).2 (by decide)
theorem lf_6_0 {M : mm_M} {n o : Nat} (L : nn_L M) (N : M.1 = n) (C : nn_C 6 o n) : M.2 o 0 = ((o + 1 : Nat) : Int) := nn_lf L N C 1 rfl (by decide)
theorem nc_6_1 {o n : Nat} (N : nn_N n) (C : nn_C 6 o n) : nn_C 20 (o + 2) n := (nn_kid N C (show (6, 2, 20, 25) ∈ nn_tab by decide)).1
theorem na_6_1 {o n : Nat} (N : nn_N n) (C : nn_C 6 o n) : mm_kd (o + 2) = (20, 25) := (nn_kid N C (show (6, 2, 20, 25) ∈ nn_tab by decide)).2 (by decide)
theorem lf_6_1 {M : mm_M} {n o : Nat} (L : nn_L M) (N : M.1 = n) (C : nn_C 6 o n) : M.2 o 1 = ((o + 2 : Nat) : Int) := nn_lf L N C 2 rfl (by decide)
theorem nc_6_2 {o n : Nat} (N : nn_N n) (C : nn_C 6 o n) : nn_C 20 (o + 3) n := (nn_kid N C (show (6, 3, 20, 24) ∈ nn_tab by decide)).1
theorem na_6_2 {o n : Nat} (N : nn_N n) (C : nn_C 6 o n) : mm_kd (o + 3) = (20, 24) := (nn_kid N C (show (6, 3, 20, 24) ∈ nn_tab by decide)).2 (by decide)
theorem lf_6_2 {M : mm_M} {n o : Nat} (L : nn_L M) (N : M.1 = n) (C : nn_C 6 o n) : M.2 o 2 = ((o + 3 : Nat) : Int) := nn_lf L N C 3 rfl (by decide)
theorem nc_6_3 {o n : Nat} (N : nn_N n) (C : nn_C 6 o n) : nn_C 20 (o + 4) n := (nn_kid N C (show (6, 4, 20, 24) ∈ nn_tab by decide)).1
theorem na_6_3 {o n : Nat} (N : nn_N n) (C : nn_C 6 o n) : mm_kd (o + 4) = (20, 24) := (nn_kid N C (show (6, 4, 20, 24) ∈ nn_tab by decide)).2 (by decide)
theorem lf_6_3 {M : mm_M} {n o : Nat} (L : nn_L M) (N : M.1 = n) (C : nn_C 6 o n) : M.2 o 3 = ((o + 4 : Nat) : Int) := nn_lf L N C 4 rfl (by decide)
theorem nc_6_4 {o n : Nat} (N : nn_N n) (C : nn_C 6 o n) : nn_C 20 (o + 5) n := (nn_kid N C (show (6, 5, 20, 24) ∈ nn_tab by decide)).1
theorem na_6_4 {o n : Nat} (N : nn_N n) (C : nn_C 6 o n) : mm_kd (o + 5) = (20, 24) := (nn_kid N C (show (6, 5, 20, 24) ∈ nn_tab by decide)).2 (by decide)
theorem lf_6_4 {M : mm_M} {n o : Nat} (L : nn_L M) (N : M.1 = n) (C : nn_C 6 o n) : M.2 o 4 = ((o + 5 : Nat) : Int) := nn_lf L N C 5 rfl (by decide)
theorem nc_7_0 {o n : Nat} (N : nn_N n) (C : nn_C 7 o n) : nn_C 20 (o + 1) n := (nn_kid N C (show (7, 1, 20, 201) ∈ nn_tab by decide)).1
theorem na_7_0 {o n : Nat} (N : nn_N n) (C : nn_C 7 o n) : mm_kd (o + 1) = (20, 201) := (nn_kid N C (show (7, 1, 20, 201) ∈ nn_tab by decide)).2 (by decide)
theorem lf_7_0 {M : mm_M} {n o : Nat} (L : nn_L M) (N : M.1 = n) (C : nn_C 7 o n) : M.2 o 0 = ((o + 1 : Nat) : Int) := nn_lf L N C 1 rfl (by decide)
theorem nc_7_1 {o n : Nat} (N : nn_N n) (C : nn_C 7 o n) : nn_C 20 (o + 2) n := (nn_kid N C (show (7, 2, 20, 201) ∈ nn_tab by decide)).1
theorem na_7_1 {o n : Nat} (N : nn_N n) (C : nn_C 7 o n) : mm_kd (o + 2) = (20, 201) := (nn_kid N C (show (7, 2, 20, 201) ∈ nn_tab by decide)).2 (by decide)
theorem lf_7_1 {M : mm_M} {n o : Nat} (L : nn_L M) (N : M.1 = n) (C : nn_C 7 o n) : M.2 o 1 = ((o + 2 : Nat) : Int) := nn_lf L N C 2 rfl (by decide)
theorem nc_7_2 {o n : Nat} (N : nn_N n) (C : nn_C 7 o n) : nn_C 20 (o + 3) n := (nn_kid N C (show (7, 3, 20, 201) ∈ nn_tab by decide)).1
theorem na_7_2 {o n : Nat} (N : nn_N n) (C : nn_C 7 o n) : mm_kd (o + 3) = (20, 201) := (nn_kid N C (show (7, 3, 20, 201) ∈ nn_tab by decide)).2 (by decide)
theorem lf_7_2 {M : mm_M} {n o : Nat} (L : nn_L M) (N : M.1 = n) (C : nn_C 7 o n) : M.2 o 2 = ((o + 3 : Nat) : Int) := nn_lf L N C 3 rfl (by decide)
theorem nc_8_0 {o n : Nat} (N : nn_N n) (C : nn_C 8 o n) : nn_C 20 (o + 1) n := (nn_kid N C (show (8, 1, 20, 35) ∈ nn_tab by decide)).1
theorem na_8_0 {o n : Nat} (N : nn_N n) (C : nn_C 8 o n) : mm_kd (o + 1) = (20, 35) := (nn_kid N C (show (8, 1, 20, 35) ∈ nn_tab by decide)).2 (by decide)
theorem lf_8_0 {M : mm_M} {n o : Nat} (L : nn_L M) (N : M.1 = n) (C : nn_C 8 o n) : M.2 o 0 = ((o + 1 : Nat) : Int) := nn_lf L N C 1 rfl (by decide)
theorem nc_8_1 {o n : Nat} (N : nn_N n) (C : nn_C 8 o n) : nn_C 20 (o + 2) n := (nn_kid N C (show (8, 2, 20, 3) ∈ nn_tab by decide)).1
theorem na_8_1 {o n : Nat} (N : nn_N n) (C : nn_C 8 o n) : mm_kd (o + 2) = (20, 3) := (nn_kid N C (show (8, 2, 20, 3) ∈ nn_tab by decide)).2 (by decide)
theorem lf_8_1 {M : mm_M} {n o : Nat} (L : nn_L M) (N : M.1 = n) (C : nn_C 8 o n) : M.2 o 1 = ((o + 2 : Nat) : Int) := nn_lf L N C 2 rfl (by decide)
theorem nc_9_0 {o n : Nat} (N : nn_N n) (C : nn_C 9 o n) : nn_C 11 (o + 1) n := (nn_kid N C (show (9, 1, 11, 2) ∈ nn_tab by decide)).1
theorem na_9_0 {o n : Nat} (N : nn_N n) (C : nn_C 9 o n) : mm_kd (o + 1) = (11, 2) := (nn_kid N C (show (9, 1, 11, 2) ∈ nn_tab by decide)).2 (by decide)
theorem lf_9_0 {M : mm_M} {n o : Nat} (L : nn_L M) (N : M.1 = n) (C : nn_C 9 o n) : M.2 o 0 = ((o + 1 : Nat) : Int) := nn_lf L N C 1 rfl (by decide)
theorem nc_9_1 {o n : Nat} (N : nn_N n) (C : nn_C 9 o n) : nn_C 10 (o + 3) n := (nn_kid N C (show (9, 3, 10, 9) ∈ nn_tab by decide)).1
theorem na_9_1 {o n : Nat} (N : nn_N n) (C : nn_C 9 o n) : mm_kd (o + 3) = (10, 9) := (nn_kid N C (show (9, 3, 10, 9) ∈ nn_tab by decide)).2 (by decide)
theorem lf_9_1 {M : mm_M} {n o : Nat} (L : nn_L M) (N : M.1 = n) (C : nn_C 9 o n) : M.2 o 1 = ((o + 3 : Nat) : Int) := nn_lf L N C 3 rfl (by decide)
theorem nc_9_2 {o n : Nat} (N : nn_N n) (C : nn_C 9 o n) : nn_C 35 (o + 85) n := (nn_kid N C (show (9, 85, 35, 4) ∈ nn_tab by decide)).1
theorem na_9_2 {o n : Nat} (N : nn_N n) (C : nn_C 9 o n) : mm_kd (o + 85) = (35, 4) := (nn_kid N C (show (9, 85, 35, 4) ∈ nn_tab by decide)).2 (by decide)
theorem lf_9_2 {M : mm_M} {n o : Nat} (L : nn_L M) (N : M.1 = n) (C : nn_C 9 o n) : M.2 o 2 = ((o + 85 : Nat) : Int) := nn_lf L N C 85 rfl (by decide)
theorem nc_9_3 {o n : Nat} (N : nn_N n) (C : nn_C 9 o n) : nn_C 33 (o + 86) n := (nn_kid N C (show (9, 86, 33, 3) ∈ nn_tab by decide)).1
theorem na_9_3 {o n : Nat} (N : nn_N n) (C : nn_C 9 o n) : mm_kd (o + 86) = (33, 3) := (nn_kid N C (show (9, 86, 33, 3) ∈ nn_tab by decide)).2 (by decide)
theorem lf_9_3 {M : mm_M} {n o : Nat} (L : nn_L M) (N : M.1 = n) (C : nn_C 9 o n) : M.2 o 3 = ((o + 86 : Nat) : Int) := nn_lf L N C 86 rfl (by decide)
theorem nc_9_4 {o n : Nat} (N : nn_N n) (C : nn_C 9 o n) : nn_C 2 (o + 87) n := (nn_kid N C (show (9, 87, 2, 6) ∈ nn_tab by decide)).1
theorem na_9_4 {o n : Nat} (N : nn_N n) (C : nn_C 9 o n) : mm_kd (o + 87) = (2, 6) := (nn_kid N C (show (9, 87, 2, 6) ∈ nn_tab by decide)).2 (by decide)
theorem lf_9_4 {M : mm_M} {n o : Nat} (L : nn_L M) (N : M.1 = n) (C : nn_C 9 o n) : M.2 o 4 = ((o + 87 : Nat) : Int) := nn_lf L N C 87 rfl (by decide)
theorem nc_9_5 {o n : Nat} (N : nn_N n) (C : nn_C 9 o n) : nn_C 20 (o + 88) n := (nn_kid N C (show (9, 88, 20, 6) ∈ nn_tab by decide)).1
theorem na_9_5 {o n : Nat} (N : nn_N n) (C : nn_C 9 o n) : mm_kd (o + 88) = (20, 6) := (nn_kid N C (show (9, 88, 20, 6) ∈ nn_tab by decide)).2 (by decide)
theorem lf_9_5 {M : mm_M} {n o : Nat} (L : nn_L M) (N : M.1 = n) (C : nn_C 9 o n) : M.2 o 5 = ((o + 88 : Nat) : Int) := nn_lf L N C 88 rfl (by decide)
theorem nc_9_6 {o n : Nat} (N : nn_N n) (C : nn_C 9 o n) : nn_C 20 (o + 89) n := (nn_kid N C (show (9, 89, 20, 32) ∈ nn_tab by decide)).1
theorem na_9_6 {o n : Nat} (N : nn_N n) (C : nn_C 9 o n) : mm_kd (o + 89) = (20, 32) := (nn_kid N C (show (9, 89, 20, 32) ∈ nn_tab by decide)).2 (by decide)
theorem lf_9_6 {M : mm_M} {n o : Nat} (L : nn_L M) (N : M.1 = n) (C : nn_C 9 o n) : M.2 o 6 = ((o + 89 : Nat) : Int) := nn_lf L N C 89 rfl (by decide)
theorem nc_10_0 {o n : Nat} (N : nn_N n) (C : nn_C 10 o n) : nn_C 12 (o + 1) n := (nn_kid N C (show (10, 1, 12, 5) ∈ nn_tab by decide)).1
theorem na_10_0 {o n : Nat} (N : nn_N n) (C : nn_C 10 o n) : mm_kd (o + 1) = (12, 5) := (nn_kid N C (show (10, 1, 12, 5) ∈ nn_tab by decide)).2 (by decide)
theorem lf_10_0 {M : mm_M} {n o : Nat} (L : nn_L M) (N : M.1 = n) (C : nn_C 10 o n) : M.2 o 0 = ((o + 1 : Nat) : Int) := nn_lf L N C 1 rfl (by decide)
theorem nc_10_1 {o n : Nat} (N : nn_N n) (C : nn_C 10 o n) : nn_C 12 (o + 4) n := (nn_kid N C (show (10, 4, 12, 5) ∈ nn_tab by decide)).1
theorem na_10_1 {o n : Nat} (N : nn_N n) (C : nn_C 10 o n) : mm_kd (o + 4) = (12, 5) := (nn_kid N C (show (10, 4, 12, 5) ∈ nn_tab by decide)).2 (by decide)
theorem lf_10_1 {M : mm_M} {n o : Nat} (L : nn_L M) (N : M.1 = n) (C : nn_C 10 o n) : M.2 o 1 = ((o + 4 : Nat) : Int) := nn_lf L N C 4 rfl (by decide)
theorem nc_10_2 {o n : Nat} (N : nn_N n) (C : nn_C 10 o n) : nn_C 42 (o + 7) n := (nn_kid N C (show (10, 7, 42, 24) ∈ nn_tab by decide)).1
theorem na_10_2 {o n : Nat} (N : nn_N n) (C : nn_C 10 o n) : mm_kd (o + 7) = (42, 24) := (nn_kid N C (show (10, 7, 42, 24) ∈ nn_tab by decide)).2 (by decide)
theorem lf_10_2 {M : mm_M} {n o : Nat} (L : nn_L M) (N : M.1 = n) (C : nn_C 10 o n) : M.2 o 2 = ((o + 7 : Nat) : Int) := nn_lf L N C 7 rfl (by decide)
theorem nc_10_3 {o n : Nat} (N : nn_N n) (C : nn_C 10 o n) : nn_C 20 (o + 8) n := (nn_kid N C (show (10, 8, 20, 24) ∈ nn_tab by decide)).1
theorem na_10_3 {o n : Nat} (N : nn_N n) (C : nn_C 10 o n) : mm_kd (o + 8) = (20, 24) := (nn_kid N C (show (10, 8, 20, 24) ∈ nn_tab by decide)).2 (by decide)
theorem lf_10_3 {M : mm_M} {n o : Nat} (L : nn_L M) (N : M.1 = n) (C : nn_C 10 o n) : M.2 o 3 = ((o + 8 : Nat) : Int) := nn_lf L N C 8 rfl (by decide)
theorem nc_10_4 {o n : Nat} (N : nn_N n) (C : nn_C 10 o n) : nn_C 20 (o + 9) n := (nn_kid N C (show (10, 9, 20, 24) ∈ nn_tab by decide)).1
theorem na_10_4 {o n : Nat} (N : nn_N n) (C : nn_C 10 o n) : mm_kd (o + 9) = (20, 24) := (nn_kid N C (show (10, 9, 20, 24) ∈ nn_tab by decide)).2 (by decide)
theorem lf_10_4 {M : mm_M} {n o : Nat} (L : nn_L M) (N : M.1 = n) (C : nn_C 10 o n) : M.2 o 4 = ((o + 9 : Nat) : Int) := nn_lf L N C 9 rfl (by decide)
theorem nc_11_0 {o n : Nat} (N : nn_N n) (C : nn_C 11 o n) : nn_C 20 (o + 1) n := (nn_kid N C (show (11, 1, 20, 200) ∈ nn_tab by decide)).1
theorem na_11_0 {o n : Nat} (N : nn_N n) (C : nn_C 11 o n) : mm_kd (o + 1) = (20, 200) := (nn_kid N C (show (11, 1, 20, 200) ∈ nn_tab by decide)).2 (by decide)
theorem lf_11_0 {M : mm_M} {n o : Nat} (L : nn_L M) (N : M.1 = n) (C : nn_C 11 o n) : M.2 o 0 = ((o + 1 : Nat) : Int) := nn_lf L N C 1 rfl (by decide)
theorem nc_12_0 {o n : Nat} (N : nn_N n) (C : nn_C 12 o n) : nn_C 20 (o + 1) n := (nn_kid N C (show (12, 1, 20, 32) ∈ nn_tab by decide)).1
theorem na_12_0 {o n : Nat} (N : nn_N n) (C : nn_C 12 o n) : mm_kd (o + 1) = (20, 32) := (nn_kid N C (show (12, 1, 20, 32) ∈ nn_tab by decide)).2 (by decide)
theorem lf_12_0 {M : mm_M} {n o : Nat} (L : nn_L M) (N : M.1 = n) (C : nn_C 12 o n) : M.2 o 0 = ((o + 1 : Nat) : Int) := nn_lf L N C 1 rfl (by decide)
theorem nc_12_1 {o n : Nat} (N : nn_N n) (C : nn_C 12 o n) : nn_C 20 (o + 2) n := (nn_kid N C (show (12, 2, 20, 32) ∈ nn_tab by decide)).1
theorem na_12_1 {o n : Nat} (N : nn_N n) (C : nn_C 12 o n) : mm_kd (o + 2) = (20, 32) := (nn_kid N C (show (12, 2, 20, 32) ∈ nn_tab by decide)).2 (by decide)
theorem lf_12_1 {M : mm_M} {n o : Nat} (L : nn_L M) (N : M.1 = n) (C : nn_C 12 o n) : M.2 o 1 = ((o + 2 : Nat) : Int) := nn_lf L N C 2 rfl (by decide)
theorem nc_13_0 {o n : Nat} (N : nn_N n) (C : nn_C 13 o n) : nn_C 20 (o + 1) n := (nn_kid N C (show (13, 1, 20, 32844) ∈ nn_tab by decide)).1
theorem na_13_0 {o n : Nat} (N : nn_N n) (C : nn_C 13 o n) : mm_kd (o + 1) = (20, 32844) := (nn_kid N C (show (13, 1, 20, 32844) ∈ nn_tab by decide)).2 (by decide)
theorem lf_13_0 {M : mm_M} {n o : Nat} (L : nn_L M) (N : M.1 = n) (C : nn_C 13 o n) : M.2 o 0 = ((o + 1 : Nat) : Int) := nn_lf L N C 1 rfl (by decide)
theorem nc_13_1 {o n : Nat} (N : nn_N n) (C : nn_C 13 o n) : nn_C 22 (o + 2) n := (nn_kid N C (show (13, 2, 22, 3) ∈ nn_tab by decide)).1
theorem na_13_1 {o n : Nat} (N : nn_N n) (C : nn_C 13 o n) : mm_kd (o + 2) = (22, 3) := (nn_kid N C (show (13, 2, 22, 3) ∈ nn_tab by decide)).2 (by decide)
theorem lf_13_1 {M : mm_M} {n o : Nat} (L : nn_L M) (N : M.1 = n) (C : nn_C 13 o n) : M.2 o 1 = ((o + 2 : Nat) : Int) := nn_lf L N C 2 rfl (by decide)
theorem nc_13_10 {o n : Nat} (N : nn_N n) (C : nn_C 13 o n) : nn_C 20 (o + 3) n := (nn_kid N C (show (13, 3, 20, 32) ∈ nn_tab by decide)).1
theorem na_13_10 {o n : Nat} (N : nn_N n) (C : nn_C 13 o n) : mm_kd (o + 3) = (20, 32) := (nn_kid N C (show (13, 3, 20, 32) ∈ nn_tab by decide)).2 (by decide)
theorem lf_13_10 {M : mm_M} {n o : Nat} (L : nn_L M) (N : M.1 = n) (C : nn_C 13 o n) : M.2 o 10 = ((o + 3 : Nat) : Int) := nn_lf L N C 3 rfl (by decide)
theorem nn_tn {i : Int} {k m : Nat} (b : 0 ≤ i ∧ i < (k : Int)) (h : k = m) : i.toNat < m := by omega
theorem nn_as42 {o x n : Nat} {i : Int} (K : mm_kd o = (42, 24)) (C : nn_C 12 x n) (b : 0 ≤ i ∧ i < 24) : (mm_kd o).1 = 30 + (mm_kd x).1 ∧ 0 < (mm_kd x).1 ∧ (mm_kd x).1 < 20 ∧ 0 ≤ i ∧ i < ((mm_kd o).2 : Int) := by
  rw [C.1, K]
  exact ⟨rfl, by decide, by decide, b⟩
theorem nn_ge20 {o c : Nat} (h : (mm_kd o).1 = c) (hc : 20 ≤ c) : 20 ≤ (mm_kd o).1 := h ▸ hc
theorem nn_ac {s d c : Nat} {sp dp n x y : Int} (hs : (mm_kd s).1 = c) (hd : (mm_kd d).1 = c) (hc : c = 20 ∨ c = 21) (es : ((mm_kd s).2 : Int) = x) (ed : ((mm_kd d).2 : Int) = y) (b : 0 ≤ sp ∧ 0 ≤ dp ∧ 0 ≤ n ∧ sp + n ≤ x ∧ dp + n ≤ y) : (mm_kd s).1 = (mm_kd d).1 ∧ ((mm_kd s).1 = 20 ∨ (mm_kd s).1 = 21) ∧ 0 ≤ sp ∧ 0 ≤ dp ∧ 0 ≤ n ∧ sp + n ≤ ((mm_kd s).2 : Int) ∧ dp + n ≤ ((mm_kd d).2 : Int) := by
  rw [hs, hd, es, ed]
  exact ⟨rfl, hc, b⟩
theorem nn_alen {d : Nat} {code : List mm_E} {R : mm_P} {pc : Nat} {lv : mm_L} {st : List mm_V} {M : mm_M} {len w a b o c k : Nat} {v : Int} (he : mm_at code pc = some (pc, .arraylength, len, w, a, b, 0, v)) (K : mm_kd o = (c, k)) (hc : 20 ≤ c) (h : mm_Go (mm_run d) code R (pc + len, lv, .inl (k : Int) :: st, M)) : mm_Go (mm_run d) code R (pc, lv, .inr (.inr o) :: st, M) := by
  refine mm_s1 he ⟨by rw [K]; exact hc, ?_⟩
  rw [K]
  exact h
theorem nn_slen {d o : Nat} {M : mm_M} {P : mm_P} (hd : 6 ≤ d) (b : 6000 ≤ o ∧ o < 6005) (h : P (some (.inl ((mm_strs.getD (o - 6000) []).length : Int))) M) : mm_run d 308 [.inr (.inr o)] M P := nn_run_le hd (show mm_run 6 308 _ M P from ⟨Nat.le_refl _, b.1, b.2, h⟩)
theorem nn_schr {d o : Nat} {i : Int} {M : mm_M} {P : mm_P} (hd : 6 ≤ d) (b : (6000 ≤ o ∧ o < 6005) ∧ 0 ≤ i ∧ i < ((mm_strs.getD (o - 6000) []).length : Int)) (h : P (some (.inl ((mm_strs.getD (o - 6000) []).getD i.toNat 0))) M) : mm_run d 309 [.inr (.inr o), .inl i] M P := nn_run_le hd (show mm_run 6 309 _ M P from ⟨Nat.le_refl _, b.1.1, b.1.2, b.2.1, b.2.2, h⟩)
