def fl_X0 : List mm_F := [(11, 0, 0, 2, 0), (16, 0, 1, 2, 1), (20, 0, 2, 0, 2), (24, 0, 3, 0, 3)]
theorem fp_X0_0 : mm_fok RX0 (11, 0, 0, 2, 0) := ⟨RX0, TX0, 4, tyX0, rfl, tb_X0, tyX0_ok, nmX0, by decide, tb_in 220 (by decide +kernel) (by decide +kernel), rfl, rfl, rfl, fun h => absurd h (by decide), fun h => absurd h (by decide)⟩
theorem fp_X0_1 : mm_fok RX0 (16, 0, 1, 2, 1) := ⟨RX0, TX0, 4, tyX0, rfl, tb_X0, tyX0_ok, nmX0, by decide, tb_in 221 (by decide +kernel) (by decide +kernel), rfl, rfl, rfl, fun h => absurd h (by decide), fun h => absurd h (by decide)⟩
theorem fp_X0_2 : mm_fok RX0 (20, 0, 2, 0, 2) := ⟨RX0, TX0, 4, tyX0, rfl, tb_X0, tyX0_ok, nmX0, by decide, tb_in 222 (by decide +kernel) (by decide +kernel), rfl, rfl, rfl, fun _ => ⟨rfl, rfl⟩, fun h => absurd h (by decide)⟩
theorem fp_X0_3 : mm_fok RX0 (24, 0, 3, 0, 3) := ⟨RX0, TX0, 4, tyX0, rfl, tb_X0, tyX0_ok, nmX0, by decide, tb_in 223 (by decide +kernel) (by decide +kernel), rfl, rfl, rfl, fun _ => ⟨rfl, rfl⟩, fun h => absurd h (by decide)⟩
theorem fq_X0 : ∀ q ∈ fl_X0, mm_fok RX0 q := List.forall_mem_cons.mpr ⟨fp_X0_0, List.forall_mem_cons.mpr ⟨fp_X0_1, List.forall_mem_cons.mpr ⟨fp_X0_2, List.forall_mem_cons.mpr ⟨fp_X0_3, fun _ h => absurd h List.not_mem_nil⟩⟩⟩⟩
def ml_X0 : List (Nat × Nat × Nat × MethodName) := [(33, 1, 2, yJ9_min_7cf53)]
theorem mp_X0_0 : mm_lok RX0 (33, 1, 2, yJ9_min_7cf53) := ⟨⟨by decide, by decide, by decide +kernel⟩, tb_in 81 (by decide +kernel) (by decide +kernel), fun h => absurd h (by decide), fun _ => ⟨tb_in 496 (by decide +kernel) (by decide +kernel), tb_in 497 (by decide +kernel) (by decide +kernel)⟩, fun h => absurd h (by decide), fun h => absurd h (by decide)⟩
theorem mq_X0 : ∀ q ∈ ml_X0, mm_lok RX0 q := List.forall_mem_cons.mpr ⟨mp_X0_0, fun _ h => absurd h List.not_mem_nil⟩
def il_X0_init : List mm_I := [(0, .aload_n 0, 1), (1, .invokespecial 3, 4), (4, .aload_n 0, 5), (5, .bipush 6, 7), (7, .bipush 8, 9), (9, .multianewarray 9 2, 13), (13, .putfield 11, 16), (16, .aload_n 0, 17), (17, .bipush 6, 19), (19, .newarray .int, 21), (21, .putfield 16, 24), (24, .return_, 25)]
def K_X0_init : mm_K := ((yX0_init, cX0_init, 1, none, RX0), (1, 20, 0), (il_X0_init, [], fl_X0, ml_X0))
set_option maxRecDepth 100000 in
theorem ok_X0_init : mm_KO K_X0_init := ⟨by decide +kernel, fq_X0, mq_X0⟩
theorem mo_X0_init : mm_MO K_X0_init := ⟨tb_in 217 (by decide +kernel) (by decide +kernel), (fun r h => by cases h; rfl), by decide +kernel, rfl⟩
def il_X0_size : List mm_I := [(0, .aload_n 0, 1), (1, .getfield 20, 4), (4, .ireturn, 5)]
def K_X0_size : mm_K := ((yX0_size, cX0_size, 1, (some .int), RX0), (0, 0, 0), (il_X0_size, [], fl_X0, ml_X0))
set_option maxRecDepth 100000 in
theorem ok_X0_size : mm_KO K_X0_size := ⟨by decide +kernel, fq_X0, mq_X0⟩
theorem mo_X0_size : mm_MO K_X0_size := ⟨tb_in 943 (by decide +kernel) (by decide +kernel), (fun r h => by cases h; rfl), by decide +kernel, rfl⟩
def il_X0_empty : List mm_I := [(0, .aload_n 0, 1), (1, .iconst 0, 2), (2, .putfield 20, 5), (5, .return_, 6)]
def K_X0_empty : mm_K := ((yX0_empty, cX0_empty, 1, none, RX0), (0, 0, 0), (il_X0_empty, [], fl_X0, ml_X0))
set_option maxRecDepth 100000 in
theorem ok_X0_empty : mm_KO K_X0_empty := ⟨by decide +kernel, fq_X0, mq_X0⟩
theorem mo_X0_empty : mm_MO K_X0_empty := ⟨tb_in 377 (by decide +kernel) (by decide +kernel), (fun r h => by cases h; rfl), by decide +kernel, rfl⟩
def il_X0_keep : List mm_I := [(0, .aload_n 1, 1), (1, .iconst 0, 2), (2, .aload_n 0, 3), (3, .getfield 11, 6), (6, .aload_n 0, 7), (7, .getfield 24, 10), (10, .aaload, 11), (11, .iconst 0, 12), (12, .bipush 8, 14), (14, .invokestatic 27, 17), (17, .aload_n 0, 18), (18, .getfield 16, 21), (21, .aload_n 0, 22), (22, .getfield 24, 25), (25, .iload_n 2, 26), (26, .iastore, 27), (27, .aload_n 0, 28), (28, .aload_n 0, 29), (29, .getfield 24, 32), (32, .iconst 1, 33), (33, .iadd, 34), (34, .bipush 6, 36), (36, .irem, 37), (37, .putfield 24, 40), (40, .aload_n 0, 41), (41, .aload_n 0, 42), (42, .getfield 20, 45), (45, .iconst 1, 46), (46, .iadd, 47), (47, .bipush 6, 49), (49, .invokestatic 33, 52), (52, .putfield 20, 55), (55, .return_, 56)]
def K_X0_keep : mm_K := ((yX0_keep, cX0_keep, 3, none, RX0), (1, 24, 0), (il_X0_keep, [], fl_X0, ml_X0))
set_option maxRecDepth 100000 in
theorem ok_X0_keep : mm_KO K_X0_keep := ⟨by decide +kernel, fq_X0, mq_X0⟩
theorem mo_X0_keep : mm_MO K_X0_keep := ⟨tb_in 494 (by decide +kernel) (by decide +kernel), (fun r h => by cases h; rfl), by decide +kernel, rfl⟩
def il_X0_takeBack : List mm_I := [(0, .aload_n 0, 1), (1, .aload_n 0, 2), (2, .getfield 24, 5), (5, .bipush 6, 7), (7, .iadd, 8), (8, .iconst 1, 9), (9, .isub, 10), (10, .bipush 6, 12), (12, .irem, 13), (13, .putfield 24, 16), (16, .aload_n 0, 17), (17, .dup, 18), (18, .getfield 20, 21), (21, .iconst 1, 22), (22, .isub, 23), (23, .putfield 20, 26), (26, .aload_n 0, 27), (27, .getfield 11, 30), (30, .aload_n 0, 31), (31, .getfield 24, 34), (34, .aaload, 35), (35, .iconst 0, 36), (36, .aload_n 1, 37), (37, .iconst 0, 38), (38, .bipush 8, 40), (40, .invokestatic 27, 43), (43, .aload_n 0, 44), (44, .getfield 16, 47), (47, .aload_n 0, 48), (48, .getfield 24, 51), (51, .iaload, 52), (52, .ireturn, 53)]
def K_X0_takeBack : mm_K := ((yX0_takeBack, cX0_takeBack, 2, (some .int), RX0), (1, 24, 0), (il_X0_takeBack, [], fl_X0, ml_X0))
set_option maxRecDepth 100000 in
theorem ok_X0_takeBack : mm_KO K_X0_takeBack := ⟨by decide +kernel, fq_X0, mq_X0⟩
theorem mo_X0_takeBack : mm_MO K_X0_takeBack := ⟨tb_in 947 (by decide +kernel) (by decide +kernel), (fun r h => by cases h; rfl), by decide +kernel, rfl⟩
