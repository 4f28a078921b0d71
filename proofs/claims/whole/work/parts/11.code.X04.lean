def fl_X4 : List mm_F := [(13, 4, 0, 2, 0)]
theorem fp_X4_0 : mm_fok RX4 (13, 4, 0, 2, 0) := ⟨RX4, TX4, 1, tyX4, rfl, tb_X4, tyX4_ok, nmX4, by decide, tb_in 553 (by decide +kernel) (by decide +kernel), rfl, rfl, rfl, fun h => absurd h (by decide), fun h => absurd h (by decide)⟩
theorem fq_X4 : ∀ q ∈ fl_X4, mm_fok RX4 q := List.forall_mem_cons.mpr ⟨fp_X4_0, fun _ h => absurd h List.not_mem_nil⟩
def ml_X4 : List (Nat × Nat × Nat × MethodName) := [(19, 1, 2, yJ7_fill_53178), (7, 1, 2, yJ9_max_7cf53)]
theorem mp_X4_0 : mm_lok RX4 (19, 1, 2, yJ7_fill_53178) := ⟨⟨by decide, by decide, by decide +kernel⟩, tb_in 79 (by decide +kernel) (by decide +kernel), fun h => absurd h (by decide), fun _ => ⟨tb_in 405 (by decide +kernel) (by decide +kernel), tb_in 372 (by decide +kernel) (by decide +kernel)⟩, fun h => absurd h (by decide), fun h => absurd h (by decide)⟩
theorem mp_X4_1 : mm_lok RX4 (7, 1, 2, yJ9_max_7cf53) := ⟨⟨by decide, by decide, by decide +kernel⟩, tb_in 81 (by decide +kernel) (by decide +kernel), fun h => absurd h (by decide), fun _ => ⟨tb_in 550 (by decide +kernel) (by decide +kernel), tb_in 551 (by decide +kernel) (by decide +kernel)⟩, fun h => absurd h (by decide), fun h => absurd h (by decide)⟩
theorem mq_X4 : ∀ q ∈ ml_X4, mm_lok RX4 q := List.forall_mem_cons.mpr ⟨mp_X4_0, List.forall_mem_cons.mpr ⟨mp_X4_1, fun _ h => absurd h List.not_mem_nil⟩⟩
def il_X4_init : List mm_I := [(0, .aload_n 0, 1), (1, .invokespecial 1, 4), (4, .aload_n 0, 5), (5, .iload_n 1, 6), (6, .iconst 0, 7), (7, .invokestatic 7, 10), (10, .bipush 32, 12), (12, .idiv, 13), (13, .newarray .int, 15), (15, .putfield 13, 18), (18, .return_, 19)]
def K_X4_init : mm_K := ((yX4_init, cX4_init, 2, none, RX4), (1, 21, 4), (il_X4_init, [], fl_X4, ml_X4))
set_option maxRecDepth 100000 in
theorem ok_X4_init : mm_KO K_X4_init := ⟨by decide +kernel, fq_X4, mq_X4⟩
theorem mo_X4_init : mm_MO K_X4_init := ⟨tb_in 548 (by decide +kernel) (by decide +kernel), (fun r h => by cases h; rfl), by decide +kernel, rfl⟩
def il_X4_empty : List mm_I := [(0, .aload_n 0, 1), (1, .getfield 13, 4), (4, .iconst 0, 5), (5, .invokestatic 19, 8), (8, .return_, 9)]
def K_X4_empty : mm_K := ((yX4_empty, cX4_empty, 1, none, RX4), (1, 23, 4), (il_X4_empty, [], fl_X4, ml_X4))
set_option maxRecDepth 100000 in
theorem ok_X4_empty : mm_KO K_X4_empty := ⟨by decide +kernel, fq_X4, mq_X4⟩
theorem mo_X4_empty : mm_MO K_X4_empty := ⟨tb_in 404 (by decide +kernel) (by decide +kernel), (fun r h => by cases h; rfl), by decide +kernel, rfl⟩
def il_X4_has : List mm_I := [(0, .aload_n 0, 1), (1, .getfield 13, 4), (4, .iload_n 1, 5), (5, .iconst 5, 6), (6, .ishr, 7), (7, .iaload, 8), (8, .iload_n 1, 9), (9, .bipush 31, 11), (11, .iand, 12), (12, .ishr, 13), (13, .iconst 1, 14), (14, .iand, 15), (15, .iconst 1, 16), (16, .if_icmp .ne 7, 19), (19, .iconst 1, 20), (20, .goto 4, 23), (23, .iconst 0, 24), (24, .ireturn, 25)]
def K_X4_has : mm_K := ((yX4_has, cX4_has, 2, (some .boolean), RX4), (0, 0, 4), (il_X4_has, [23, 24], fl_X4, ml_X4))
set_option maxRecDepth 100000 in
theorem ok_X4_has : mm_KO K_X4_has := ⟨by decide +kernel, fq_X4, mq_X4⟩
theorem mo_X4_has : mm_MO K_X4_has := ⟨tb_in 807 (by decide +kernel) (by decide +kernel), (fun r h => by cases h; rfl), by decide +kernel, rfl⟩
def il_X4_add : List mm_I := [(0, .aload_n 0, 1), (1, .getfield 13, 4), (4, .iload_n 1, 5), (5, .iconst 5, 6), (6, .ishr, 7), (7, .iaload, 8), (8, .istore_n 2, 9), (9, .aload_n 0, 10), (10, .getfield 13, 13), (13, .iload_n 1, 14), (14, .iconst 5, 15), (15, .ishr, 16), (16, .iload_n 2, 17), (17, .iconst 1, 18), (18, .iload_n 1, 19), (19, .bipush 31, 21), (21, .iand, 22), (22, .ishl, 23), (23, .ior, 24), (24, .iastore, 25), (25, .aload_n 0, 26), (26, .getfield 13, 29), (29, .iload_n 1, 30), (30, .iconst 5, 31), (31, .ishr, 32), (32, .iaload, 33), (33, .iload_n 2, 34), (34, .if_icmp .eq 7, 37), (37, .iconst 1, 38), (38, .goto 4, 41), (41, .iconst 0, 42), (42, .ireturn, 43)]
def K_X4_add : mm_K := ((yX4_add, cX4_add, 3, (some .boolean), RX4), (0, 0, 4), (il_X4_add, [41, 42], fl_X4, ml_X4))
set_option maxRecDepth 100000 in
theorem ok_X4_add : mm_KO K_X4_add := ⟨by decide +kernel, fq_X4, mq_X4⟩
theorem mo_X4_add : mm_MO K_X4_add := ⟨tb_in 417 (by decide +kernel) (by decide +kernel), (fun r h => by cases h; rfl), by decide +kernel, rfl⟩
