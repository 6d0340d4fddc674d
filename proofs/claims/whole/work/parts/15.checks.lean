theorem tt_X1_wrote_M : am_okM mm_X1_wrote = true := by decide +kernel
theorem tt_X1_wrote_0 : am_okRow tb_ct tb_mt tb_sT tb_sS mm_X1_wrote (0, .aload_n 0, 1, 0, 0, 0) = true := by decide +kernel
theorem tt_X1_wrote_1 : am_okRow tb_ct tb_mt tb_sT tb_sS mm_X1_wrote (1, .getfield 9, 3, 0, 1, 212) = true := by decide +kernel
theorem tt_X1_wrote_4 : am_okRow tb_ct tb_mt tb_sT tb_sS mm_X1_wrote (4, .ifCond .ne 37, 3, 41, 0, 0) = true := by decide +kernel
theorem tt_X1_wrote_7 : am_okRow tb_ct tb_mt tb_sT tb_sS mm_X1_wrote (7, .aload_n 0, 1, 0, 0, 0) = true := by decide +kernel
theorem tt_X1_wrote_8 : am_okRow tb_ct tb_mt tb_sT tb_sS mm_X1_wrote (8, .getfield 15, 3, 0, 2, 217) = true := by decide +kernel
theorem tt_X1_wrote_11 : am_okRow tb_ct tb_mt tb_sT tb_sS mm_X1_wrote (11, .aload_n 1, 1, 0, 0, 0) = true := by decide +kernel
theorem tt_X1_wrote_12 : am_okRow tb_ct tb_mt tb_sT tb_sS mm_X1_wrote (12, .getfield 18, 3, 2, 0, 152) = true := by decide +kernel
theorem tt_X1_wrote_15 : am_okRow tb_ct tb_mt tb_sT tb_sS mm_X1_wrote (15, .if_icmp .ne 26, 3, 41, 0, 0) = true := by decide +kernel
theorem tt_X1_wrote_18 : am_okRow tb_ct tb_mt tb_sT tb_sS mm_X1_wrote (18, .aload_n 0, 1, 0, 0, 0) = true := by decide +kernel
theorem tt_X1_wrote_19 : am_okRow tb_ct tb_mt tb_sT tb_sS mm_X1_wrote (19, .getfield 21, 3, 0, 6, 227) = true := by decide +kernel
theorem tt_X1_wrote_22 : am_okRow tb_ct tb_mt tb_sT tb_sS mm_X1_wrote (22, .iload_n 2, 1, 0, 0, 0) = true := by decide +kernel
theorem tt_X1_wrote_23 : am_okRow tb_ct tb_mt tb_sT tb_sS mm_X1_wrote (23, .if_icmp .ne 18, 3, 41, 0, 0) = true := by decide +kernel
theorem tt_X1_wrote_26 : am_okRow tb_ct tb_mt tb_sT tb_sS mm_X1_wrote (26, .aload_n 0, 1, 0, 0, 0) = true := by decide +kernel
theorem tt_X1_wrote_27 : am_okRow tb_ct tb_mt tb_sT tb_sS mm_X1_wrote (27, .getfield 24, 3, 0, 0, 208) = true := by decide +kernel
theorem tt_X1_wrote_30 : am_okRow tb_ct tb_mt tb_sT tb_sS mm_X1_wrote (30, .aload_n 1, 1, 0, 0, 0) = true := by decide +kernel
theorem tt_X1_wrote_31 : am_okRow tb_ct tb_mt tb_sT tb_sS mm_X1_wrote (31, .getfield 27, 3, 2, 2, 160) = true := by decide +kernel
theorem tt_X1_wrote_34 : am_okRow tb_ct tb_mt tb_sT tb_sS mm_X1_wrote (34, .if_icmp .lt 7, 3, 41, 0, 0) = true := by decide +kernel
theorem tt_X1_wrote_37 : am_okRow tb_ct tb_mt tb_sT tb_sS mm_X1_wrote (37, .iconst 1, 1, 0, 0, 0) = true := by decide +kernel
theorem tt_X1_wrote_38 : am_okRow tb_ct tb_mt tb_sT tb_sS mm_X1_wrote (38, .goto 4, 3, 42, 0, 0) = true := by decide +kernel
theorem tt_X1_wrote_41 : am_okRow tb_ct tb_mt tb_sT tb_sS mm_X1_wrote (41, .iconst 0, 1, 0, 0, 0) = true := by decide +kernel
theorem tt_X1_wrote_42 : am_okRow tb_ct tb_mt tb_sT tb_sS mm_X1_wrote (42, .ireturn, 1, 0, 0, 0) = true := by decide +kernel
theorem tt_X4_init_M : am_okM mm_X4_init = true := by decide +kernel
theorem tt_X4_init_0 : am_okRow tb_ct tb_mt tb_sT tb_sS mm_X4_init (0, .aload_n 0, 1, 0, 0, 0) = true := by decide +kernel
theorem tt_X4_init_1 : am_okRow tb_ct tb_mt tb_sT tb_sS mm_X4_init (1, .invokespecial 3, 3, 0, 8, 143) = true := by decide +kernel
theorem tt_X4_init_4 : am_okRow tb_ct tb_mt tb_sT tb_sS mm_X4_init (4, .aload_n 0, 1, 0, 0, 0) = true := by decide +kernel
theorem tt_X4_init_5 : am_okRow tb_ct tb_mt tb_sT tb_sS mm_X4_init (5, .bipush 22, 2, 0, 0, 0) = true := by decide +kernel
theorem tt_X4_init_7 : am_okRow tb_ct tb_mt tb_sT tb_sS mm_X4_init (7, .anewarray 11, 3, 2, 0, 594064) = true := by decide +kernel
theorem tt_X4_init_10 : am_okRow tb_ct tb_mt tb_sT tb_sS mm_X4_init (10, .putfield 13, 3, 3, 0, 186) = true := by decide +kernel
theorem tt_X4_init_13 : am_okRow tb_ct tb_mt tb_sT tb_sS mm_X4_init (13, .iconst 0, 1, 0, 0, 0) = true := by decide +kernel
theorem tt_X4_init_14 : am_okRow tb_ct tb_mt tb_sT tb_sS mm_X4_init (14, .istore_n 1, 1, 0, 0, 0) = true := by decide +kernel
theorem tt_X4_init_15 : am_okRow tb_ct tb_mt tb_sT tb_sS mm_X4_init (15, .iload_n 1, 1, 0, 0, 0) = true := by decide +kernel
theorem tt_X4_init_16 : am_okRow tb_ct tb_mt tb_sT tb_sS mm_X4_init (16, .bipush 22, 2, 0, 0, 0) = true := by decide +kernel
theorem tt_X4_init_18 : am_okRow tb_ct tb_mt tb_sT tb_sS mm_X4_init (18, .if_icmp .ge 22, 3, 40, 0, 0) = true := by decide +kernel
theorem tt_X4_init_21 : am_okRow tb_ct tb_mt tb_sT tb_sS mm_X4_init (21, .aload_n 0, 1, 0, 0, 0) = true := by decide +kernel
theorem tt_X4_init_22 : am_okRow tb_ct tb_mt tb_sT tb_sS mm_X4_init (22, .getfield 13, 3, 3, 0, 186) = true := by decide +kernel
theorem tt_X4_init_25 : am_okRow tb_ct tb_mt tb_sT tb_sS mm_X4_init (25, .iload_n 1, 1, 0, 0, 0) = true := by decide +kernel
theorem tt_X4_init_26 : am_okRow tb_ct tb_mt tb_sT tb_sS mm_X4_init (26, .new 11, 3, 2, 0, 144) = true := by decide +kernel
theorem tt_X4_init_29 : am_okRow tb_ct tb_mt tb_sT tb_sS mm_X4_init (29, .dup, 1, 0, 0, 0) = true := by decide +kernel
theorem tt_X4_init_30 : am_okRow tb_ct tb_mt tb_sT tb_sS mm_X4_init (30, .invokespecial 17, 3, 10, 23, 147) = true := by decide +kernel
theorem tt_X4_init_33 : am_okRow tb_ct tb_mt tb_sT tb_sS mm_X4_init (33, .aastore, 1, 0, 0, 0) = true := by decide +kernel
theorem tt_X4_init_34 : am_okRow tb_ct tb_mt tb_sT tb_sS mm_X4_init (34, .iinc 1 1, 3, 0, 0, 0) = true := by decide +kernel
theorem tt_X4_init_37 : am_okRow tb_ct tb_mt tb_sT tb_sS mm_X4_init (37, .goto (-22), 3, 15, 0, 0) = true := by decide +kernel
theorem tt_X4_init_40 : am_okRow tb_ct tb_mt tb_sT tb_sS mm_X4_init (40, .return_, 1, 0, 0, 0) = true := by decide +kernel
