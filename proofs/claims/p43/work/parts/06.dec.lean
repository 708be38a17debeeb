theorem dX5_count_40 : decode cX5_count 40 = .ok (.tableswitch 54 0 3 #[32, 39, 44, 52], 32) := by decide +kernel
theorem dL_law_33 : decode cL_law 33 = .ok (.tableswitch 1249 0 41 #[183, 216, 249, 282, 315, 348, 371, 404, 417, 440, 463, 486, 509, 532, 555, 568, 591, 604, 617, 630, 653, 676, 689, 722, 745, 768, 791, 804, 837, 870, 893, 916, 959, 1032, 1095, 1118, 1141, 1164, 1177, 1190, 1203, 1226], 183) := by decide +kernel
def dl_c_0 : List (Nat × Instr × Nat) := [(0, .aload_n 0, 1), (1, .iload_n 1, 1), (2, .i2l, 1), (3, .invokevirtual 147, 3), (6, .ifCond .ne 10, 3), (9, .aload_n 0, 1), (10, .ldc 48, 2), (12, .invokevirtual 50, 3), (15, .ireturn, 1), (16, .aload_n 0, 1), (17, .invokevirtual 170, 3), (20, .aload_n 0, 1), (21, .iload_n 1, 1), (22, .sipush 255, 3), (25, .invokevirtual 187, 3), (28, .ireturn, 1)]
theorem dg_c_0 : dgrp cX5_last dl_c_0 = true := by decide +kernel
theorem dX5_last_0 : decode cX5_last 0 = .ok (.aload_n 0, 1) := dgrp_at dg_c_0 0 rfl
theorem dX5_last_1 : decode cX5_last 1 = .ok (.iload_n 1, 1) := dgrp_at dg_c_0 1 rfl
theorem dX5_last_2 : decode cX5_last 2 = .ok (.i2l, 1) := dgrp_at dg_c_0 2 rfl
theorem dX5_last_3 : decode cX5_last 3 = .ok (.invokevirtual 147, 3) := dgrp_at dg_c_0 3 rfl
theorem dX5_last_6 : decode cX5_last 6 = .ok (.ifCond .ne 10, 3) := dgrp_at dg_c_0 4 rfl
theorem dX5_last_9 : decode cX5_last 9 = .ok (.aload_n 0, 1) := dgrp_at dg_c_0 5 rfl
theorem dX5_last_10 : decode cX5_last 10 = .ok (.ldc 48, 2) := dgrp_at dg_c_0 6 rfl
theorem dX5_last_12 : decode cX5_last 12 = .ok (.invokevirtual 50, 3) := dgrp_at dg_c_0 7 rfl
theorem dX5_last_15 : decode cX5_last 15 = .ok (.ireturn, 1) := dgrp_at dg_c_0 8 rfl
theorem dX5_last_16 : decode cX5_last 16 = .ok (.aload_n 0, 1) := dgrp_at dg_c_0 9 rfl
theorem dX5_last_17 : decode cX5_last 17 = .ok (.invokevirtual 170, 3) := dgrp_at dg_c_0 10 rfl
theorem dX5_last_20 : decode cX5_last 20 = .ok (.aload_n 0, 1) := dgrp_at dg_c_0 11 rfl
theorem dX5_last_21 : decode cX5_last 21 = .ok (.iload_n 1, 1) := dgrp_at dg_c_0 12 rfl
theorem dX5_last_22 : decode cX5_last 22 = .ok (.sipush 255, 3) := dgrp_at dg_c_0 13 rfl
theorem dX5_last_25 : decode cX5_last 25 = .ok (.invokevirtual 187, 3) := dgrp_at dg_c_0 14 rfl
theorem dX5_last_28 : decode cX5_last 28 = .ok (.ireturn, 1) := dgrp_at dg_c_0 15 rfl
def dl_c_1 : List (Nat × Instr × Nat) := [(0, .aload_n 0, 1), (1, .invokevirtual 170, 3), (4, .iconst (-1), 1), (5, .istore_n 2, 1), (6, .iconst 0, 1), (7, .istore_n 3, 1), (8, .iload_n 3, 1), (9, .aload_n 0, 1), (10, .invokevirtual 58, 3), (13, .if_icmp .ge 72, 3), (16, .aload_n 0, 1), (17, .iload_n 3, 1), (18, .sipush 255, 3), (21, .invokevirtual 187, 3), (24, .invokestatic 67, 3), (27, .iload_n 1, 1), (28, .if_icmp .lt 51, 3), (31, .iload_n 2, 1), (32, .ifCond .ge 7, 3), (35, .iconst (-1), 1), (36, .goto 14, 3), (39, .aload_n 0, 1), (40, .iload_n 3, 1), (41, .invokevirtual 154, 3), (44, .aload_n 0, 1), (45, .iload_n 2, 1), (46, .invokevirtual 154, 3), (49, .isub, 1), (50, .istore 4, 2), (52, .iload 4, 2), (54, .ifCond .lt 19, 3), (57, .iload 4, 2)]
theorem dg_c_1 : dgrp cX5_bestBuy dl_c_1 = true := by decide +kernel
theorem dX5_bestBuy_0 : decode cX5_bestBuy 0 = .ok (.aload_n 0, 1) := dgrp_at dg_c_1 0 rfl
theorem dX5_bestBuy_1 : decode cX5_bestBuy 1 = .ok (.invokevirtual 170, 3) := dgrp_at dg_c_1 1 rfl
theorem dX5_bestBuy_4 : decode cX5_bestBuy 4 = .ok (.iconst (-1), 1) := dgrp_at dg_c_1 2 rfl
theorem dX5_bestBuy_5 : decode cX5_bestBuy 5 = .ok (.istore_n 2, 1) := dgrp_at dg_c_1 3 rfl
theorem dX5_bestBuy_6 : decode cX5_bestBuy 6 = .ok (.iconst 0, 1) := dgrp_at dg_c_1 4 rfl
theorem dX5_bestBuy_7 : decode cX5_bestBuy 7 = .ok (.istore_n 3, 1) := dgrp_at dg_c_1 5 rfl
theorem dX5_bestBuy_8 : decode cX5_bestBuy 8 = .ok (.iload_n 3, 1) := dgrp_at dg_c_1 6 rfl
theorem dX5_bestBuy_9 : decode cX5_bestBuy 9 = .ok (.aload_n 0, 1) := dgrp_at dg_c_1 7 rfl
theorem dX5_bestBuy_10 : decode cX5_bestBuy 10 = .ok (.invokevirtual 58, 3) := dgrp_at dg_c_1 8 rfl
theorem dX5_bestBuy_13 : decode cX5_bestBuy 13 = .ok (.if_icmp .ge 72, 3) := dgrp_at dg_c_1 9 rfl
theorem dX5_bestBuy_16 : decode cX5_bestBuy 16 = .ok (.aload_n 0, 1) := dgrp_at dg_c_1 10 rfl
theorem dX5_bestBuy_17 : decode cX5_bestBuy 17 = .ok (.iload_n 3, 1) := dgrp_at dg_c_1 11 rfl
theorem dX5_bestBuy_18 : decode cX5_bestBuy 18 = .ok (.sipush 255, 3) := dgrp_at dg_c_1 12 rfl
theorem dX5_bestBuy_21 : decode cX5_bestBuy 21 = .ok (.invokevirtual 187, 3) := dgrp_at dg_c_1 13 rfl
theorem dX5_bestBuy_24 : decode cX5_bestBuy 24 = .ok (.invokestatic 67, 3) := dgrp_at dg_c_1 14 rfl
theorem dX5_bestBuy_27 : decode cX5_bestBuy 27 = .ok (.iload_n 1, 1) := dgrp_at dg_c_1 15 rfl
theorem dX5_bestBuy_28 : decode cX5_bestBuy 28 = .ok (.if_icmp .lt 51, 3) := dgrp_at dg_c_1 16 rfl
theorem dX5_bestBuy_31 : decode cX5_bestBuy 31 = .ok (.iload_n 2, 1) := dgrp_at dg_c_1 17 rfl
theorem dX5_bestBuy_32 : decode cX5_bestBuy 32 = .ok (.ifCond .ge 7, 3) := dgrp_at dg_c_1 18 rfl
theorem dX5_bestBuy_35 : decode cX5_bestBuy 35 = .ok (.iconst (-1), 1) := dgrp_at dg_c_1 19 rfl
theorem dX5_bestBuy_36 : decode cX5_bestBuy 36 = .ok (.goto 14, 3) := dgrp_at dg_c_1 20 rfl
theorem dX5_bestBuy_39 : decode cX5_bestBuy 39 = .ok (.aload_n 0, 1) := dgrp_at dg_c_1 21 rfl
theorem dX5_bestBuy_40 : decode cX5_bestBuy 40 = .ok (.iload_n 3, 1) := dgrp_at dg_c_1 22 rfl
theorem dX5_bestBuy_41 : decode cX5_bestBuy 41 = .ok (.invokevirtual 154, 3) := dgrp_at dg_c_1 23 rfl
theorem dX5_bestBuy_44 : decode cX5_bestBuy 44 = .ok (.aload_n 0, 1) := dgrp_at dg_c_1 24 rfl
theorem dX5_bestBuy_45 : decode cX5_bestBuy 45 = .ok (.iload_n 2, 1) := dgrp_at dg_c_1 25 rfl
theorem dX5_bestBuy_46 : decode cX5_bestBuy 46 = .ok (.invokevirtual 154, 3) := dgrp_at dg_c_1 26 rfl
theorem dX5_bestBuy_49 : decode cX5_bestBuy 49 = .ok (.isub, 1) := dgrp_at dg_c_1 27 rfl
theorem dX5_bestBuy_50 : decode cX5_bestBuy 50 = .ok (.istore 4, 2) := dgrp_at dg_c_1 28 rfl
theorem dX5_bestBuy_52 : decode cX5_bestBuy 52 = .ok (.iload 4, 2) := dgrp_at dg_c_1 29 rfl
theorem dX5_bestBuy_54 : decode cX5_bestBuy 54 = .ok (.ifCond .lt 19, 3) := dgrp_at dg_c_1 30 rfl
theorem dX5_bestBuy_57 : decode cX5_bestBuy 57 = .ok (.iload 4, 2) := dgrp_at dg_c_1 31 rfl
def dl_c_2 : List (Nat × Instr × Nat) := [(59, .ifCond .ne 18, 3), (62, .iload_n 3, 1), (63, .invokestatic 67, 3), (66, .iload_n 2, 1), (67, .invokestatic 67, 3), (70, .if_icmp .ge 7, 3), (73, .iload_n 3, 1), (74, .goto 4, 3), (77, .iload_n 2, 1), (78, .istore_n 2, 1), (79, .iinc 3 1, 3), (82, .goto (-74), 3), (85, .iload_n 2, 1), (86, .ireturn, 1)]
theorem dg_c_2 : dgrp cX5_bestBuy dl_c_2 = true := by decide +kernel
theorem dX5_bestBuy_59 : decode cX5_bestBuy 59 = .ok (.ifCond .ne 18, 3) := dgrp_at dg_c_2 0 rfl
theorem dX5_bestBuy_62 : decode cX5_bestBuy 62 = .ok (.iload_n 3, 1) := dgrp_at dg_c_2 1 rfl
theorem dX5_bestBuy_63 : decode cX5_bestBuy 63 = .ok (.invokestatic 67, 3) := dgrp_at dg_c_2 2 rfl
theorem dX5_bestBuy_66 : decode cX5_bestBuy 66 = .ok (.iload_n 2, 1) := dgrp_at dg_c_2 3 rfl
theorem dX5_bestBuy_67 : decode cX5_bestBuy 67 = .ok (.invokestatic 67, 3) := dgrp_at dg_c_2 4 rfl
theorem dX5_bestBuy_70 : decode cX5_bestBuy 70 = .ok (.if_icmp .ge 7, 3) := dgrp_at dg_c_2 5 rfl
theorem dX5_bestBuy_73 : decode cX5_bestBuy 73 = .ok (.iload_n 3, 1) := dgrp_at dg_c_2 6 rfl
theorem dX5_bestBuy_74 : decode cX5_bestBuy 74 = .ok (.goto 4, 3) := dgrp_at dg_c_2 7 rfl
theorem dX5_bestBuy_77 : decode cX5_bestBuy 77 = .ok (.iload_n 2, 1) := dgrp_at dg_c_2 8 rfl
theorem dX5_bestBuy_78 : decode cX5_bestBuy 78 = .ok (.istore_n 2, 1) := dgrp_at dg_c_2 9 rfl
theorem dX5_bestBuy_79 : decode cX5_bestBuy 79 = .ok (.iinc 3 1, 3) := dgrp_at dg_c_2 10 rfl
theorem dX5_bestBuy_82 : decode cX5_bestBuy 82 = .ok (.goto (-74), 3) := dgrp_at dg_c_2 11 rfl
theorem dX5_bestBuy_85 : decode cX5_bestBuy 85 = .ok (.iload_n 2, 1) := dgrp_at dg_c_2 12 rfl
theorem dX5_bestBuy_86 : decode cX5_bestBuy 86 = .ok (.ireturn, 1) := dgrp_at dg_c_2 13 rfl
def dl_c_3 : List (Nat × Instr × Nat) := [(0, .iload_n 1, 1), (1, .i2l, 1), (2, .lconst 0, 1), (3, .ldc2_w 190, 3), (6, .invokestatic 54, 3), (9, .ifCond .eq 15, 3), (12, .aload_n 0, 1), (13, .aload_n 0, 1), (14, .iload_n 1, 1), (15, .invokevirtual 192, 3), (18, .invokevirtual 176, 3), (21, .goto 9, 3), (24, .aload_n 0, 1), (25, .ldc 48, 2), (27, .invokevirtual 50, 3), (30, .ireturn, 1)]
theorem dg_c_3 : dgrp cX5_buys dl_c_3 = true := by decide +kernel
theorem dX5_buys_0 : decode cX5_buys 0 = .ok (.iload_n 1, 1) := dgrp_at dg_c_3 0 rfl
theorem dX5_buys_1 : decode cX5_buys 1 = .ok (.i2l, 1) := dgrp_at dg_c_3 1 rfl
theorem dX5_buys_2 : decode cX5_buys 2 = .ok (.lconst 0, 1) := dgrp_at dg_c_3 2 rfl
theorem dX5_buys_3 : decode cX5_buys 3 = .ok (.ldc2_w 190, 3) := dgrp_at dg_c_3 3 rfl
theorem dX5_buys_6 : decode cX5_buys 6 = .ok (.invokestatic 54, 3) := dgrp_at dg_c_3 4 rfl
theorem dX5_buys_9 : decode cX5_buys 9 = .ok (.ifCond .eq 15, 3) := dgrp_at dg_c_3 5 rfl
theorem dX5_buys_12 : decode cX5_buys 12 = .ok (.aload_n 0, 1) := dgrp_at dg_c_3 6 rfl
theorem dX5_buys_13 : decode cX5_buys 13 = .ok (.aload_n 0, 1) := dgrp_at dg_c_3 7 rfl
theorem dX5_buys_14 : decode cX5_buys 14 = .ok (.iload_n 1, 1) := dgrp_at dg_c_3 8 rfl
theorem dX5_buys_15 : decode cX5_buys 15 = .ok (.invokevirtual 192, 3) := dgrp_at dg_c_3 9 rfl
theorem dX5_buys_18 : decode cX5_buys 18 = .ok (.invokevirtual 176, 3) := dgrp_at dg_c_3 10 rfl
theorem dX5_buys_21 : decode cX5_buys 21 = .ok (.goto 9, 3) := dgrp_at dg_c_3 11 rfl
theorem dX5_buys_24 : decode cX5_buys 24 = .ok (.aload_n 0, 1) := dgrp_at dg_c_3 12 rfl
theorem dX5_buys_25 : decode cX5_buys 25 = .ok (.ldc 48, 2) := dgrp_at dg_c_3 13 rfl
theorem dX5_buys_27 : decode cX5_buys 27 = .ok (.invokevirtual 50, 3) := dgrp_at dg_c_3 14 rfl
theorem dX5_buys_30 : decode cX5_buys 30 = .ok (.ireturn, 1) := dgrp_at dg_c_3 15 rfl
def dl_c_4 : List (Nat × Instr × Nat) := [(0, .iload_n 1, 1), (1, .i2l, 1), (2, .lconst 0, 1), (3, .ldc2_w 190, 3), (6, .invokestatic 54, 3), (9, .ifCond .ne 10, 3), (12, .aload_n 0, 1), (13, .ldc 48, 2), (15, .invokevirtual 50, 3), (18, .ireturn, 1), (19, .aload_n 0, 1), (20, .iload_n 1, 1), (21, .invokevirtual 192, 3), (24, .istore_n 2, 1), (25, .iload_n 2, 1), (26, .ifCond .ge 12, 3), (29, .aload_n 0, 1), (30, .ldc 49, 2), (32, .invokevirtual 50, 3), (35, .goto 8, 3), (38, .aload_n 0, 1), (39, .iload_n 2, 1), (40, .invokevirtual 154, 3), (43, .ireturn, 1)]
theorem dg_c_4 : dgrp cX5_price dl_c_4 = true := by decide +kernel
theorem dX5_price_0 : decode cX5_price 0 = .ok (.iload_n 1, 1) := dgrp_at dg_c_4 0 rfl
theorem dX5_price_1 : decode cX5_price 1 = .ok (.i2l, 1) := dgrp_at dg_c_4 1 rfl
theorem dX5_price_2 : decode cX5_price 2 = .ok (.lconst 0, 1) := dgrp_at dg_c_4 2 rfl
theorem dX5_price_3 : decode cX5_price 3 = .ok (.ldc2_w 190, 3) := dgrp_at dg_c_4 3 rfl
theorem dX5_price_6 : decode cX5_price 6 = .ok (.invokestatic 54, 3) := dgrp_at dg_c_4 4 rfl
theorem dX5_price_9 : decode cX5_price 9 = .ok (.ifCond .ne 10, 3) := dgrp_at dg_c_4 5 rfl
theorem dX5_price_12 : decode cX5_price 12 = .ok (.aload_n 0, 1) := dgrp_at dg_c_4 6 rfl
theorem dX5_price_13 : decode cX5_price 13 = .ok (.ldc 48, 2) := dgrp_at dg_c_4 7 rfl
theorem dX5_price_15 : decode cX5_price 15 = .ok (.invokevirtual 50, 3) := dgrp_at dg_c_4 8 rfl
theorem dX5_price_18 : decode cX5_price 18 = .ok (.ireturn, 1) := dgrp_at dg_c_4 9 rfl
theorem dX5_price_19 : decode cX5_price 19 = .ok (.aload_n 0, 1) := dgrp_at dg_c_4 10 rfl
theorem dX5_price_20 : decode cX5_price 20 = .ok (.iload_n 1, 1) := dgrp_at dg_c_4 11 rfl
theorem dX5_price_21 : decode cX5_price 21 = .ok (.invokevirtual 192, 3) := dgrp_at dg_c_4 12 rfl
theorem dX5_price_24 : decode cX5_price 24 = .ok (.istore_n 2, 1) := dgrp_at dg_c_4 13 rfl
theorem dX5_price_25 : decode cX5_price 25 = .ok (.iload_n 2, 1) := dgrp_at dg_c_4 14 rfl
theorem dX5_price_26 : decode cX5_price 26 = .ok (.ifCond .ge 12, 3) := dgrp_at dg_c_4 15 rfl
theorem dX5_price_29 : decode cX5_price 29 = .ok (.aload_n 0, 1) := dgrp_at dg_c_4 16 rfl
theorem dX5_price_30 : decode cX5_price 30 = .ok (.ldc 49, 2) := dgrp_at dg_c_4 17 rfl
theorem dX5_price_32 : decode cX5_price 32 = .ok (.invokevirtual 50, 3) := dgrp_at dg_c_4 18 rfl
theorem dX5_price_35 : decode cX5_price 35 = .ok (.goto 8, 3) := dgrp_at dg_c_4 19 rfl
theorem dX5_price_38 : decode cX5_price 38 = .ok (.aload_n 0, 1) := dgrp_at dg_c_4 20 rfl
theorem dX5_price_39 : decode cX5_price 39 = .ok (.iload_n 2, 1) := dgrp_at dg_c_4 21 rfl
theorem dX5_price_40 : decode cX5_price 40 = .ok (.invokevirtual 154, 3) := dgrp_at dg_c_4 22 rfl
theorem dX5_price_43 : decode cX5_price 43 = .ok (.ireturn, 1) := dgrp_at dg_c_4 23 rfl
def dl_c_5 : List (Nat × Instr × Nat) := [(0, .aload_n 0, 1), (1, .invokevirtual 170, 3), (4, .iconst (-1), 1), (5, .istore_n 1, 1), (6, .bipush 9, 2), (8, .istore_n 2, 1), (9, .iconst 0, 1), (10, .istore_n 3, 1), (11, .iload_n 3, 1), (12, .aload_n 0, 1), (13, .getfield 7, 3), (16, .iconst 0, 1), (17, .iaload, 1), (18, .if_icmp .ge 53, 3), (21, .aload_n 0, 1), (22, .iconst 0, 1), (23, .sipush 255, 3), (26, .iconst 1, 1), (27, .iload_n 3, 1), (28, .ishl, 1), (29, .iconst (-1), 1), (30, .ixor, 1), (31, .iand, 1), (32, .invokevirtual 187, 3), (35, .invokestatic 67, 3), (38, .istore 4, 2), (40, .iload 4, 2), (42, .iload_n 2, 1), (43, .if_icmp .ge 7, 3), (46, .iload_n 3, 1), (47, .goto 4, 3), (50, .iload_n 1, 1)]
theorem dg_c_5 : dgrp cX5_spoils dl_c_5 = true := by decide +kernel
theorem dX5_spoils_0 : decode cX5_spoils 0 = .ok (.aload_n 0, 1) := dgrp_at dg_c_5 0 rfl
theorem dX5_spoils_1 : decode cX5_spoils 1 = .ok (.invokevirtual 170, 3) := dgrp_at dg_c_5 1 rfl
theorem dX5_spoils_4 : decode cX5_spoils 4 = .ok (.iconst (-1), 1) := dgrp_at dg_c_5 2 rfl
theorem dX5_spoils_5 : decode cX5_spoils 5 = .ok (.istore_n 1, 1) := dgrp_at dg_c_5 3 rfl
theorem dX5_spoils_6 : decode cX5_spoils 6 = .ok (.bipush 9, 2) := dgrp_at dg_c_5 4 rfl
theorem dX5_spoils_8 : decode cX5_spoils 8 = .ok (.istore_n 2, 1) := dgrp_at dg_c_5 5 rfl
theorem dX5_spoils_9 : decode cX5_spoils 9 = .ok (.iconst 0, 1) := dgrp_at dg_c_5 6 rfl
theorem dX5_spoils_10 : decode cX5_spoils 10 = .ok (.istore_n 3, 1) := dgrp_at dg_c_5 7 rfl
theorem dX5_spoils_11 : decode cX5_spoils 11 = .ok (.iload_n 3, 1) := dgrp_at dg_c_5 8 rfl
theorem dX5_spoils_12 : decode cX5_spoils 12 = .ok (.aload_n 0, 1) := dgrp_at dg_c_5 9 rfl
theorem dX5_spoils_13 : decode cX5_spoils 13 = .ok (.getfield 7, 3) := dgrp_at dg_c_5 10 rfl
theorem dX5_spoils_16 : decode cX5_spoils 16 = .ok (.iconst 0, 1) := dgrp_at dg_c_5 11 rfl
theorem dX5_spoils_17 : decode cX5_spoils 17 = .ok (.iaload, 1) := dgrp_at dg_c_5 12 rfl
theorem dX5_spoils_18 : decode cX5_spoils 18 = .ok (.if_icmp .ge 53, 3) := dgrp_at dg_c_5 13 rfl
theorem dX5_spoils_21 : decode cX5_spoils 21 = .ok (.aload_n 0, 1) := dgrp_at dg_c_5 14 rfl
theorem dX5_spoils_22 : decode cX5_spoils 22 = .ok (.iconst 0, 1) := dgrp_at dg_c_5 15 rfl
theorem dX5_spoils_23 : decode cX5_spoils 23 = .ok (.sipush 255, 3) := dgrp_at dg_c_5 16 rfl
theorem dX5_spoils_26 : decode cX5_spoils 26 = .ok (.iconst 1, 1) := dgrp_at dg_c_5 17 rfl
theorem dX5_spoils_27 : decode cX5_spoils 27 = .ok (.iload_n 3, 1) := dgrp_at dg_c_5 18 rfl
theorem dX5_spoils_28 : decode cX5_spoils 28 = .ok (.ishl, 1) := dgrp_at dg_c_5 19 rfl
theorem dX5_spoils_29 : decode cX5_spoils 29 = .ok (.iconst (-1), 1) := dgrp_at dg_c_5 20 rfl
theorem dX5_spoils_30 : decode cX5_spoils 30 = .ok (.ixor, 1) := dgrp_at dg_c_5 21 rfl
theorem dX5_spoils_31 : decode cX5_spoils 31 = .ok (.iand, 1) := dgrp_at dg_c_5 22 rfl
theorem dX5_spoils_32 : decode cX5_spoils 32 = .ok (.invokevirtual 187, 3) := dgrp_at dg_c_5 23 rfl
theorem dX5_spoils_35 : decode cX5_spoils 35 = .ok (.invokestatic 67, 3) := dgrp_at dg_c_5 24 rfl
theorem dX5_spoils_38 : decode cX5_spoils 38 = .ok (.istore 4, 2) := dgrp_at dg_c_5 25 rfl
theorem dX5_spoils_40 : decode cX5_spoils 40 = .ok (.iload 4, 2) := dgrp_at dg_c_5 26 rfl
theorem dX5_spoils_42 : decode cX5_spoils 42 = .ok (.iload_n 2, 1) := dgrp_at dg_c_5 27 rfl
theorem dX5_spoils_43 : decode cX5_spoils 43 = .ok (.if_icmp .ge 7, 3) := dgrp_at dg_c_5 28 rfl
theorem dX5_spoils_46 : decode cX5_spoils 46 = .ok (.iload_n 3, 1) := dgrp_at dg_c_5 29 rfl
theorem dX5_spoils_47 : decode cX5_spoils 47 = .ok (.goto 4, 3) := dgrp_at dg_c_5 30 rfl
theorem dX5_spoils_50 : decode cX5_spoils 50 = .ok (.iload_n 1, 1) := dgrp_at dg_c_5 31 rfl
def dl_c_6 : List (Nat × Instr × Nat) := [(51, .istore_n 1, 1), (52, .iload 4, 2), (54, .iload_n 2, 1), (55, .if_icmp .ge 8, 3), (58, .iload 4, 2), (60, .goto 4, 3), (63, .iload_n 2, 1), (64, .istore_n 2, 1), (65, .iinc 3 1, 3), (68, .goto (-57), 3), (71, .aload_n 0, 1), (72, .iload_n 1, 1), (73, .invokevirtual 176, 3), (76, .ireturn, 1)]
theorem dg_c_6 : dgrp cX5_spoils dl_c_6 = true := by decide +kernel
theorem dX5_spoils_51 : decode cX5_spoils 51 = .ok (.istore_n 1, 1) := dgrp_at dg_c_6 0 rfl
theorem dX5_spoils_52 : decode cX5_spoils 52 = .ok (.iload 4, 2) := dgrp_at dg_c_6 1 rfl
theorem dX5_spoils_54 : decode cX5_spoils 54 = .ok (.iload_n 2, 1) := dgrp_at dg_c_6 2 rfl
theorem dX5_spoils_55 : decode cX5_spoils 55 = .ok (.if_icmp .ge 8, 3) := dgrp_at dg_c_6 3 rfl
theorem dX5_spoils_58 : decode cX5_spoils 58 = .ok (.iload 4, 2) := dgrp_at dg_c_6 4 rfl
theorem dX5_spoils_60 : decode cX5_spoils 60 = .ok (.goto 4, 3) := dgrp_at dg_c_6 5 rfl
theorem dX5_spoils_63 : decode cX5_spoils 63 = .ok (.iload_n 2, 1) := dgrp_at dg_c_6 6 rfl
theorem dX5_spoils_64 : decode cX5_spoils 64 = .ok (.istore_n 2, 1) := dgrp_at dg_c_6 7 rfl
theorem dX5_spoils_65 : decode cX5_spoils 65 = .ok (.iinc 3 1, 3) := dgrp_at dg_c_6 8 rfl
theorem dX5_spoils_68 : decode cX5_spoils 68 = .ok (.goto (-57), 3) := dgrp_at dg_c_6 9 rfl
theorem dX5_spoils_71 : decode cX5_spoils 71 = .ok (.aload_n 0, 1) := dgrp_at dg_c_6 10 rfl
theorem dX5_spoils_72 : decode cX5_spoils 72 = .ok (.iload_n 1, 1) := dgrp_at dg_c_6 11 rfl
theorem dX5_spoils_73 : decode cX5_spoils 73 = .ok (.invokevirtual 176, 3) := dgrp_at dg_c_6 12 rfl
theorem dX5_spoils_76 : decode cX5_spoils 76 = .ok (.ireturn, 1) := dgrp_at dg_c_6 13 rfl
def dl_c_7 : List (Nat × Instr × Nat) := [(0, .iload_n 1, 1), (1, .i2l, 1), (2, .lconst 0, 1), (3, .ldc2_w 190, 3), (6, .invokestatic 54, 3), (9, .ifCond .eq 20, 3), (12, .iload_n 2, 1), (13, .i2l, 1), (14, .lconst 0, 1), (15, .ldc2_w 190, 3), (18, .invokestatic 54, 3), (21, .ifCond .eq 8, 3), (24, .iload_n 1, 1), (25, .iload_n 2, 1), (26, .if_icmp .le 10, 3), (29, .aload_n 0, 1), (30, .ldc 48, 2), (32, .invokevirtual 50, 3), (35, .ireturn, 1), (36, .aload_n 0, 1), (37, .invokevirtual 170, 3), (40, .iconst (-1), 1), (41, .istore_n 3, 1), (42, .iconst 0, 1), (43, .istore 4, 2), (45, .iload 4, 2), (47, .aload_n 0, 1), (48, .invokevirtual 58, 3), (51, .if_icmp .ge 84, 3), (54, .aload_n 0, 1), (55, .iconst 0, 1), (56, .iload 4, 2)]
theorem dg_c_7 : dgrp cX5_invites dl_c_7 = true := by decide +kernel
theorem dX5_invites_0 : decode cX5_invites 0 = .ok (.iload_n 1, 1) := dgrp_at dg_c_7 0 rfl
theorem dX5_invites_1 : decode cX5_invites 1 = .ok (.i2l, 1) := dgrp_at dg_c_7 1 rfl
theorem dX5_invites_2 : decode cX5_invites 2 = .ok (.lconst 0, 1) := dgrp_at dg_c_7 2 rfl
theorem dX5_invites_3 : decode cX5_invites 3 = .ok (.ldc2_w 190, 3) := dgrp_at dg_c_7 3 rfl
theorem dX5_invites_6 : decode cX5_invites 6 = .ok (.invokestatic 54, 3) := dgrp_at dg_c_7 4 rfl
theorem dX5_invites_9 : decode cX5_invites 9 = .ok (.ifCond .eq 20, 3) := dgrp_at dg_c_7 5 rfl
theorem dX5_invites_12 : decode cX5_invites 12 = .ok (.iload_n 2, 1) := dgrp_at dg_c_7 6 rfl
theorem dX5_invites_13 : decode cX5_invites 13 = .ok (.i2l, 1) := dgrp_at dg_c_7 7 rfl
theorem dX5_invites_14 : decode cX5_invites 14 = .ok (.lconst 0, 1) := dgrp_at dg_c_7 8 rfl
theorem dX5_invites_15 : decode cX5_invites 15 = .ok (.ldc2_w 190, 3) := dgrp_at dg_c_7 9 rfl
theorem dX5_invites_18 : decode cX5_invites 18 = .ok (.invokestatic 54, 3) := dgrp_at dg_c_7 10 rfl
theorem dX5_invites_21 : decode cX5_invites 21 = .ok (.ifCond .eq 8, 3) := dgrp_at dg_c_7 11 rfl
theorem dX5_invites_24 : decode cX5_invites 24 = .ok (.iload_n 1, 1) := dgrp_at dg_c_7 12 rfl
theorem dX5_invites_25 : decode cX5_invites 25 = .ok (.iload_n 2, 1) := dgrp_at dg_c_7 13 rfl
theorem dX5_invites_26 : decode cX5_invites 26 = .ok (.if_icmp .le 10, 3) := dgrp_at dg_c_7 14 rfl
theorem dX5_invites_29 : decode cX5_invites 29 = .ok (.aload_n 0, 1) := dgrp_at dg_c_7 15 rfl
theorem dX5_invites_30 : decode cX5_invites 30 = .ok (.ldc 48, 2) := dgrp_at dg_c_7 16 rfl
theorem dX5_invites_32 : decode cX5_invites 32 = .ok (.invokevirtual 50, 3) := dgrp_at dg_c_7 17 rfl
theorem dX5_invites_35 : decode cX5_invites 35 = .ok (.ireturn, 1) := dgrp_at dg_c_7 18 rfl
theorem dX5_invites_36 : decode cX5_invites 36 = .ok (.aload_n 0, 1) := dgrp_at dg_c_7 19 rfl
theorem dX5_invites_37 : decode cX5_invites 37 = .ok (.invokevirtual 170, 3) := dgrp_at dg_c_7 20 rfl
theorem dX5_invites_40 : decode cX5_invites 40 = .ok (.iconst (-1), 1) := dgrp_at dg_c_7 21 rfl
theorem dX5_invites_41 : decode cX5_invites 41 = .ok (.istore_n 3, 1) := dgrp_at dg_c_7 22 rfl
theorem dX5_invites_42 : decode cX5_invites 42 = .ok (.iconst 0, 1) := dgrp_at dg_c_7 23 rfl
theorem dX5_invites_43 : decode cX5_invites 43 = .ok (.istore 4, 2) := dgrp_at dg_c_7 24 rfl
theorem dX5_invites_45 : decode cX5_invites 45 = .ok (.iload 4, 2) := dgrp_at dg_c_7 25 rfl
theorem dX5_invites_47 : decode cX5_invites 47 = .ok (.aload_n 0, 1) := dgrp_at dg_c_7 26 rfl
theorem dX5_invites_48 : decode cX5_invites 48 = .ok (.invokevirtual 58, 3) := dgrp_at dg_c_7 27 rfl
theorem dX5_invites_51 : decode cX5_invites 51 = .ok (.if_icmp .ge 84, 3) := dgrp_at dg_c_7 28 rfl
theorem dX5_invites_54 : decode cX5_invites 54 = .ok (.aload_n 0, 1) := dgrp_at dg_c_7 29 rfl
theorem dX5_invites_55 : decode cX5_invites 55 = .ok (.iconst 0, 1) := dgrp_at dg_c_7 30 rfl
theorem dX5_invites_56 : decode cX5_invites 56 = .ok (.iload 4, 2) := dgrp_at dg_c_7 31 rfl
def dl_c_8 : List (Nat × Instr × Nat) := [(58, .invokevirtual 187, 3), (61, .istore 5, 2), (63, .iload 5, 2), (65, .invokestatic 67, 3), (68, .i2l, 1), (69, .iload_n 1, 1), (70, .i2l, 1), (71, .iload_n 2, 1), (72, .i2l, 1), (73, .invokestatic 54, 3), (76, .ifCond .eq 22, 3), (79, .aload_n 0, 1), (80, .getfield 29, 3), (83, .iload 5, 2), (85, .iaload, 1), (86, .iload 4, 2), (88, .iand, 1), (89, .iload 5, 2), (91, .if_icmp .ne 7, 3), (94, .iconst 1, 1), (95, .goto 4, 3), (98, .iconst 0, 1), (99, .istore 6, 2), (101, .iload 6, 2), (103, .ifCond .eq 24, 3), (106, .iload_n 3, 1), (107, .ifCond .lt 15, 3), (110, .iload 4, 2), (112, .invokestatic 67, 3), (115, .iload_n 3, 1), (116, .invokestatic 67, 3), (119, .if_icmp .ge 8, 3)]
theorem dg_c_8 : dgrp cX5_invites dl_c_8 = true := by decide +kernel
theorem dX5_invites_58 : decode cX5_invites 58 = .ok (.invokevirtual 187, 3) := dgrp_at dg_c_8 0 rfl
theorem dX5_invites_61 : decode cX5_invites 61 = .ok (.istore 5, 2) := dgrp_at dg_c_8 1 rfl
theorem dX5_invites_63 : decode cX5_invites 63 = .ok (.iload 5, 2) := dgrp_at dg_c_8 2 rfl
theorem dX5_invites_65 : decode cX5_invites 65 = .ok (.invokestatic 67, 3) := dgrp_at dg_c_8 3 rfl
theorem dX5_invites_68 : decode cX5_invites 68 = .ok (.i2l, 1) := dgrp_at dg_c_8 4 rfl
theorem dX5_invites_69 : decode cX5_invites 69 = .ok (.iload_n 1, 1) := dgrp_at dg_c_8 5 rfl
theorem dX5_invites_70 : decode cX5_invites 70 = .ok (.i2l, 1) := dgrp_at dg_c_8 6 rfl
theorem dX5_invites_71 : decode cX5_invites 71 = .ok (.iload_n 2, 1) := dgrp_at dg_c_8 7 rfl
theorem dX5_invites_72 : decode cX5_invites 72 = .ok (.i2l, 1) := dgrp_at dg_c_8 8 rfl
theorem dX5_invites_73 : decode cX5_invites 73 = .ok (.invokestatic 54, 3) := dgrp_at dg_c_8 9 rfl
theorem dX5_invites_76 : decode cX5_invites 76 = .ok (.ifCond .eq 22, 3) := dgrp_at dg_c_8 10 rfl
theorem dX5_invites_79 : decode cX5_invites 79 = .ok (.aload_n 0, 1) := dgrp_at dg_c_8 11 rfl
theorem dX5_invites_80 : decode cX5_invites 80 = .ok (.getfield 29, 3) := dgrp_at dg_c_8 12 rfl
theorem dX5_invites_83 : decode cX5_invites 83 = .ok (.iload 5, 2) := dgrp_at dg_c_8 13 rfl
theorem dX5_invites_85 : decode cX5_invites 85 = .ok (.iaload, 1) := dgrp_at dg_c_8 14 rfl
theorem dX5_invites_86 : decode cX5_invites 86 = .ok (.iload 4, 2) := dgrp_at dg_c_8 15 rfl
theorem dX5_invites_88 : decode cX5_invites 88 = .ok (.iand, 1) := dgrp_at dg_c_8 16 rfl
theorem dX5_invites_89 : decode cX5_invites 89 = .ok (.iload 5, 2) := dgrp_at dg_c_8 17 rfl
theorem dX5_invites_91 : decode cX5_invites 91 = .ok (.if_icmp .ne 7, 3) := dgrp_at dg_c_8 18 rfl
theorem dX5_invites_94 : decode cX5_invites 94 = .ok (.iconst 1, 1) := dgrp_at dg_c_8 19 rfl
theorem dX5_invites_95 : decode cX5_invites 95 = .ok (.goto 4, 3) := dgrp_at dg_c_8 20 rfl
theorem dX5_invites_98 : decode cX5_invites 98 = .ok (.iconst 0, 1) := dgrp_at dg_c_8 21 rfl
theorem dX5_invites_99 : decode cX5_invites 99 = .ok (.istore 6, 2) := dgrp_at dg_c_8 22 rfl
theorem dX5_invites_101 : decode cX5_invites 101 = .ok (.iload 6, 2) := dgrp_at dg_c_8 23 rfl
theorem dX5_invites_103 : decode cX5_invites 103 = .ok (.ifCond .eq 24, 3) := dgrp_at dg_c_8 24 rfl
theorem dX5_invites_106 : decode cX5_invites 106 = .ok (.iload_n 3, 1) := dgrp_at dg_c_8 25 rfl
theorem dX5_invites_107 : decode cX5_invites 107 = .ok (.ifCond .lt 15, 3) := dgrp_at dg_c_8 26 rfl
theorem dX5_invites_110 : decode cX5_invites 110 = .ok (.iload 4, 2) := dgrp_at dg_c_8 27 rfl
theorem dX5_invites_112 : decode cX5_invites 112 = .ok (.invokestatic 67, 3) := dgrp_at dg_c_8 28 rfl
theorem dX5_invites_115 : decode cX5_invites 115 = .ok (.iload_n 3, 1) := dgrp_at dg_c_8 29 rfl
theorem dX5_invites_116 : decode cX5_invites 116 = .ok (.invokestatic 67, 3) := dgrp_at dg_c_8 30 rfl
theorem dX5_invites_119 : decode cX5_invites 119 = .ok (.if_icmp .ge 8, 3) := dgrp_at dg_c_8 31 rfl
def dl_c_9 : List (Nat × Instr × Nat) := [(122, .iload 4, 2), (124, .goto 4, 3), (127, .iload_n 3, 1), (128, .istore_n 3, 1), (129, .iinc 4 1, 3), (132, .goto (-87), 3), (135, .aload_n 0, 1), (136, .iload_n 3, 1), (137, .invokevirtual 176, 3), (140, .ireturn, 1)]
theorem dg_c_9 : dgrp cX5_invites dl_c_9 = true := by decide +kernel
theorem dX5_invites_122 : decode cX5_invites 122 = .ok (.iload 4, 2) := dgrp_at dg_c_9 0 rfl
theorem dX5_invites_124 : decode cX5_invites 124 = .ok (.goto 4, 3) := dgrp_at dg_c_9 1 rfl
theorem dX5_invites_127 : decode cX5_invites 127 = .ok (.iload_n 3, 1) := dgrp_at dg_c_9 2 rfl
theorem dX5_invites_128 : decode cX5_invites 128 = .ok (.istore_n 3, 1) := dgrp_at dg_c_9 3 rfl
theorem dX5_invites_129 : decode cX5_invites 129 = .ok (.iinc 4 1, 3) := dgrp_at dg_c_9 4 rfl
theorem dX5_invites_132 : decode cX5_invites 132 = .ok (.goto (-87), 3) := dgrp_at dg_c_9 5 rfl
theorem dX5_invites_135 : decode cX5_invites 135 = .ok (.aload_n 0, 1) := dgrp_at dg_c_9 6 rfl
theorem dX5_invites_136 : decode cX5_invites 136 = .ok (.iload_n 3, 1) := dgrp_at dg_c_9 7 rfl
theorem dX5_invites_137 : decode cX5_invites 137 = .ok (.invokevirtual 176, 3) := dgrp_at dg_c_9 8 rfl
theorem dX5_invites_140 : decode cX5_invites 140 = .ok (.ireturn, 1) := dgrp_at dg_c_9 9 rfl
def dl_c_10 : List (Nat × Instr × Nat) := [(0, .aload_n 0, 1), (1, .iload_n 1, 1), (2, .invokevirtual 87, 3), (5, .ifCond .eq 16, 3), (8, .aload_n 0, 1), (9, .iload_n 2, 1), (10, .invokevirtual 87, 3), (13, .ifCond .eq 8, 3), (16, .iload_n 1, 1), (17, .iload_n 2, 1), (18, .if_icmp .ne 10, 3), (21, .aload_n 0, 1), (22, .ldc 48, 2), (24, .invokevirtual 50, 3), (27, .ireturn, 1), (28, .aload_n 0, 1), (29, .invokevirtual 170, 3), (32, .iconst 0, 1), (33, .istore_n 3, 1), (34, .iconst 0, 1), (35, .istore 4, 2), (37, .iconst 0, 1), (38, .istore 5, 2), (40, .iconst 0, 1), (41, .istore 6, 2), (43, .iload 6, 2), (45, .aload_n 0, 1), (46, .invokevirtual 58, 3), (49, .if_icmp .ge 113, 3), (52, .aload_n 0, 1), (53, .getfield 29, 3), (56, .iload 6, 2)]
theorem dg_c_10 : dgrp cX5_against dl_c_10 = true := by decide +kernel
theorem dX5_against_0 : decode cX5_against 0 = .ok (.aload_n 0, 1) := dgrp_at dg_c_10 0 rfl
theorem dX5_against_1 : decode cX5_against 1 = .ok (.iload_n 1, 1) := dgrp_at dg_c_10 1 rfl
theorem dX5_against_2 : decode cX5_against 2 = .ok (.invokevirtual 87, 3) := dgrp_at dg_c_10 2 rfl
theorem dX5_against_5 : decode cX5_against 5 = .ok (.ifCond .eq 16, 3) := dgrp_at dg_c_10 3 rfl
theorem dX5_against_8 : decode cX5_against 8 = .ok (.aload_n 0, 1) := dgrp_at dg_c_10 4 rfl
theorem dX5_against_9 : decode cX5_against 9 = .ok (.iload_n 2, 1) := dgrp_at dg_c_10 5 rfl
theorem dX5_against_10 : decode cX5_against 10 = .ok (.invokevirtual 87, 3) := dgrp_at dg_c_10 6 rfl
theorem dX5_against_13 : decode cX5_against 13 = .ok (.ifCond .eq 8, 3) := dgrp_at dg_c_10 7 rfl
theorem dX5_against_16 : decode cX5_against 16 = .ok (.iload_n 1, 1) := dgrp_at dg_c_10 8 rfl
theorem dX5_against_17 : decode cX5_against 17 = .ok (.iload_n 2, 1) := dgrp_at dg_c_10 9 rfl
theorem dX5_against_18 : decode cX5_against 18 = .ok (.if_icmp .ne 10, 3) := dgrp_at dg_c_10 10 rfl
theorem dX5_against_21 : decode cX5_against 21 = .ok (.aload_n 0, 1) := dgrp_at dg_c_10 11 rfl
theorem dX5_against_22 : decode cX5_against 22 = .ok (.ldc 48, 2) := dgrp_at dg_c_10 12 rfl
theorem dX5_against_24 : decode cX5_against 24 = .ok (.invokevirtual 50, 3) := dgrp_at dg_c_10 13 rfl
theorem dX5_against_27 : decode cX5_against 27 = .ok (.ireturn, 1) := dgrp_at dg_c_10 14 rfl
theorem dX5_against_28 : decode cX5_against 28 = .ok (.aload_n 0, 1) := dgrp_at dg_c_10 15 rfl
theorem dX5_against_29 : decode cX5_against 29 = .ok (.invokevirtual 170, 3) := dgrp_at dg_c_10 16 rfl
theorem dX5_against_32 : decode cX5_against 32 = .ok (.iconst 0, 1) := dgrp_at dg_c_10 17 rfl
theorem dX5_against_33 : decode cX5_against 33 = .ok (.istore_n 3, 1) := dgrp_at dg_c_10 18 rfl
theorem dX5_against_34 : decode cX5_against 34 = .ok (.iconst 0, 1) := dgrp_at dg_c_10 19 rfl
theorem dX5_against_35 : decode cX5_against 35 = .ok (.istore 4, 2) := dgrp_at dg_c_10 20 rfl
theorem dX5_against_37 : decode cX5_against 37 = .ok (.iconst 0, 1) := dgrp_at dg_c_10 21 rfl
theorem dX5_against_38 : decode cX5_against 38 = .ok (.istore 5, 2) := dgrp_at dg_c_10 22 rfl
theorem dX5_against_40 : decode cX5_against 40 = .ok (.iconst 0, 1) := dgrp_at dg_c_10 23 rfl
theorem dX5_against_41 : decode cX5_against 41 = .ok (.istore 6, 2) := dgrp_at dg_c_10 24 rfl
theorem dX5_against_43 : decode cX5_against 43 = .ok (.iload 6, 2) := dgrp_at dg_c_10 25 rfl
theorem dX5_against_45 : decode cX5_against 45 = .ok (.aload_n 0, 1) := dgrp_at dg_c_10 26 rfl
theorem dX5_against_46 : decode cX5_against 46 = .ok (.invokevirtual 58, 3) := dgrp_at dg_c_10 27 rfl
theorem dX5_against_49 : decode cX5_against 49 = .ok (.if_icmp .ge 113, 3) := dgrp_at dg_c_10 28 rfl
theorem dX5_against_52 : decode cX5_against 52 = .ok (.aload_n 0, 1) := dgrp_at dg_c_10 29 rfl
theorem dX5_against_53 : decode cX5_against 53 = .ok (.getfield 29, 3) := dgrp_at dg_c_10 30 rfl
theorem dX5_against_56 : decode cX5_against 56 = .ok (.iload 6, 2) := dgrp_at dg_c_10 31 rfl
def dl_c_11 : List (Nat × Instr × Nat) := [(58, .iaload, 1), (59, .iload 6, 2), (61, .if_icmp .ne 7, 3), (64, .iconst 1, 1), (65, .goto 4, 3), (68, .iconst 0, 1), (69, .istore 7, 2), (71, .iload_n 3, 1), (72, .ifCond .ne 17, 3), (75, .iload 7, 2), (77, .ifCond .eq 16, 3), (80, .iload 6, 2), (82, .iload_n 1, 1), (83, .invokestatic 74, 3), (86, .ifCond .eq 7, 3), (89, .iconst 1, 1), (90, .goto 4, 3), (93, .iconst 0, 1), (94, .istore_n 3, 1), (95, .iload 4, 2), (97, .ifCond .ne 17, 3), (100, .iload 7, 2), (102, .ifCond .eq 16, 3), (105, .iload 6, 2), (107, .iload_n 2, 1), (108, .invokestatic 74, 3), (111, .ifCond .eq 7, 3), (114, .iconst 1, 1), (115, .goto 4, 3), (118, .iconst 0, 1), (119, .istore 4, 2), (121, .iload 5, 2)]
theorem dg_c_11 : dgrp cX5_against dl_c_11 = true := by decide +kernel
theorem dX5_against_58 : decode cX5_against 58 = .ok (.iaload, 1) := dgrp_at dg_c_11 0 rfl
theorem dX5_against_59 : decode cX5_against 59 = .ok (.iload 6, 2) := dgrp_at dg_c_11 1 rfl
theorem dX5_against_61 : decode cX5_against 61 = .ok (.if_icmp .ne 7, 3) := dgrp_at dg_c_11 2 rfl
theorem dX5_against_64 : decode cX5_against 64 = .ok (.iconst 1, 1) := dgrp_at dg_c_11 3 rfl
theorem dX5_against_65 : decode cX5_against 65 = .ok (.goto 4, 3) := dgrp_at dg_c_11 4 rfl
theorem dX5_against_68 : decode cX5_against 68 = .ok (.iconst 0, 1) := dgrp_at dg_c_11 5 rfl
theorem dX5_against_69 : decode cX5_against 69 = .ok (.istore 7, 2) := dgrp_at dg_c_11 6 rfl
theorem dX5_against_71 : decode cX5_against 71 = .ok (.iload_n 3, 1) := dgrp_at dg_c_11 7 rfl
theorem dX5_against_72 : decode cX5_against 72 = .ok (.ifCond .ne 17, 3) := dgrp_at dg_c_11 8 rfl
theorem dX5_against_75 : decode cX5_against 75 = .ok (.iload 7, 2) := dgrp_at dg_c_11 9 rfl
theorem dX5_against_77 : decode cX5_against 77 = .ok (.ifCond .eq 16, 3) := dgrp_at dg_c_11 10 rfl
theorem dX5_against_80 : decode cX5_against 80 = .ok (.iload 6, 2) := dgrp_at dg_c_11 11 rfl
theorem dX5_against_82 : decode cX5_against 82 = .ok (.iload_n 1, 1) := dgrp_at dg_c_11 12 rfl
theorem dX5_against_83 : decode cX5_against 83 = .ok (.invokestatic 74, 3) := dgrp_at dg_c_11 13 rfl
theorem dX5_against_86 : decode cX5_against 86 = .ok (.ifCond .eq 7, 3) := dgrp_at dg_c_11 14 rfl
theorem dX5_against_89 : decode cX5_against 89 = .ok (.iconst 1, 1) := dgrp_at dg_c_11 15 rfl
theorem dX5_against_90 : decode cX5_against 90 = .ok (.goto 4, 3) := dgrp_at dg_c_11 16 rfl
theorem dX5_against_93 : decode cX5_against 93 = .ok (.iconst 0, 1) := dgrp_at dg_c_11 17 rfl
theorem dX5_against_94 : decode cX5_against 94 = .ok (.istore_n 3, 1) := dgrp_at dg_c_11 18 rfl
theorem dX5_against_95 : decode cX5_against 95 = .ok (.iload 4, 2) := dgrp_at dg_c_11 19 rfl
theorem dX5_against_97 : decode cX5_against 97 = .ok (.ifCond .ne 17, 3) := dgrp_at dg_c_11 20 rfl
theorem dX5_against_100 : decode cX5_against 100 = .ok (.iload 7, 2) := dgrp_at dg_c_11 21 rfl
theorem dX5_against_102 : decode cX5_against 102 = .ok (.ifCond .eq 16, 3) := dgrp_at dg_c_11 22 rfl
theorem dX5_against_105 : decode cX5_against 105 = .ok (.iload 6, 2) := dgrp_at dg_c_11 23 rfl
theorem dX5_against_107 : decode cX5_against 107 = .ok (.iload_n 2, 1) := dgrp_at dg_c_11 24 rfl
theorem dX5_against_108 : decode cX5_against 108 = .ok (.invokestatic 74, 3) := dgrp_at dg_c_11 25 rfl
theorem dX5_against_111 : decode cX5_against 111 = .ok (.ifCond .eq 7, 3) := dgrp_at dg_c_11 26 rfl
theorem dX5_against_114 : decode cX5_against 114 = .ok (.iconst 1, 1) := dgrp_at dg_c_11 27 rfl
theorem dX5_against_115 : decode cX5_against 115 = .ok (.goto 4, 3) := dgrp_at dg_c_11 28 rfl
theorem dX5_against_118 : decode cX5_against 118 = .ok (.iconst 0, 1) := dgrp_at dg_c_11 29 rfl
theorem dX5_against_119 : decode cX5_against 119 = .ok (.istore 4, 2) := dgrp_at dg_c_11 30 rfl
theorem dX5_against_121 : decode cX5_against 121 = .ok (.iload 5, 2) := dgrp_at dg_c_11 31 rfl
def dl_c_12 : List (Nat × Instr × Nat) := [(123, .ifCond .ne 26, 3), (126, .iload 7, 2), (128, .ifCond .eq 25, 3), (131, .iload 6, 2), (133, .iload_n 1, 1), (134, .invokestatic 74, 3), (137, .ifCond .eq 16, 3), (140, .iload 6, 2), (142, .iload_n 2, 1), (143, .invokestatic 74, 3), (146, .ifCond .eq 7, 3), (149, .iconst 1, 1), (150, .goto 4, 3), (153, .iconst 0, 1), (154, .istore 5, 2), (156, .iinc 6 1, 3), (159, .goto (-116), 3), (162, .iload_n 3, 1), (163, .ifCond .eq 17, 3), (166, .iload 4, 2), (168, .ifCond .eq 12, 3), (171, .iload 5, 2), (173, .ifCond .ne 7, 3), (176, .iconst 1, 1), (177, .goto 4, 3), (180, .iconst 0, 1), (181, .ireturn, 1)]
theorem dg_c_12 : dgrp cX5_against dl_c_12 = true := by decide +kernel
theorem dX5_against_123 : decode cX5_against 123 = .ok (.ifCond .ne 26, 3) := dgrp_at dg_c_12 0 rfl
theorem dX5_against_126 : decode cX5_against 126 = .ok (.iload 7, 2) := dgrp_at dg_c_12 1 rfl
theorem dX5_against_128 : decode cX5_against 128 = .ok (.ifCond .eq 25, 3) := dgrp_at dg_c_12 2 rfl
theorem dX5_against_131 : decode cX5_against 131 = .ok (.iload 6, 2) := dgrp_at dg_c_12 3 rfl
theorem dX5_against_133 : decode cX5_against 133 = .ok (.iload_n 1, 1) := dgrp_at dg_c_12 4 rfl
theorem dX5_against_134 : decode cX5_against 134 = .ok (.invokestatic 74, 3) := dgrp_at dg_c_12 5 rfl
theorem dX5_against_137 : decode cX5_against 137 = .ok (.ifCond .eq 16, 3) := dgrp_at dg_c_12 6 rfl
theorem dX5_against_140 : decode cX5_against 140 = .ok (.iload 6, 2) := dgrp_at dg_c_12 7 rfl
theorem dX5_against_142 : decode cX5_against 142 = .ok (.iload_n 2, 1) := dgrp_at dg_c_12 8 rfl
theorem dX5_against_143 : decode cX5_against 143 = .ok (.invokestatic 74, 3) := dgrp_at dg_c_12 9 rfl
theorem dX5_against_146 : decode cX5_against 146 = .ok (.ifCond .eq 7, 3) := dgrp_at dg_c_12 10 rfl
theorem dX5_against_149 : decode cX5_against 149 = .ok (.iconst 1, 1) := dgrp_at dg_c_12 11 rfl
theorem dX5_against_150 : decode cX5_against 150 = .ok (.goto 4, 3) := dgrp_at dg_c_12 12 rfl
theorem dX5_against_153 : decode cX5_against 153 = .ok (.iconst 0, 1) := dgrp_at dg_c_12 13 rfl
theorem dX5_against_154 : decode cX5_against 154 = .ok (.istore 5, 2) := dgrp_at dg_c_12 14 rfl
theorem dX5_against_156 : decode cX5_against 156 = .ok (.iinc 6 1, 3) := dgrp_at dg_c_12 15 rfl
theorem dX5_against_159 : decode cX5_against 159 = .ok (.goto (-116), 3) := dgrp_at dg_c_12 16 rfl
theorem dX5_against_162 : decode cX5_against 162 = .ok (.iload_n 3, 1) := dgrp_at dg_c_12 17 rfl
theorem dX5_against_163 : decode cX5_against 163 = .ok (.ifCond .eq 17, 3) := dgrp_at dg_c_12 18 rfl
theorem dX5_against_166 : decode cX5_against 166 = .ok (.iload 4, 2) := dgrp_at dg_c_12 19 rfl
theorem dX5_against_168 : decode cX5_against 168 = .ok (.ifCond .eq 12, 3) := dgrp_at dg_c_12 20 rfl
theorem dX5_against_171 : decode cX5_against 171 = .ok (.iload 5, 2) := dgrp_at dg_c_12 21 rfl
theorem dX5_against_173 : decode cX5_against 173 = .ok (.ifCond .ne 7, 3) := dgrp_at dg_c_12 22 rfl
theorem dX5_against_176 : decode cX5_against 176 = .ok (.iconst 1, 1) := dgrp_at dg_c_12 23 rfl
theorem dX5_against_177 : decode cX5_against 177 = .ok (.goto 4, 3) := dgrp_at dg_c_12 24 rfl
theorem dX5_against_180 : decode cX5_against 180 = .ok (.iconst 0, 1) := dgrp_at dg_c_12 25 rfl
theorem dX5_against_181 : decode cX5_against 181 = .ok (.ireturn, 1) := dgrp_at dg_c_12 26 rfl
def dl_c_13 : List (Nat × Instr × Nat) := [(0, .aload_n 0, 1), (1, .iload_n 1, 1), (2, .invokevirtual 87, 3), (5, .ifCond .ne 10, 3), (8, .aload_n 0, 1), (9, .ldc 48, 2), (11, .invokevirtual 50, 3), (14, .ireturn, 1), (15, .aload_n 0, 1), (16, .invokevirtual 170, 3), (19, .iconst 0, 1), (20, .istore_n 2, 1), (21, .iconst 0, 1), (22, .istore_n 3, 1), (23, .iload_n 3, 1), (24, .aload_n 0, 1), (25, .invokevirtual 58, 3), (28, .if_icmp .ge 29, 3), (31, .iload_n 2, 1), (32, .aload_n 0, 1), (33, .getfield 29, 3), (36, .iload_n 3, 1), (37, .iaload, 1), (38, .aload_n 0, 1), (39, .getfield 29, 3), (42, .iload_n 3, 1), (43, .iconst 1, 1), (44, .iload_n 1, 1), (45, .ishl, 1), (46, .ior, 1), (47, .iaload, 1), (48, .ixor, 1)]
theorem dg_c_13 : dgrp cX5_minds dl_c_13 = true := by decide +kernel
theorem dX5_minds_0 : decode cX5_minds 0 = .ok (.aload_n 0, 1) := dgrp_at dg_c_13 0 rfl
theorem dX5_minds_1 : decode cX5_minds 1 = .ok (.iload_n 1, 1) := dgrp_at dg_c_13 1 rfl
theorem dX5_minds_2 : decode cX5_minds 2 = .ok (.invokevirtual 87, 3) := dgrp_at dg_c_13 2 rfl
theorem dX5_minds_5 : decode cX5_minds 5 = .ok (.ifCond .ne 10, 3) := dgrp_at dg_c_13 3 rfl
theorem dX5_minds_8 : decode cX5_minds 8 = .ok (.aload_n 0, 1) := dgrp_at dg_c_13 4 rfl
theorem dX5_minds_9 : decode cX5_minds 9 = .ok (.ldc 48, 2) := dgrp_at dg_c_13 5 rfl
theorem dX5_minds_11 : decode cX5_minds 11 = .ok (.invokevirtual 50, 3) := dgrp_at dg_c_13 6 rfl
theorem dX5_minds_14 : decode cX5_minds 14 = .ok (.ireturn, 1) := dgrp_at dg_c_13 7 rfl
theorem dX5_minds_15 : decode cX5_minds 15 = .ok (.aload_n 0, 1) := dgrp_at dg_c_13 8 rfl
theorem dX5_minds_16 : decode cX5_minds 16 = .ok (.invokevirtual 170, 3) := dgrp_at dg_c_13 9 rfl
theorem dX5_minds_19 : decode cX5_minds 19 = .ok (.iconst 0, 1) := dgrp_at dg_c_13 10 rfl
theorem dX5_minds_20 : decode cX5_minds 20 = .ok (.istore_n 2, 1) := dgrp_at dg_c_13 11 rfl
theorem dX5_minds_21 : decode cX5_minds 21 = .ok (.iconst 0, 1) := dgrp_at dg_c_13 12 rfl
theorem dX5_minds_22 : decode cX5_minds 22 = .ok (.istore_n 3, 1) := dgrp_at dg_c_13 13 rfl
theorem dX5_minds_23 : decode cX5_minds 23 = .ok (.iload_n 3, 1) := dgrp_at dg_c_13 14 rfl
theorem dX5_minds_24 : decode cX5_minds 24 = .ok (.aload_n 0, 1) := dgrp_at dg_c_13 15 rfl
theorem dX5_minds_25 : decode cX5_minds 25 = .ok (.invokevirtual 58, 3) := dgrp_at dg_c_13 16 rfl
theorem dX5_minds_28 : decode cX5_minds 28 = .ok (.if_icmp .ge 29, 3) := dgrp_at dg_c_13 17 rfl
theorem dX5_minds_31 : decode cX5_minds 31 = .ok (.iload_n 2, 1) := dgrp_at dg_c_13 18 rfl
theorem dX5_minds_32 : decode cX5_minds 32 = .ok (.aload_n 0, 1) := dgrp_at dg_c_13 19 rfl
theorem dX5_minds_33 : decode cX5_minds 33 = .ok (.getfield 29, 3) := dgrp_at dg_c_13 20 rfl
theorem dX5_minds_36 : decode cX5_minds 36 = .ok (.iload_n 3, 1) := dgrp_at dg_c_13 21 rfl
theorem dX5_minds_37 : decode cX5_minds 37 = .ok (.iaload, 1) := dgrp_at dg_c_13 22 rfl
theorem dX5_minds_38 : decode cX5_minds 38 = .ok (.aload_n 0, 1) := dgrp_at dg_c_13 23 rfl
theorem dX5_minds_39 : decode cX5_minds 39 = .ok (.getfield 29, 3) := dgrp_at dg_c_13 24 rfl
theorem dX5_minds_42 : decode cX5_minds 42 = .ok (.iload_n 3, 1) := dgrp_at dg_c_13 25 rfl
theorem dX5_minds_43 : decode cX5_minds 43 = .ok (.iconst 1, 1) := dgrp_at dg_c_13 26 rfl
theorem dX5_minds_44 : decode cX5_minds 44 = .ok (.iload_n 1, 1) := dgrp_at dg_c_13 27 rfl
theorem dX5_minds_45 : decode cX5_minds 45 = .ok (.ishl, 1) := dgrp_at dg_c_13 28 rfl
theorem dX5_minds_46 : decode cX5_minds 46 = .ok (.ior, 1) := dgrp_at dg_c_13 29 rfl
theorem dX5_minds_47 : decode cX5_minds 47 = .ok (.iaload, 1) := dgrp_at dg_c_13 30 rfl
theorem dX5_minds_48 : decode cX5_minds 48 = .ok (.ixor, 1) := dgrp_at dg_c_13 31 rfl
def dl_c_14 : List (Nat × Instr × Nat) := [(49, .ior, 1), (50, .istore_n 2, 1), (51, .iinc 3 1, 3), (54, .goto (-31), 3), (57, .iload_n 2, 1), (58, .iconst 1, 1), (59, .iload_n 1, 1), (60, .ishl, 1), (61, .iconst (-1), 1), (62, .ixor, 1), (63, .iand, 1), (64, .ireturn, 1)]
theorem dg_c_14 : dgrp cX5_minds dl_c_14 = true := by decide +kernel
theorem dX5_minds_49 : decode cX5_minds 49 = .ok (.ior, 1) := dgrp_at dg_c_14 0 rfl
theorem dX5_minds_50 : decode cX5_minds 50 = .ok (.istore_n 2, 1) := dgrp_at dg_c_14 1 rfl
theorem dX5_minds_51 : decode cX5_minds 51 = .ok (.iinc 3 1, 3) := dgrp_at dg_c_14 2 rfl
theorem dX5_minds_54 : decode cX5_minds 54 = .ok (.goto (-31), 3) := dgrp_at dg_c_14 3 rfl
theorem dX5_minds_57 : decode cX5_minds 57 = .ok (.iload_n 2, 1) := dgrp_at dg_c_14 4 rfl
theorem dX5_minds_58 : decode cX5_minds 58 = .ok (.iconst 1, 1) := dgrp_at dg_c_14 5 rfl
theorem dX5_minds_59 : decode cX5_minds 59 = .ok (.iload_n 1, 1) := dgrp_at dg_c_14 6 rfl
theorem dX5_minds_60 : decode cX5_minds 60 = .ok (.ishl, 1) := dgrp_at dg_c_14 7 rfl
theorem dX5_minds_61 : decode cX5_minds 61 = .ok (.iconst (-1), 1) := dgrp_at dg_c_14 8 rfl
theorem dX5_minds_62 : decode cX5_minds 62 = .ok (.ixor, 1) := dgrp_at dg_c_14 9 rfl
theorem dX5_minds_63 : decode cX5_minds 63 = .ok (.iand, 1) := dgrp_at dg_c_14 10 rfl
theorem dX5_minds_64 : decode cX5_minds 64 = .ok (.ireturn, 1) := dgrp_at dg_c_14 11 rfl
def dl_c_15 : List (Nat × Instr × Nat) := [(0, .aload_n 0, 1), (1, .iload_n 1, 1), (2, .invokevirtual 87, 3), (5, .ifCond .ne 10, 3), (8, .aload_n 0, 1), (9, .ldc 48, 2), (11, .invokevirtual 50, 3), (14, .ireturn, 1), (15, .aload_n 0, 1), (16, .iload_n 1, 1), (17, .iconst 0, 1), (18, .invokevirtual 70, 3), (21, .istore_n 2, 1), (22, .iconst (-1), 1), (23, .istore_n 3, 1), (24, .iconst (-1), 1), (25, .istore 4, 2), (27, .iconst 0, 1), (28, .istore 5, 2), (30, .iload 5, 2), (32, .bipush 6, 2), (34, .if_icmp .ge 57, 3), (37, .aload_n 0, 1), (38, .getfield 7, 3), (41, .iconst 2, 1), (42, .iconst 3, 1), (43, .iload_n 1, 1), (44, .imul, 1), (45, .iadd, 1), (46, .iload 5, 2), (48, .iastore, 1), (49, .aload_n 0, 1)]
theorem dg_c_15 : dgrp cX5_kind dl_c_15 = true := by decide +kernel
theorem dX5_kind_0 : decode cX5_kind 0 = .ok (.aload_n 0, 1) := dgrp_at dg_c_15 0 rfl
theorem dX5_kind_1 : decode cX5_kind 1 = .ok (.iload_n 1, 1) := dgrp_at dg_c_15 1 rfl
theorem dX5_kind_2 : decode cX5_kind 2 = .ok (.invokevirtual 87, 3) := dgrp_at dg_c_15 2 rfl
theorem dX5_kind_5 : decode cX5_kind 5 = .ok (.ifCond .ne 10, 3) := dgrp_at dg_c_15 3 rfl
theorem dX5_kind_8 : decode cX5_kind 8 = .ok (.aload_n 0, 1) := dgrp_at dg_c_15 4 rfl
theorem dX5_kind_9 : decode cX5_kind 9 = .ok (.ldc 48, 2) := dgrp_at dg_c_15 5 rfl
theorem dX5_kind_11 : decode cX5_kind 11 = .ok (.invokevirtual 50, 3) := dgrp_at dg_c_15 6 rfl
theorem dX5_kind_14 : decode cX5_kind 14 = .ok (.ireturn, 1) := dgrp_at dg_c_15 7 rfl
theorem dX5_kind_15 : decode cX5_kind 15 = .ok (.aload_n 0, 1) := dgrp_at dg_c_15 8 rfl
theorem dX5_kind_16 : decode cX5_kind 16 = .ok (.iload_n 1, 1) := dgrp_at dg_c_15 9 rfl
theorem dX5_kind_17 : decode cX5_kind 17 = .ok (.iconst 0, 1) := dgrp_at dg_c_15 10 rfl
theorem dX5_kind_18 : decode cX5_kind 18 = .ok (.invokevirtual 70, 3) := dgrp_at dg_c_15 11 rfl
theorem dX5_kind_21 : decode cX5_kind 21 = .ok (.istore_n 2, 1) := dgrp_at dg_c_15 12 rfl
theorem dX5_kind_22 : decode cX5_kind 22 = .ok (.iconst (-1), 1) := dgrp_at dg_c_15 13 rfl
theorem dX5_kind_23 : decode cX5_kind 23 = .ok (.istore_n 3, 1) := dgrp_at dg_c_15 14 rfl
theorem dX5_kind_24 : decode cX5_kind 24 = .ok (.iconst (-1), 1) := dgrp_at dg_c_15 15 rfl
theorem dX5_kind_25 : decode cX5_kind 25 = .ok (.istore 4, 2) := dgrp_at dg_c_15 16 rfl
theorem dX5_kind_27 : decode cX5_kind 27 = .ok (.iconst 0, 1) := dgrp_at dg_c_15 17 rfl
theorem dX5_kind_28 : decode cX5_kind 28 = .ok (.istore 5, 2) := dgrp_at dg_c_15 18 rfl
theorem dX5_kind_30 : decode cX5_kind 30 = .ok (.iload 5, 2) := dgrp_at dg_c_15 19 rfl
theorem dX5_kind_32 : decode cX5_kind 32 = .ok (.bipush 6, 2) := dgrp_at dg_c_15 20 rfl
theorem dX5_kind_34 : decode cX5_kind 34 = .ok (.if_icmp .ge 57, 3) := dgrp_at dg_c_15 21 rfl
theorem dX5_kind_37 : decode cX5_kind 37 = .ok (.aload_n 0, 1) := dgrp_at dg_c_15 22 rfl
theorem dX5_kind_38 : decode cX5_kind 38 = .ok (.getfield 7, 3) := dgrp_at dg_c_15 23 rfl
theorem dX5_kind_41 : decode cX5_kind 41 = .ok (.iconst 2, 1) := dgrp_at dg_c_15 24 rfl
theorem dX5_kind_42 : decode cX5_kind 42 = .ok (.iconst 3, 1) := dgrp_at dg_c_15 25 rfl
theorem dX5_kind_43 : decode cX5_kind 43 = .ok (.iload_n 1, 1) := dgrp_at dg_c_15 26 rfl
theorem dX5_kind_44 : decode cX5_kind 44 = .ok (.imul, 1) := dgrp_at dg_c_15 27 rfl
theorem dX5_kind_45 : decode cX5_kind 45 = .ok (.iadd, 1) := dgrp_at dg_c_15 28 rfl
theorem dX5_kind_46 : decode cX5_kind 46 = .ok (.iload 5, 2) := dgrp_at dg_c_15 29 rfl
theorem dX5_kind_48 : decode cX5_kind 48 = .ok (.iastore, 1) := dgrp_at dg_c_15 30 rfl
theorem dX5_kind_49 : decode cX5_kind 49 = .ok (.aload_n 0, 1) := dgrp_at dg_c_15 31 rfl
def dl_c_16 : List (Nat × Instr × Nat) := [(50, .invokevirtual 179, 3), (53, .istore 6, 2), (55, .iload 6, 2), (57, .iload 4, 2), (59, .if_icmp .le 8, 3), (62, .iload 5, 2), (64, .goto 4, 3), (67, .iload_n 3, 1), (68, .istore_n 3, 1), (69, .iload 6, 2), (71, .iload 4, 2), (73, .if_icmp .le 8, 3), (76, .iload 6, 2), (78, .goto 5, 3), (81, .iload 4, 2), (83, .istore 4, 2), (85, .iinc 5 1, 3), (88, .goto (-58), 3), (91, .aload_n 0, 1), (92, .getfield 7, 3), (95, .iconst 2, 1), (96, .iconst 3, 1), (97, .iload_n 1, 1), (98, .imul, 1), (99, .iadd, 1), (100, .iload_n 2, 1), (101, .iastore, 1), (102, .iload_n 3, 1), (103, .ireturn, 1)]
theorem dg_c_16 : dgrp cX5_kind dl_c_16 = true := by decide +kernel
theorem dX5_kind_50 : decode cX5_kind 50 = .ok (.invokevirtual 179, 3) := dgrp_at dg_c_16 0 rfl
theorem dX5_kind_53 : decode cX5_kind 53 = .ok (.istore 6, 2) := dgrp_at dg_c_16 1 rfl
theorem dX5_kind_55 : decode cX5_kind 55 = .ok (.iload 6, 2) := dgrp_at dg_c_16 2 rfl
theorem dX5_kind_57 : decode cX5_kind 57 = .ok (.iload 4, 2) := dgrp_at dg_c_16 3 rfl
theorem dX5_kind_59 : decode cX5_kind 59 = .ok (.if_icmp .le 8, 3) := dgrp_at dg_c_16 4 rfl
theorem dX5_kind_62 : decode cX5_kind 62 = .ok (.iload 5, 2) := dgrp_at dg_c_16 5 rfl
theorem dX5_kind_64 : decode cX5_kind 64 = .ok (.goto 4, 3) := dgrp_at dg_c_16 6 rfl
theorem dX5_kind_67 : decode cX5_kind 67 = .ok (.iload_n 3, 1) := dgrp_at dg_c_16 7 rfl
theorem dX5_kind_68 : decode cX5_kind 68 = .ok (.istore_n 3, 1) := dgrp_at dg_c_16 8 rfl
theorem dX5_kind_69 : decode cX5_kind 69 = .ok (.iload 6, 2) := dgrp_at dg_c_16 9 rfl
theorem dX5_kind_71 : decode cX5_kind 71 = .ok (.iload 4, 2) := dgrp_at dg_c_16 10 rfl
theorem dX5_kind_73 : decode cX5_kind 73 = .ok (.if_icmp .le 8, 3) := dgrp_at dg_c_16 11 rfl
theorem dX5_kind_76 : decode cX5_kind 76 = .ok (.iload 6, 2) := dgrp_at dg_c_16 12 rfl
theorem dX5_kind_78 : decode cX5_kind 78 = .ok (.goto 5, 3) := dgrp_at dg_c_16 13 rfl
theorem dX5_kind_81 : decode cX5_kind 81 = .ok (.iload 4, 2) := dgrp_at dg_c_16 14 rfl
theorem dX5_kind_83 : decode cX5_kind 83 = .ok (.istore 4, 2) := dgrp_at dg_c_16 15 rfl
theorem dX5_kind_85 : decode cX5_kind 85 = .ok (.iinc 5 1, 3) := dgrp_at dg_c_16 16 rfl
theorem dX5_kind_88 : decode cX5_kind 88 = .ok (.goto (-58), 3) := dgrp_at dg_c_16 17 rfl
theorem dX5_kind_91 : decode cX5_kind 91 = .ok (.aload_n 0, 1) := dgrp_at dg_c_16 18 rfl
theorem dX5_kind_92 : decode cX5_kind 92 = .ok (.getfield 7, 3) := dgrp_at dg_c_16 19 rfl
theorem dX5_kind_95 : decode cX5_kind 95 = .ok (.iconst 2, 1) := dgrp_at dg_c_16 20 rfl
theorem dX5_kind_96 : decode cX5_kind 96 = .ok (.iconst 3, 1) := dgrp_at dg_c_16 21 rfl
theorem dX5_kind_97 : decode cX5_kind 97 = .ok (.iload_n 1, 1) := dgrp_at dg_c_16 22 rfl
theorem dX5_kind_98 : decode cX5_kind 98 = .ok (.imul, 1) := dgrp_at dg_c_16 23 rfl
theorem dX5_kind_99 : decode cX5_kind 99 = .ok (.iadd, 1) := dgrp_at dg_c_16 24 rfl
theorem dX5_kind_100 : decode cX5_kind 100 = .ok (.iload_n 2, 1) := dgrp_at dg_c_16 25 rfl
theorem dX5_kind_101 : decode cX5_kind 101 = .ok (.iastore, 1) := dgrp_at dg_c_16 26 rfl
theorem dX5_kind_102 : decode cX5_kind 102 = .ok (.iload_n 3, 1) := dgrp_at dg_c_16 27 rfl
theorem dX5_kind_103 : decode cX5_kind 103 = .ok (.ireturn, 1) := dgrp_at dg_c_16 28 rfl
def dl_c_17 : List (Nat × Instr × Nat) := [(0, .iload_n 0, 1), (1, .i2l, 1), (2, .lconst 0, 1), (3, .ldc2_w 182, 3), (6, .invokestatic 54, 3), (9, .ireturn, 1)]
theorem dg_c_17 : dgrp cX5_isOne dl_c_17 = true := by decide +kernel
theorem dX5_isOne_0 : decode cX5_isOne 0 = .ok (.iload_n 0, 1) := dgrp_at dg_c_17 0 rfl
theorem dX5_isOne_1 : decode cX5_isOne 1 = .ok (.i2l, 1) := dgrp_at dg_c_17 1 rfl
theorem dX5_isOne_2 : decode cX5_isOne 2 = .ok (.lconst 0, 1) := dgrp_at dg_c_17 2 rfl
theorem dX5_isOne_3 : decode cX5_isOne 3 = .ok (.ldc2_w 182, 3) := dgrp_at dg_c_17 3 rfl
theorem dX5_isOne_6 : decode cX5_isOne 6 = .ok (.invokestatic 54, 3) := dgrp_at dg_c_17 4 rfl
theorem dX5_isOne_9 : decode cX5_isOne 9 = .ok (.ireturn, 1) := dgrp_at dg_c_17 5 rfl
def dl_c_18 : List (Nat × Instr × Nat) := [(0, .iload_n 1, 1), (1, .invokestatic 195, 3), (4, .ifCond .eq 25, 3), (7, .iload_n 2, 1), (8, .ifCond .eq 28, 3), (11, .iload_n 2, 1), (12, .bipush 8, 2), (14, .if_icmp .eq 22, 3), (17, .iload_n 2, 1), (18, .bipush 16, 2), (20, .if_icmp .eq 16, 3), (23, .iload_n 2, 1), (24, .bipush 64, 2), (26, .if_icmp .eq 10, 3), (29, .aload_n 0, 1), (30, .ldc 48, 2), (32, .invokevirtual 50, 3), (35, .ireturn, 1), (36, .iload_n 3, 1), (37, .ifCond .ge 10, 3), (40, .aload_n 0, 1), (41, .ldc 198, 2), (43, .invokevirtual 50, 3), (46, .ireturn, 1), (47, .iload_n 3, 1), (48, .bipush 40, 2), (50, .if_icmp .le 10, 3), (53, .aload_n 0, 1), (54, .ldc 48, 2), (56, .invokevirtual 50, 3), (59, .ireturn, 1), (60, .aload_n 0, 1)]
theorem dg_c_18 : dgrp cX5_sheet dl_c_18 = true := by decide +kernel
theorem dX5_sheet_0 : decode cX5_sheet 0 = .ok (.iload_n 1, 1) := dgrp_at dg_c_18 0 rfl
theorem dX5_sheet_1 : decode cX5_sheet 1 = .ok (.invokestatic 195, 3) := dgrp_at dg_c_18 1 rfl
theorem dX5_sheet_4 : decode cX5_sheet 4 = .ok (.ifCond .eq 25, 3) := dgrp_at dg_c_18 2 rfl
theorem dX5_sheet_7 : decode cX5_sheet 7 = .ok (.iload_n 2, 1) := dgrp_at dg_c_18 3 rfl
theorem dX5_sheet_8 : decode cX5_sheet 8 = .ok (.ifCond .eq 28, 3) := dgrp_at dg_c_18 4 rfl
theorem dX5_sheet_11 : decode cX5_sheet 11 = .ok (.iload_n 2, 1) := dgrp_at dg_c_18 5 rfl
theorem dX5_sheet_12 : decode cX5_sheet 12 = .ok (.bipush 8, 2) := dgrp_at dg_c_18 6 rfl
theorem dX5_sheet_14 : decode cX5_sheet 14 = .ok (.if_icmp .eq 22, 3) := dgrp_at dg_c_18 7 rfl
theorem dX5_sheet_17 : decode cX5_sheet 17 = .ok (.iload_n 2, 1) := dgrp_at dg_c_18 8 rfl
theorem dX5_sheet_18 : decode cX5_sheet 18 = .ok (.bipush 16, 2) := dgrp_at dg_c_18 9 rfl
theorem dX5_sheet_20 : decode cX5_sheet 20 = .ok (.if_icmp .eq 16, 3) := dgrp_at dg_c_18 10 rfl
theorem dX5_sheet_23 : decode cX5_sheet 23 = .ok (.iload_n 2, 1) := dgrp_at dg_c_18 11 rfl
theorem dX5_sheet_24 : decode cX5_sheet 24 = .ok (.bipush 64, 2) := dgrp_at dg_c_18 12 rfl
theorem dX5_sheet_26 : decode cX5_sheet 26 = .ok (.if_icmp .eq 10, 3) := dgrp_at dg_c_18 13 rfl
theorem dX5_sheet_29 : decode cX5_sheet 29 = .ok (.aload_n 0, 1) := dgrp_at dg_c_18 14 rfl
theorem dX5_sheet_30 : decode cX5_sheet 30 = .ok (.ldc 48, 2) := dgrp_at dg_c_18 15 rfl
theorem dX5_sheet_32 : decode cX5_sheet 32 = .ok (.invokevirtual 50, 3) := dgrp_at dg_c_18 16 rfl
theorem dX5_sheet_35 : decode cX5_sheet 35 = .ok (.ireturn, 1) := dgrp_at dg_c_18 17 rfl
theorem dX5_sheet_36 : decode cX5_sheet 36 = .ok (.iload_n 3, 1) := dgrp_at dg_c_18 18 rfl
theorem dX5_sheet_37 : decode cX5_sheet 37 = .ok (.ifCond .ge 10, 3) := dgrp_at dg_c_18 19 rfl
theorem dX5_sheet_40 : decode cX5_sheet 40 = .ok (.aload_n 0, 1) := dgrp_at dg_c_18 20 rfl
theorem dX5_sheet_41 : decode cX5_sheet 41 = .ok (.ldc 198, 2) := dgrp_at dg_c_18 21 rfl
theorem dX5_sheet_43 : decode cX5_sheet 43 = .ok (.invokevirtual 50, 3) := dgrp_at dg_c_18 22 rfl
theorem dX5_sheet_46 : decode cX5_sheet 46 = .ok (.ireturn, 1) := dgrp_at dg_c_18 23 rfl
theorem dX5_sheet_47 : decode cX5_sheet 47 = .ok (.iload_n 3, 1) := dgrp_at dg_c_18 24 rfl
theorem dX5_sheet_48 : decode cX5_sheet 48 = .ok (.bipush 40, 2) := dgrp_at dg_c_18 25 rfl
theorem dX5_sheet_50 : decode cX5_sheet 50 = .ok (.if_icmp .le 10, 3) := dgrp_at dg_c_18 26 rfl
theorem dX5_sheet_53 : decode cX5_sheet 53 = .ok (.aload_n 0, 1) := dgrp_at dg_c_18 27 rfl
theorem dX5_sheet_54 : decode cX5_sheet 54 = .ok (.ldc 48, 2) := dgrp_at dg_c_18 28 rfl
theorem dX5_sheet_56 : decode cX5_sheet 56 = .ok (.invokevirtual 50, 3) := dgrp_at dg_c_18 29 rfl
theorem dX5_sheet_59 : decode cX5_sheet 59 = .ok (.ireturn, 1) := dgrp_at dg_c_18 30 rfl
theorem dX5_sheet_60 : decode cX5_sheet 60 = .ok (.aload_n 0, 1) := dgrp_at dg_c_18 31 rfl
def dl_c_19 : List (Nat × Instr × Nat) := [(61, .getfield 35, 3), (64, .iload_n 1, 1), (65, .iload_n 2, 1), (66, .iastore, 1), (67, .aload_n 0, 1), (68, .getfield 38, 3), (71, .iload_n 1, 1), (72, .iload_n 2, 1), (73, .ifCond .ne 7, 3), (76, .iconst 0, 1), (77, .goto 4, 3), (80, .iload_n 3, 1), (81, .iastore, 1), (82, .iconst 0, 1), (83, .istore 4, 2), (85, .iload 4, 2), (87, .bipush 40, 2), (89, .if_icmp .ge 22, 3), (92, .aload_n 0, 1), (93, .getfield 41, 3), (96, .bipush 40, 2), (98, .iload_n 1, 1), (99, .imul, 1), (100, .iload 4, 2), (102, .iadd, 1), (103, .lconst 0, 1), (104, .lastore, 1), (105, .iinc 4 1, 3), (108, .goto (-23), 3), (111, .aload_n 0, 1), (112, .getfield 38, 3), (115, .iload_n 1, 1)]
theorem dg_c_19 : dgrp cX5_sheet dl_c_19 = true := by decide +kernel
theorem dX5_sheet_61 : decode cX5_sheet 61 = .ok (.getfield 35, 3) := dgrp_at dg_c_19 0 rfl
theorem dX5_sheet_64 : decode cX5_sheet 64 = .ok (.iload_n 1, 1) := dgrp_at dg_c_19 1 rfl
theorem dX5_sheet_65 : decode cX5_sheet 65 = .ok (.iload_n 2, 1) := dgrp_at dg_c_19 2 rfl
theorem dX5_sheet_66 : decode cX5_sheet 66 = .ok (.iastore, 1) := dgrp_at dg_c_19 3 rfl
theorem dX5_sheet_67 : decode cX5_sheet 67 = .ok (.aload_n 0, 1) := dgrp_at dg_c_19 4 rfl
theorem dX5_sheet_68 : decode cX5_sheet 68 = .ok (.getfield 38, 3) := dgrp_at dg_c_19 5 rfl
theorem dX5_sheet_71 : decode cX5_sheet 71 = .ok (.iload_n 1, 1) := dgrp_at dg_c_19 6 rfl
theorem dX5_sheet_72 : decode cX5_sheet 72 = .ok (.iload_n 2, 1) := dgrp_at dg_c_19 7 rfl
theorem dX5_sheet_73 : decode cX5_sheet 73 = .ok (.ifCond .ne 7, 3) := dgrp_at dg_c_19 8 rfl
theorem dX5_sheet_76 : decode cX5_sheet 76 = .ok (.iconst 0, 1) := dgrp_at dg_c_19 9 rfl
theorem dX5_sheet_77 : decode cX5_sheet 77 = .ok (.goto 4, 3) := dgrp_at dg_c_19 10 rfl
theorem dX5_sheet_80 : decode cX5_sheet 80 = .ok (.iload_n 3, 1) := dgrp_at dg_c_19 11 rfl
theorem dX5_sheet_81 : decode cX5_sheet 81 = .ok (.iastore, 1) := dgrp_at dg_c_19 12 rfl
theorem dX5_sheet_82 : decode cX5_sheet 82 = .ok (.iconst 0, 1) := dgrp_at dg_c_19 13 rfl
theorem dX5_sheet_83 : decode cX5_sheet 83 = .ok (.istore 4, 2) := dgrp_at dg_c_19 14 rfl
theorem dX5_sheet_85 : decode cX5_sheet 85 = .ok (.iload 4, 2) := dgrp_at dg_c_19 15 rfl
theorem dX5_sheet_87 : decode cX5_sheet 87 = .ok (.bipush 40, 2) := dgrp_at dg_c_19 16 rfl
theorem dX5_sheet_89 : decode cX5_sheet 89 = .ok (.if_icmp .ge 22, 3) := dgrp_at dg_c_19 17 rfl
theorem dX5_sheet_92 : decode cX5_sheet 92 = .ok (.aload_n 0, 1) := dgrp_at dg_c_19 18 rfl
theorem dX5_sheet_93 : decode cX5_sheet 93 = .ok (.getfield 41, 3) := dgrp_at dg_c_19 19 rfl
theorem dX5_sheet_96 : decode cX5_sheet 96 = .ok (.bipush 40, 2) := dgrp_at dg_c_19 20 rfl
theorem dX5_sheet_98 : decode cX5_sheet 98 = .ok (.iload_n 1, 1) := dgrp_at dg_c_19 21 rfl
theorem dX5_sheet_99 : decode cX5_sheet 99 = .ok (.imul, 1) := dgrp_at dg_c_19 22 rfl
theorem dX5_sheet_100 : decode cX5_sheet 100 = .ok (.iload 4, 2) := dgrp_at dg_c_19 23 rfl
theorem dX5_sheet_102 : decode cX5_sheet 102 = .ok (.iadd, 1) := dgrp_at dg_c_19 24 rfl
theorem dX5_sheet_103 : decode cX5_sheet 103 = .ok (.lconst 0, 1) := dgrp_at dg_c_19 25 rfl
theorem dX5_sheet_104 : decode cX5_sheet 104 = .ok (.lastore, 1) := dgrp_at dg_c_19 26 rfl
theorem dX5_sheet_105 : decode cX5_sheet 105 = .ok (.iinc 4 1, 3) := dgrp_at dg_c_19 27 rfl
theorem dX5_sheet_108 : decode cX5_sheet 108 = .ok (.goto (-23), 3) := dgrp_at dg_c_19 28 rfl
theorem dX5_sheet_111 : decode cX5_sheet 111 = .ok (.aload_n 0, 1) := dgrp_at dg_c_19 29 rfl
theorem dX5_sheet_112 : decode cX5_sheet 112 = .ok (.getfield 38, 3) := dgrp_at dg_c_19 30 rfl
theorem dX5_sheet_115 : decode cX5_sheet 115 = .ok (.iload_n 1, 1) := dgrp_at dg_c_19 31 rfl
def dl_c_20 : List (Nat × Instr × Nat) := [(116, .iaload, 1), (117, .ireturn, 1)]
theorem dg_c_20 : dgrp cX5_sheet dl_c_20 = true := by decide +kernel
theorem dX5_sheet_116 : decode cX5_sheet 116 = .ok (.iaload, 1) := dgrp_at dg_c_20 0 rfl
theorem dX5_sheet_117 : decode cX5_sheet 117 = .ok (.ireturn, 1) := dgrp_at dg_c_20 1 rfl
def dl_c_21 : List (Nat × Instr × Nat) := [(0, .iload_n 0, 1), (1, .bipush 8, 2), (3, .if_icmp .ne 10, 3), (6, .lload_n 1, 1), (7, .l2i, 1), (8, .i2b, 1), (9, .i2l, 1), (10, .goto 17, 3), (13, .iload_n 0, 1), (14, .bipush 16, 2), (16, .if_icmp .ne 10, 3), (19, .lload_n 1, 1), (20, .l2i, 1), (21, .i2s, 1), (22, .i2l, 1), (23, .goto 4, 3), (26, .lload_n 1, 1), (27, .lreturn, 1)]
theorem dg_c_21 : dgrp cX5_narrowed dl_c_21 = true := by decide +kernel
theorem dX5_narrowed_0 : decode cX5_narrowed 0 = .ok (.iload_n 0, 1) := dgrp_at dg_c_21 0 rfl
theorem dX5_narrowed_1 : decode cX5_narrowed 1 = .ok (.bipush 8, 2) := dgrp_at dg_c_21 1 rfl
theorem dX5_narrowed_3 : decode cX5_narrowed 3 = .ok (.if_icmp .ne 10, 3) := dgrp_at dg_c_21 2 rfl
theorem dX5_narrowed_6 : decode cX5_narrowed 6 = .ok (.lload_n 1, 1) := dgrp_at dg_c_21 3 rfl
theorem dX5_narrowed_7 : decode cX5_narrowed 7 = .ok (.l2i, 1) := dgrp_at dg_c_21 4 rfl
theorem dX5_narrowed_8 : decode cX5_narrowed 8 = .ok (.i2b, 1) := dgrp_at dg_c_21 5 rfl
theorem dX5_narrowed_9 : decode cX5_narrowed 9 = .ok (.i2l, 1) := dgrp_at dg_c_21 6 rfl
theorem dX5_narrowed_10 : decode cX5_narrowed 10 = .ok (.goto 17, 3) := dgrp_at dg_c_21 7 rfl
theorem dX5_narrowed_13 : decode cX5_narrowed 13 = .ok (.iload_n 0, 1) := dgrp_at dg_c_21 8 rfl
theorem dX5_narrowed_14 : decode cX5_narrowed 14 = .ok (.bipush 16, 2) := dgrp_at dg_c_21 9 rfl
theorem dX5_narrowed_16 : decode cX5_narrowed 16 = .ok (.if_icmp .ne 10, 3) := dgrp_at dg_c_21 10 rfl
theorem dX5_narrowed_19 : decode cX5_narrowed 19 = .ok (.lload_n 1, 1) := dgrp_at dg_c_21 11 rfl
theorem dX5_narrowed_20 : decode cX5_narrowed 20 = .ok (.l2i, 1) := dgrp_at dg_c_21 12 rfl
theorem dX5_narrowed_21 : decode cX5_narrowed 21 = .ok (.i2s, 1) := dgrp_at dg_c_21 13 rfl
theorem dX5_narrowed_22 : decode cX5_narrowed 22 = .ok (.i2l, 1) := dgrp_at dg_c_21 14 rfl
theorem dX5_narrowed_23 : decode cX5_narrowed 23 = .ok (.goto 4, 3) := dgrp_at dg_c_21 15 rfl
theorem dX5_narrowed_26 : decode cX5_narrowed 26 = .ok (.lload_n 1, 1) := dgrp_at dg_c_21 16 rfl
theorem dX5_narrowed_27 : decode cX5_narrowed 27 = .ok (.lreturn, 1) := dgrp_at dg_c_21 17 rfl
def dl_c_22 : List (Nat × Instr × Nat) := [(0, .iload_n 1, 1), (1, .invokestatic 195, 3), (4, .ifCond .ne 8, 3), (7, .ldc 48, 2), (9, .goto 18, 3), (12, .aload_n 0, 1), (13, .getfield 35, 3), (16, .iload_n 1, 1), (17, .iaload, 1), (18, .ifCond .ne 8, 3), (21, .ldc 199, 2), (23, .goto 4, 3), (26, .iconst 0, 1), (27, .ireturn, 1)]
theorem dg_c_22 : dgrp cX5_wrong dl_c_22 = true := by decide +kernel
theorem dX5_wrong_0 : decode cX5_wrong 0 = .ok (.iload_n 1, 1) := dgrp_at dg_c_22 0 rfl
theorem dX5_wrong_1 : decode cX5_wrong 1 = .ok (.invokestatic 195, 3) := dgrp_at dg_c_22 1 rfl
theorem dX5_wrong_4 : decode cX5_wrong 4 = .ok (.ifCond .ne 8, 3) := dgrp_at dg_c_22 2 rfl
theorem dX5_wrong_7 : decode cX5_wrong 7 = .ok (.ldc 48, 2) := dgrp_at dg_c_22 3 rfl
theorem dX5_wrong_9 : decode cX5_wrong 9 = .ok (.goto 18, 3) := dgrp_at dg_c_22 4 rfl
theorem dX5_wrong_12 : decode cX5_wrong 12 = .ok (.aload_n 0, 1) := dgrp_at dg_c_22 5 rfl
theorem dX5_wrong_13 : decode cX5_wrong 13 = .ok (.getfield 35, 3) := dgrp_at dg_c_22 6 rfl
theorem dX5_wrong_16 : decode cX5_wrong 16 = .ok (.iload_n 1, 1) := dgrp_at dg_c_22 7 rfl
theorem dX5_wrong_17 : decode cX5_wrong 17 = .ok (.iaload, 1) := dgrp_at dg_c_22 8 rfl
theorem dX5_wrong_18 : decode cX5_wrong 18 = .ok (.ifCond .ne 8, 3) := dgrp_at dg_c_22 9 rfl
theorem dX5_wrong_21 : decode cX5_wrong 21 = .ok (.ldc 199, 2) := dgrp_at dg_c_22 10 rfl
theorem dX5_wrong_23 : decode cX5_wrong 23 = .ok (.goto 4, 3) := dgrp_at dg_c_22 11 rfl
theorem dX5_wrong_26 : decode cX5_wrong 26 = .ok (.iconst 0, 1) := dgrp_at dg_c_22 12 rfl
theorem dX5_wrong_27 : decode cX5_wrong 27 = .ok (.ireturn, 1) := dgrp_at dg_c_22 13 rfl
def dl_c_23 : List (Nat × Instr × Nat) := [(0, .aload_n 0, 1), (1, .iload_n 1, 1), (2, .invokevirtual 200, 3), (5, .istore 5, 2), (7, .iload 5, 2), (9, .ifCond .eq 11, 3), (12, .aload_n 0, 1), (13, .iload 5, 2), (15, .invokevirtual 50, 3), (18, .i2l, 1), (19, .lreturn, 1), (20, .iload_n 2, 1), (21, .i2l, 1), (22, .lconst 0, 1), (23, .aload_n 0, 1), (24, .getfield 38, 3), (27, .iload_n 1, 1), (28, .iaload, 1), (29, .iconst 1, 1), (30, .isub, 1), (31, .i2l, 1), (32, .invokestatic 54, 3), (35, .ifCond .ne 11, 3), (38, .aload_n 0, 1), (39, .ldc 48, 2), (41, .invokevirtual 50, 3), (44, .i2l, 1), (45, .lreturn, 1), (46, .aload_n 0, 1), (47, .getfield 41, 3), (50, .bipush 40, 2), (52, .iload_n 1, 1)]
theorem dg_c_23 : dgrp cX5_write dl_c_23 = true := by decide +kernel
theorem dX5_write_0 : decode cX5_write 0 = .ok (.aload_n 0, 1) := dgrp_at dg_c_23 0 rfl
theorem dX5_write_1 : decode cX5_write 1 = .ok (.iload_n 1, 1) := dgrp_at dg_c_23 1 rfl
theorem dX5_write_2 : decode cX5_write 2 = .ok (.invokevirtual 200, 3) := dgrp_at dg_c_23 2 rfl
theorem dX5_write_5 : decode cX5_write 5 = .ok (.istore 5, 2) := dgrp_at dg_c_23 3 rfl
theorem dX5_write_7 : decode cX5_write 7 = .ok (.iload 5, 2) := dgrp_at dg_c_23 4 rfl
theorem dX5_write_9 : decode cX5_write 9 = .ok (.ifCond .eq 11, 3) := dgrp_at dg_c_23 5 rfl
theorem dX5_write_12 : decode cX5_write 12 = .ok (.aload_n 0, 1) := dgrp_at dg_c_23 6 rfl
theorem dX5_write_13 : decode cX5_write 13 = .ok (.iload 5, 2) := dgrp_at dg_c_23 7 rfl
theorem dX5_write_15 : decode cX5_write 15 = .ok (.invokevirtual 50, 3) := dgrp_at dg_c_23 8 rfl
theorem dX5_write_18 : decode cX5_write 18 = .ok (.i2l, 1) := dgrp_at dg_c_23 9 rfl
theorem dX5_write_19 : decode cX5_write 19 = .ok (.lreturn, 1) := dgrp_at dg_c_23 10 rfl
theorem dX5_write_20 : decode cX5_write 20 = .ok (.iload_n 2, 1) := dgrp_at dg_c_23 11 rfl
theorem dX5_write_21 : decode cX5_write 21 = .ok (.i2l, 1) := dgrp_at dg_c_23 12 rfl
theorem dX5_write_22 : decode cX5_write 22 = .ok (.lconst 0, 1) := dgrp_at dg_c_23 13 rfl
theorem dX5_write_23 : decode cX5_write 23 = .ok (.aload_n 0, 1) := dgrp_at dg_c_23 14 rfl
theorem dX5_write_24 : decode cX5_write 24 = .ok (.getfield 38, 3) := dgrp_at dg_c_23 15 rfl
theorem dX5_write_27 : decode cX5_write 27 = .ok (.iload_n 1, 1) := dgrp_at dg_c_23 16 rfl
theorem dX5_write_28 : decode cX5_write 28 = .ok (.iaload, 1) := dgrp_at dg_c_23 17 rfl
theorem dX5_write_29 : decode cX5_write 29 = .ok (.iconst 1, 1) := dgrp_at dg_c_23 18 rfl
theorem dX5_write_30 : decode cX5_write 30 = .ok (.isub, 1) := dgrp_at dg_c_23 19 rfl
theorem dX5_write_31 : decode cX5_write 31 = .ok (.i2l, 1) := dgrp_at dg_c_23 20 rfl
theorem dX5_write_32 : decode cX5_write 32 = .ok (.invokestatic 54, 3) := dgrp_at dg_c_23 21 rfl
theorem dX5_write_35 : decode cX5_write 35 = .ok (.ifCond .ne 11, 3) := dgrp_at dg_c_23 22 rfl
theorem dX5_write_38 : decode cX5_write 38 = .ok (.aload_n 0, 1) := dgrp_at dg_c_23 23 rfl
theorem dX5_write_39 : decode cX5_write 39 = .ok (.ldc 48, 2) := dgrp_at dg_c_23 24 rfl
theorem dX5_write_41 : decode cX5_write 41 = .ok (.invokevirtual 50, 3) := dgrp_at dg_c_23 25 rfl
theorem dX5_write_44 : decode cX5_write 44 = .ok (.i2l, 1) := dgrp_at dg_c_23 26 rfl
theorem dX5_write_45 : decode cX5_write 45 = .ok (.lreturn, 1) := dgrp_at dg_c_23 27 rfl
theorem dX5_write_46 : decode cX5_write 46 = .ok (.aload_n 0, 1) := dgrp_at dg_c_23 28 rfl
theorem dX5_write_47 : decode cX5_write 47 = .ok (.getfield 41, 3) := dgrp_at dg_c_23 29 rfl
theorem dX5_write_50 : decode cX5_write 50 = .ok (.bipush 40, 2) := dgrp_at dg_c_23 30 rfl
theorem dX5_write_52 : decode cX5_write 52 = .ok (.iload_n 1, 1) := dgrp_at dg_c_23 31 rfl
def dl_c_24 : List (Nat × Instr × Nat) := [(53, .imul, 1), (54, .iload_n 2, 1), (55, .iadd, 1), (56, .laload, 1), (57, .lstore 6, 2), (59, .aload_n 0, 1), (60, .getfield 41, 3), (63, .bipush 40, 2), (65, .iload_n 1, 1), (66, .imul, 1), (67, .iload_n 2, 1), (68, .iadd, 1), (69, .aload_n 0, 1), (70, .getfield 35, 3), (73, .iload_n 1, 1), (74, .iaload, 1), (75, .lload_n 3, 1), (76, .invokestatic 203, 3), (79, .lastore, 1), (80, .lload 6, 2), (82, .lreturn, 1)]
theorem dg_c_24 : dgrp cX5_write dl_c_24 = true := by decide +kernel
theorem dX5_write_53 : decode cX5_write 53 = .ok (.imul, 1) := dgrp_at dg_c_24 0 rfl
theorem dX5_write_54 : decode cX5_write 54 = .ok (.iload_n 2, 1) := dgrp_at dg_c_24 1 rfl
theorem dX5_write_55 : decode cX5_write 55 = .ok (.iadd, 1) := dgrp_at dg_c_24 2 rfl
theorem dX5_write_56 : decode cX5_write 56 = .ok (.laload, 1) := dgrp_at dg_c_24 3 rfl
theorem dX5_write_57 : decode cX5_write 57 = .ok (.lstore 6, 2) := dgrp_at dg_c_24 4 rfl
theorem dX5_write_59 : decode cX5_write 59 = .ok (.aload_n 0, 1) := dgrp_at dg_c_24 5 rfl
theorem dX5_write_60 : decode cX5_write 60 = .ok (.getfield 41, 3) := dgrp_at dg_c_24 6 rfl
theorem dX5_write_63 : decode cX5_write 63 = .ok (.bipush 40, 2) := dgrp_at dg_c_24 7 rfl
theorem dX5_write_65 : decode cX5_write 65 = .ok (.iload_n 1, 1) := dgrp_at dg_c_24 8 rfl
theorem dX5_write_66 : decode cX5_write 66 = .ok (.imul, 1) := dgrp_at dg_c_24 9 rfl
theorem dX5_write_67 : decode cX5_write 67 = .ok (.iload_n 2, 1) := dgrp_at dg_c_24 10 rfl
theorem dX5_write_68 : decode cX5_write 68 = .ok (.iadd, 1) := dgrp_at dg_c_24 11 rfl
theorem dX5_write_69 : decode cX5_write 69 = .ok (.aload_n 0, 1) := dgrp_at dg_c_24 12 rfl
theorem dX5_write_70 : decode cX5_write 70 = .ok (.getfield 35, 3) := dgrp_at dg_c_24 13 rfl
theorem dX5_write_73 : decode cX5_write 73 = .ok (.iload_n 1, 1) := dgrp_at dg_c_24 14 rfl
theorem dX5_write_74 : decode cX5_write 74 = .ok (.iaload, 1) := dgrp_at dg_c_24 15 rfl
theorem dX5_write_75 : decode cX5_write 75 = .ok (.lload_n 3, 1) := dgrp_at dg_c_24 16 rfl
theorem dX5_write_76 : decode cX5_write 76 = .ok (.invokestatic 203, 3) := dgrp_at dg_c_24 17 rfl
theorem dX5_write_79 : decode cX5_write 79 = .ok (.lastore, 1) := dgrp_at dg_c_24 18 rfl
theorem dX5_write_80 : decode cX5_write 80 = .ok (.lload 6, 2) := dgrp_at dg_c_24 19 rfl
theorem dX5_write_82 : decode cX5_write 82 = .ok (.lreturn, 1) := dgrp_at dg_c_24 20 rfl
def dl_c_25 : List (Nat × Instr × Nat) := [(0, .iload_n 1, 1), (1, .invokestatic 195, 3), (4, .ifCond .eq 10, 3), (7, .iload_n 3, 1), (8, .invokestatic 195, 3), (11, .ifCond .ne 10, 3), (14, .aload_n 0, 1), (15, .ldc 48, 2), (17, .invokevirtual 50, 3), (20, .ireturn, 1), (21, .aload_n 0, 1), (22, .getfield 35, 3), (25, .iload_n 1, 1), (26, .iaload, 1), (27, .ifCond .eq 12, 3), (30, .aload_n 0, 1), (31, .getfield 35, 3), (34, .iload_n 3, 1), (35, .iaload, 1), (36, .ifCond .ne 10, 3), (39, .aload_n 0, 1), (40, .ldc 199, 2), (42, .invokevirtual 50, 3), (45, .ireturn, 1), (46, .aload_n 0, 1), (47, .getfield 35, 3), (50, .iload_n 1, 1), (51, .iaload, 1), (52, .aload_n 0, 1), (53, .getfield 35, 3), (56, .iload_n 3, 1), (57, .iaload, 1)]
theorem dg_c_25 : dgrp cX5_copy dl_c_25 = true := by decide +kernel
theorem dX5_copy_0 : decode cX5_copy 0 = .ok (.iload_n 1, 1) := dgrp_at dg_c_25 0 rfl
theorem dX5_copy_1 : decode cX5_copy 1 = .ok (.invokestatic 195, 3) := dgrp_at dg_c_25 1 rfl
theorem dX5_copy_4 : decode cX5_copy 4 = .ok (.ifCond .eq 10, 3) := dgrp_at dg_c_25 2 rfl
theorem dX5_copy_7 : decode cX5_copy 7 = .ok (.iload_n 3, 1) := dgrp_at dg_c_25 3 rfl
theorem dX5_copy_8 : decode cX5_copy 8 = .ok (.invokestatic 195, 3) := dgrp_at dg_c_25 4 rfl
theorem dX5_copy_11 : decode cX5_copy 11 = .ok (.ifCond .ne 10, 3) := dgrp_at dg_c_25 5 rfl
theorem dX5_copy_14 : decode cX5_copy 14 = .ok (.aload_n 0, 1) := dgrp_at dg_c_25 6 rfl
theorem dX5_copy_15 : decode cX5_copy 15 = .ok (.ldc 48, 2) := dgrp_at dg_c_25 7 rfl
theorem dX5_copy_17 : decode cX5_copy 17 = .ok (.invokevirtual 50, 3) := dgrp_at dg_c_25 8 rfl
theorem dX5_copy_20 : decode cX5_copy 20 = .ok (.ireturn, 1) := dgrp_at dg_c_25 9 rfl
theorem dX5_copy_21 : decode cX5_copy 21 = .ok (.aload_n 0, 1) := dgrp_at dg_c_25 10 rfl
theorem dX5_copy_22 : decode cX5_copy 22 = .ok (.getfield 35, 3) := dgrp_at dg_c_25 11 rfl
theorem dX5_copy_25 : decode cX5_copy 25 = .ok (.iload_n 1, 1) := dgrp_at dg_c_25 12 rfl
theorem dX5_copy_26 : decode cX5_copy 26 = .ok (.iaload, 1) := dgrp_at dg_c_25 13 rfl
theorem dX5_copy_27 : decode cX5_copy 27 = .ok (.ifCond .eq 12, 3) := dgrp_at dg_c_25 14 rfl
theorem dX5_copy_30 : decode cX5_copy 30 = .ok (.aload_n 0, 1) := dgrp_at dg_c_25 15 rfl
theorem dX5_copy_31 : decode cX5_copy 31 = .ok (.getfield 35, 3) := dgrp_at dg_c_25 16 rfl
theorem dX5_copy_34 : decode cX5_copy 34 = .ok (.iload_n 3, 1) := dgrp_at dg_c_25 17 rfl
theorem dX5_copy_35 : decode cX5_copy 35 = .ok (.iaload, 1) := dgrp_at dg_c_25 18 rfl
theorem dX5_copy_36 : decode cX5_copy 36 = .ok (.ifCond .ne 10, 3) := dgrp_at dg_c_25 19 rfl
theorem dX5_copy_39 : decode cX5_copy 39 = .ok (.aload_n 0, 1) := dgrp_at dg_c_25 20 rfl
theorem dX5_copy_40 : decode cX5_copy 40 = .ok (.ldc 199, 2) := dgrp_at dg_c_25 21 rfl
theorem dX5_copy_42 : decode cX5_copy 42 = .ok (.invokevirtual 50, 3) := dgrp_at dg_c_25 22 rfl
theorem dX5_copy_45 : decode cX5_copy 45 = .ok (.ireturn, 1) := dgrp_at dg_c_25 23 rfl
theorem dX5_copy_46 : decode cX5_copy 46 = .ok (.aload_n 0, 1) := dgrp_at dg_c_25 24 rfl
theorem dX5_copy_47 : decode cX5_copy 47 = .ok (.getfield 35, 3) := dgrp_at dg_c_25 25 rfl
theorem dX5_copy_50 : decode cX5_copy 50 = .ok (.iload_n 1, 1) := dgrp_at dg_c_25 26 rfl
theorem dX5_copy_51 : decode cX5_copy 51 = .ok (.iaload, 1) := dgrp_at dg_c_25 27 rfl
theorem dX5_copy_52 : decode cX5_copy 52 = .ok (.aload_n 0, 1) := dgrp_at dg_c_25 28 rfl
theorem dX5_copy_53 : decode cX5_copy 53 = .ok (.getfield 35, 3) := dgrp_at dg_c_25 29 rfl
theorem dX5_copy_56 : decode cX5_copy 56 = .ok (.iload_n 3, 1) := dgrp_at dg_c_25 30 rfl
theorem dX5_copy_57 : decode cX5_copy 57 = .ok (.iaload, 1) := dgrp_at dg_c_25 31 rfl
def dl_c_26 : List (Nat × Instr × Nat) := [(58, .if_icmp .eq 10, 3), (61, .aload_n 0, 1), (62, .ldc 94, 2), (64, .invokevirtual 50, 3), (67, .ireturn, 1), (68, .iload_n 2, 1), (69, .ifCond .lt 40, 3), (72, .iload 4, 2), (74, .ifCond .lt 35, 3), (77, .iload 5, 2), (79, .ifCond .lt 30, 3), (82, .iload 5, 2), (84, .aload_n 0, 1), (85, .getfield 38, 3), (88, .iload_n 1, 1), (89, .iaload, 1), (90, .iload_n 2, 1), (91, .isub, 1), (92, .if_icmp .gt 17, 3), (95, .iload 5, 2), (97, .aload_n 0, 1), (98, .getfield 38, 3), (101, .iload_n 3, 1), (102, .iaload, 1), (103, .iload 4, 2), (105, .isub, 1), (106, .if_icmp .le 10, 3), (109, .aload_n 0, 1), (110, .ldc 48, 2), (112, .invokevirtual 50, 3), (115, .ireturn, 1), (116, .iconst 0, 1)]
theorem dg_c_26 : dgrp cX5_copy dl_c_26 = true := by decide +kernel
theorem dX5_copy_58 : decode cX5_copy 58 = .ok (.if_icmp .eq 10, 3) := dgrp_at dg_c_26 0 rfl
theorem dX5_copy_61 : decode cX5_copy 61 = .ok (.aload_n 0, 1) := dgrp_at dg_c_26 1 rfl
theorem dX5_copy_62 : decode cX5_copy 62 = .ok (.ldc 94, 2) := dgrp_at dg_c_26 2 rfl
theorem dX5_copy_64 : decode cX5_copy 64 = .ok (.invokevirtual 50, 3) := dgrp_at dg_c_26 3 rfl
theorem dX5_copy_67 : decode cX5_copy 67 = .ok (.ireturn, 1) := dgrp_at dg_c_26 4 rfl
theorem dX5_copy_68 : decode cX5_copy 68 = .ok (.iload_n 2, 1) := dgrp_at dg_c_26 5 rfl
theorem dX5_copy_69 : decode cX5_copy 69 = .ok (.ifCond .lt 40, 3) := dgrp_at dg_c_26 6 rfl
theorem dX5_copy_72 : decode cX5_copy 72 = .ok (.iload 4, 2) := dgrp_at dg_c_26 7 rfl
theorem dX5_copy_74 : decode cX5_copy 74 = .ok (.ifCond .lt 35, 3) := dgrp_at dg_c_26 8 rfl
theorem dX5_copy_77 : decode cX5_copy 77 = .ok (.iload 5, 2) := dgrp_at dg_c_26 9 rfl
theorem dX5_copy_79 : decode cX5_copy 79 = .ok (.ifCond .lt 30, 3) := dgrp_at dg_c_26 10 rfl
theorem dX5_copy_82 : decode cX5_copy 82 = .ok (.iload 5, 2) := dgrp_at dg_c_26 11 rfl
theorem dX5_copy_84 : decode cX5_copy 84 = .ok (.aload_n 0, 1) := dgrp_at dg_c_26 12 rfl
theorem dX5_copy_85 : decode cX5_copy 85 = .ok (.getfield 38, 3) := dgrp_at dg_c_26 13 rfl
theorem dX5_copy_88 : decode cX5_copy 88 = .ok (.iload_n 1, 1) := dgrp_at dg_c_26 14 rfl
theorem dX5_copy_89 : decode cX5_copy 89 = .ok (.iaload, 1) := dgrp_at dg_c_26 15 rfl
theorem dX5_copy_90 : decode cX5_copy 90 = .ok (.iload_n 2, 1) := dgrp_at dg_c_26 16 rfl
theorem dX5_copy_91 : decode cX5_copy 91 = .ok (.isub, 1) := dgrp_at dg_c_26 17 rfl
theorem dX5_copy_92 : decode cX5_copy 92 = .ok (.if_icmp .gt 17, 3) := dgrp_at dg_c_26 18 rfl
theorem dX5_copy_95 : decode cX5_copy 95 = .ok (.iload 5, 2) := dgrp_at dg_c_26 19 rfl
theorem dX5_copy_97 : decode cX5_copy 97 = .ok (.aload_n 0, 1) := dgrp_at dg_c_26 20 rfl
theorem dX5_copy_98 : decode cX5_copy 98 = .ok (.getfield 38, 3) := dgrp_at dg_c_26 21 rfl
theorem dX5_copy_101 : decode cX5_copy 101 = .ok (.iload_n 3, 1) := dgrp_at dg_c_26 22 rfl
theorem dX5_copy_102 : decode cX5_copy 102 = .ok (.iaload, 1) := dgrp_at dg_c_26 23 rfl
theorem dX5_copy_103 : decode cX5_copy 103 = .ok (.iload 4, 2) := dgrp_at dg_c_26 24 rfl
theorem dX5_copy_105 : decode cX5_copy 105 = .ok (.isub, 1) := dgrp_at dg_c_26 25 rfl
theorem dX5_copy_106 : decode cX5_copy 106 = .ok (.if_icmp .le 10, 3) := dgrp_at dg_c_26 26 rfl
theorem dX5_copy_109 : decode cX5_copy 109 = .ok (.aload_n 0, 1) := dgrp_at dg_c_26 27 rfl
theorem dX5_copy_110 : decode cX5_copy 110 = .ok (.ldc 48, 2) := dgrp_at dg_c_26 28 rfl
theorem dX5_copy_112 : decode cX5_copy 112 = .ok (.invokevirtual 50, 3) := dgrp_at dg_c_26 29 rfl
theorem dX5_copy_115 : decode cX5_copy 115 = .ok (.ireturn, 1) := dgrp_at dg_c_26 30 rfl
theorem dX5_copy_116 : decode cX5_copy 116 = .ok (.iconst 0, 1) := dgrp_at dg_c_26 31 rfl
def dl_c_27 : List (Nat × Instr × Nat) := [(117, .istore 6, 2), (119, .iload 6, 2), (121, .iload 5, 2), (123, .if_icmp .ge 30, 3), (126, .aload_n 0, 1), (127, .getfield 45, 3), (130, .iload 6, 2), (132, .aload_n 0, 1), (133, .getfield 41, 3), (136, .bipush 40, 2), (138, .iload_n 1, 1), (139, .imul, 1), (140, .iload_n 2, 1), (141, .iadd, 1), (142, .iload 6, 2), (144, .iadd, 1), (145, .laload, 1), (146, .lastore, 1), (147, .iinc 6 1, 3), (150, .goto (-31), 3), (153, .iconst 0, 1), (154, .istore 6, 2), (156, .iload 6, 2), (158, .iload 5, 2), (160, .if_icmp .ge 31, 3), (163, .aload_n 0, 1), (164, .getfield 41, 3), (167, .bipush 40, 2), (169, .iload_n 3, 1), (170, .imul, 1), (171, .iload 4, 2), (173, .iadd, 1)]
theorem dg_c_27 : dgrp cX5_copy dl_c_27 = true := by decide +kernel
theorem dX5_copy_117 : decode cX5_copy 117 = .ok (.istore 6, 2) := dgrp_at dg_c_27 0 rfl
theorem dX5_copy_119 : decode cX5_copy 119 = .ok (.iload 6, 2) := dgrp_at dg_c_27 1 rfl
theorem dX5_copy_121 : decode cX5_copy 121 = .ok (.iload 5, 2) := dgrp_at dg_c_27 2 rfl
theorem dX5_copy_123 : decode cX5_copy 123 = .ok (.if_icmp .ge 30, 3) := dgrp_at dg_c_27 3 rfl
theorem dX5_copy_126 : decode cX5_copy 126 = .ok (.aload_n 0, 1) := dgrp_at dg_c_27 4 rfl
theorem dX5_copy_127 : decode cX5_copy 127 = .ok (.getfield 45, 3) := dgrp_at dg_c_27 5 rfl
theorem dX5_copy_130 : decode cX5_copy 130 = .ok (.iload 6, 2) := dgrp_at dg_c_27 6 rfl
theorem dX5_copy_132 : decode cX5_copy 132 = .ok (.aload_n 0, 1) := dgrp_at dg_c_27 7 rfl
theorem dX5_copy_133 : decode cX5_copy 133 = .ok (.getfield 41, 3) := dgrp_at dg_c_27 8 rfl
theorem dX5_copy_136 : decode cX5_copy 136 = .ok (.bipush 40, 2) := dgrp_at dg_c_27 9 rfl
theorem dX5_copy_138 : decode cX5_copy 138 = .ok (.iload_n 1, 1) := dgrp_at dg_c_27 10 rfl
theorem dX5_copy_139 : decode cX5_copy 139 = .ok (.imul, 1) := dgrp_at dg_c_27 11 rfl
theorem dX5_copy_140 : decode cX5_copy 140 = .ok (.iload_n 2, 1) := dgrp_at dg_c_27 12 rfl
theorem dX5_copy_141 : decode cX5_copy 141 = .ok (.iadd, 1) := dgrp_at dg_c_27 13 rfl
theorem dX5_copy_142 : decode cX5_copy 142 = .ok (.iload 6, 2) := dgrp_at dg_c_27 14 rfl
theorem dX5_copy_144 : decode cX5_copy 144 = .ok (.iadd, 1) := dgrp_at dg_c_27 15 rfl
theorem dX5_copy_145 : decode cX5_copy 145 = .ok (.laload, 1) := dgrp_at dg_c_27 16 rfl
theorem dX5_copy_146 : decode cX5_copy 146 = .ok (.lastore, 1) := dgrp_at dg_c_27 17 rfl
theorem dX5_copy_147 : decode cX5_copy 147 = .ok (.iinc 6 1, 3) := dgrp_at dg_c_27 18 rfl
theorem dX5_copy_150 : decode cX5_copy 150 = .ok (.goto (-31), 3) := dgrp_at dg_c_27 19 rfl
theorem dX5_copy_153 : decode cX5_copy 153 = .ok (.iconst 0, 1) := dgrp_at dg_c_27 20 rfl
theorem dX5_copy_154 : decode cX5_copy 154 = .ok (.istore 6, 2) := dgrp_at dg_c_27 21 rfl
theorem dX5_copy_156 : decode cX5_copy 156 = .ok (.iload 6, 2) := dgrp_at dg_c_27 22 rfl
theorem dX5_copy_158 : decode cX5_copy 158 = .ok (.iload 5, 2) := dgrp_at dg_c_27 23 rfl
theorem dX5_copy_160 : decode cX5_copy 160 = .ok (.if_icmp .ge 31, 3) := dgrp_at dg_c_27 24 rfl
theorem dX5_copy_163 : decode cX5_copy 163 = .ok (.aload_n 0, 1) := dgrp_at dg_c_27 25 rfl
theorem dX5_copy_164 : decode cX5_copy 164 = .ok (.getfield 41, 3) := dgrp_at dg_c_27 26 rfl
theorem dX5_copy_167 : decode cX5_copy 167 = .ok (.bipush 40, 2) := dgrp_at dg_c_27 27 rfl
theorem dX5_copy_169 : decode cX5_copy 169 = .ok (.iload_n 3, 1) := dgrp_at dg_c_27 28 rfl
theorem dX5_copy_170 : decode cX5_copy 170 = .ok (.imul, 1) := dgrp_at dg_c_27 29 rfl
theorem dX5_copy_171 : decode cX5_copy 171 = .ok (.iload 4, 2) := dgrp_at dg_c_27 30 rfl
theorem dX5_copy_173 : decode cX5_copy 173 = .ok (.iadd, 1) := dgrp_at dg_c_27 31 rfl
def dl_c_28 : List (Nat × Instr × Nat) := [(174, .iload 6, 2), (176, .iadd, 1), (177, .aload_n 0, 1), (178, .getfield 45, 3), (181, .iload 6, 2), (183, .laload, 1), (184, .lastore, 1), (185, .iinc 6 1, 3), (188, .goto (-32), 3), (191, .iload 5, 2), (193, .ireturn, 1)]
theorem dg_c_28 : dgrp cX5_copy dl_c_28 = true := by decide +kernel
theorem dX5_copy_174 : decode cX5_copy 174 = .ok (.iload 6, 2) := dgrp_at dg_c_28 0 rfl
theorem dX5_copy_176 : decode cX5_copy 176 = .ok (.iadd, 1) := dgrp_at dg_c_28 1 rfl
theorem dX5_copy_177 : decode cX5_copy 177 = .ok (.aload_n 0, 1) := dgrp_at dg_c_28 2 rfl
theorem dX5_copy_178 : decode cX5_copy 178 = .ok (.getfield 45, 3) := dgrp_at dg_c_28 3 rfl
theorem dX5_copy_181 : decode cX5_copy 181 = .ok (.iload 6, 2) := dgrp_at dg_c_28 4 rfl
theorem dX5_copy_183 : decode cX5_copy 183 = .ok (.laload, 1) := dgrp_at dg_c_28 5 rfl
theorem dX5_copy_184 : decode cX5_copy 184 = .ok (.lastore, 1) := dgrp_at dg_c_28 6 rfl
theorem dX5_copy_185 : decode cX5_copy 185 = .ok (.iinc 6 1, 3) := dgrp_at dg_c_28 7 rfl
theorem dX5_copy_188 : decode cX5_copy 188 = .ok (.goto (-32), 3) := dgrp_at dg_c_28 8 rfl
theorem dX5_copy_191 : decode cX5_copy 191 = .ok (.iload 5, 2) := dgrp_at dg_c_28 9 rfl
theorem dX5_copy_193 : decode cX5_copy 193 = .ok (.ireturn, 1) := dgrp_at dg_c_28 10 rfl
def dl_c_29 : List (Nat × Instr × Nat) := [(0, .aload_n 0, 1), (1, .iload_n 1, 1), (2, .invokevirtual 200, 3), (5, .istore_n 2, 1), (6, .iload_n 2, 1), (7, .ifCond .eq 9, 3), (10, .aload_n 0, 1), (11, .iload_n 2, 1), (12, .invokevirtual 50, 3), (15, .ireturn, 1), (16, .iconst 0, 1), (17, .istore_n 3, 1), (18, .iconst 0, 1), (19, .istore 4, 2), (21, .iload 4, 2), (23, .aload_n 0, 1), (24, .getfield 7, 3), (27, .iconst 0, 1), (28, .iaload, 1), (29, .if_icmp .ge 48, 3), (32, .iload 4, 2), (34, .aload_n 0, 1), (35, .getfield 38, 3), (38, .iload_n 1, 1), (39, .iaload, 1), (40, .if_icmp .ge 37, 3), (43, .iload_n 3, 1), (44, .aload_n 0, 1), (45, .getfield 41, 3), (48, .bipush 40, 2), (50, .iload_n 1, 1), (51, .imul, 1)]
theorem dg_c_29 : dgrp cX5_lays dl_c_29 = true := by decide +kernel
theorem dX5_lays_0 : decode cX5_lays 0 = .ok (.aload_n 0, 1) := dgrp_at dg_c_29 0 rfl
theorem dX5_lays_1 : decode cX5_lays 1 = .ok (.iload_n 1, 1) := dgrp_at dg_c_29 1 rfl
theorem dX5_lays_2 : decode cX5_lays 2 = .ok (.invokevirtual 200, 3) := dgrp_at dg_c_29 2 rfl
theorem dX5_lays_5 : decode cX5_lays 5 = .ok (.istore_n 2, 1) := dgrp_at dg_c_29 3 rfl
theorem dX5_lays_6 : decode cX5_lays 6 = .ok (.iload_n 2, 1) := dgrp_at dg_c_29 4 rfl
theorem dX5_lays_7 : decode cX5_lays 7 = .ok (.ifCond .eq 9, 3) := dgrp_at dg_c_29 5 rfl
theorem dX5_lays_10 : decode cX5_lays 10 = .ok (.aload_n 0, 1) := dgrp_at dg_c_29 6 rfl
theorem dX5_lays_11 : decode cX5_lays 11 = .ok (.iload_n 2, 1) := dgrp_at dg_c_29 7 rfl
theorem dX5_lays_12 : decode cX5_lays 12 = .ok (.invokevirtual 50, 3) := dgrp_at dg_c_29 8 rfl
theorem dX5_lays_15 : decode cX5_lays 15 = .ok (.ireturn, 1) := dgrp_at dg_c_29 9 rfl
theorem dX5_lays_16 : decode cX5_lays 16 = .ok (.iconst 0, 1) := dgrp_at dg_c_29 10 rfl
theorem dX5_lays_17 : decode cX5_lays 17 = .ok (.istore_n 3, 1) := dgrp_at dg_c_29 11 rfl
theorem dX5_lays_18 : decode cX5_lays 18 = .ok (.iconst 0, 1) := dgrp_at dg_c_29 12 rfl
theorem dX5_lays_19 : decode cX5_lays 19 = .ok (.istore 4, 2) := dgrp_at dg_c_29 13 rfl
theorem dX5_lays_21 : decode cX5_lays 21 = .ok (.iload 4, 2) := dgrp_at dg_c_29 14 rfl
theorem dX5_lays_23 : decode cX5_lays 23 = .ok (.aload_n 0, 1) := dgrp_at dg_c_29 15 rfl
theorem dX5_lays_24 : decode cX5_lays 24 = .ok (.getfield 7, 3) := dgrp_at dg_c_29 16 rfl
theorem dX5_lays_27 : decode cX5_lays 27 = .ok (.iconst 0, 1) := dgrp_at dg_c_29 17 rfl
theorem dX5_lays_28 : decode cX5_lays 28 = .ok (.iaload, 1) := dgrp_at dg_c_29 18 rfl
theorem dX5_lays_29 : decode cX5_lays 29 = .ok (.if_icmp .ge 48, 3) := dgrp_at dg_c_29 19 rfl
theorem dX5_lays_32 : decode cX5_lays 32 = .ok (.iload 4, 2) := dgrp_at dg_c_29 20 rfl
theorem dX5_lays_34 : decode cX5_lays 34 = .ok (.aload_n 0, 1) := dgrp_at dg_c_29 21 rfl
theorem dX5_lays_35 : decode cX5_lays 35 = .ok (.getfield 38, 3) := dgrp_at dg_c_29 22 rfl
theorem dX5_lays_38 : decode cX5_lays 38 = .ok (.iload_n 1, 1) := dgrp_at dg_c_29 23 rfl
theorem dX5_lays_39 : decode cX5_lays 39 = .ok (.iaload, 1) := dgrp_at dg_c_29 24 rfl
theorem dX5_lays_40 : decode cX5_lays 40 = .ok (.if_icmp .ge 37, 3) := dgrp_at dg_c_29 25 rfl
theorem dX5_lays_43 : decode cX5_lays 43 = .ok (.iload_n 3, 1) := dgrp_at dg_c_29 26 rfl
theorem dX5_lays_44 : decode cX5_lays 44 = .ok (.aload_n 0, 1) := dgrp_at dg_c_29 27 rfl
theorem dX5_lays_45 : decode cX5_lays 45 = .ok (.getfield 41, 3) := dgrp_at dg_c_29 28 rfl
theorem dX5_lays_48 : decode cX5_lays 48 = .ok (.bipush 40, 2) := dgrp_at dg_c_29 29 rfl
theorem dX5_lays_50 : decode cX5_lays 50 = .ok (.iload_n 1, 1) := dgrp_at dg_c_29 30 rfl
theorem dX5_lays_51 : decode cX5_lays 51 = .ok (.imul, 1) := dgrp_at dg_c_29 31 rfl
def dl_c_30 : List (Nat × Instr × Nat) := [(52, .iload 4, 2), (54, .iadd, 1), (55, .laload, 1), (56, .lconst 0, 1), (57, .lcmp, 1), (58, .ifCond .eq 10, 3), (61, .iconst 1, 1), (62, .iload 4, 2), (64, .ishl, 1), (65, .goto 4, 3), (68, .iconst 0, 1), (69, .ior, 1), (70, .istore_n 3, 1), (71, .iinc 4 1, 3), (74, .goto (-53), 3), (77, .aload_n 0, 1), (78, .getfield 7, 3), (81, .iconst 1, 1), (82, .iload_n 3, 1), (83, .iastore, 1), (84, .iload_n 3, 1), (85, .ireturn, 1)]
theorem dg_c_30 : dgrp cX5_lays dl_c_30 = true := by decide +kernel
theorem dX5_lays_52 : decode cX5_lays 52 = .ok (.iload 4, 2) := dgrp_at dg_c_30 0 rfl
theorem dX5_lays_54 : decode cX5_lays 54 = .ok (.iadd, 1) := dgrp_at dg_c_30 1 rfl
theorem dX5_lays_55 : decode cX5_lays 55 = .ok (.laload, 1) := dgrp_at dg_c_30 2 rfl
theorem dX5_lays_56 : decode cX5_lays 56 = .ok (.lconst 0, 1) := dgrp_at dg_c_30 3 rfl
theorem dX5_lays_57 : decode cX5_lays 57 = .ok (.lcmp, 1) := dgrp_at dg_c_30 4 rfl
theorem dX5_lays_58 : decode cX5_lays 58 = .ok (.ifCond .eq 10, 3) := dgrp_at dg_c_30 5 rfl
theorem dX5_lays_61 : decode cX5_lays 61 = .ok (.iconst 1, 1) := dgrp_at dg_c_30 6 rfl
theorem dX5_lays_62 : decode cX5_lays 62 = .ok (.iload 4, 2) := dgrp_at dg_c_30 7 rfl
theorem dX5_lays_64 : decode cX5_lays 64 = .ok (.ishl, 1) := dgrp_at dg_c_30 8 rfl
theorem dX5_lays_65 : decode cX5_lays 65 = .ok (.goto 4, 3) := dgrp_at dg_c_30 9 rfl
theorem dX5_lays_68 : decode cX5_lays 68 = .ok (.iconst 0, 1) := dgrp_at dg_c_30 10 rfl
theorem dX5_lays_69 : decode cX5_lays 69 = .ok (.ior, 1) := dgrp_at dg_c_30 11 rfl
theorem dX5_lays_70 : decode cX5_lays 70 = .ok (.istore_n 3, 1) := dgrp_at dg_c_30 12 rfl
theorem dX5_lays_71 : decode cX5_lays 71 = .ok (.iinc 4 1, 3) := dgrp_at dg_c_30 13 rfl
theorem dX5_lays_74 : decode cX5_lays 74 = .ok (.goto (-53), 3) := dgrp_at dg_c_30 14 rfl
theorem dX5_lays_77 : decode cX5_lays 77 = .ok (.aload_n 0, 1) := dgrp_at dg_c_30 15 rfl
theorem dX5_lays_78 : decode cX5_lays 78 = .ok (.getfield 7, 3) := dgrp_at dg_c_30 16 rfl
theorem dX5_lays_81 : decode cX5_lays 81 = .ok (.iconst 1, 1) := dgrp_at dg_c_30 17 rfl
theorem dX5_lays_82 : decode cX5_lays 82 = .ok (.iload_n 3, 1) := dgrp_at dg_c_30 18 rfl
theorem dX5_lays_83 : decode cX5_lays 83 = .ok (.iastore, 1) := dgrp_at dg_c_30 19 rfl
theorem dX5_lays_84 : decode cX5_lays 84 = .ok (.iload_n 3, 1) := dgrp_at dg_c_30 20 rfl
theorem dX5_lays_85 : decode cX5_lays 85 = .ok (.ireturn, 1) := dgrp_at dg_c_30 21 rfl
def dl_c_31 : List (Nat × Instr × Nat) := [(0, .aload_n 0, 1), (1, .iload_n 1, 1), (2, .invokevirtual 200, 3), (5, .istore_n 2, 1), (6, .iload_n 2, 1), (7, .ifCond .eq 9, 3), (10, .aload_n 0, 1), (11, .iload_n 2, 1), (12, .invokevirtual 50, 3), (15, .ireturn, 1), (16, .aload_n 0, 1), (17, .getfield 7, 3), (20, .iconst 1, 1), (21, .iaload, 1), (22, .istore_n 3, 1), (23, .iconst 0, 1), (24, .istore 4, 2), (26, .iload 4, 2), (28, .aload_n 0, 1), (29, .getfield 38, 3), (32, .iload_n 1, 1), (33, .iaload, 1), (34, .if_icmp .ge 38, 3), (37, .aload_n 0, 1), (38, .getfield 41, 3), (41, .bipush 40, 2), (43, .iload_n 1, 1), (44, .imul, 1), (45, .iload 4, 2), (47, .iadd, 1), (48, .aload_n 0, 1), (49, .getfield 35, 3)]
theorem dg_c_31 : dgrp cX5_book dl_c_31 = true := by decide +kernel
theorem dX5_book_0 : decode cX5_book 0 = .ok (.aload_n 0, 1) := dgrp_at dg_c_31 0 rfl
theorem dX5_book_1 : decode cX5_book 1 = .ok (.iload_n 1, 1) := dgrp_at dg_c_31 1 rfl
theorem dX5_book_2 : decode cX5_book 2 = .ok (.invokevirtual 200, 3) := dgrp_at dg_c_31 2 rfl
theorem dX5_book_5 : decode cX5_book 5 = .ok (.istore_n 2, 1) := dgrp_at dg_c_31 3 rfl
theorem dX5_book_6 : decode cX5_book 6 = .ok (.iload_n 2, 1) := dgrp_at dg_c_31 4 rfl
theorem dX5_book_7 : decode cX5_book 7 = .ok (.ifCond .eq 9, 3) := dgrp_at dg_c_31 5 rfl
theorem dX5_book_10 : decode cX5_book 10 = .ok (.aload_n 0, 1) := dgrp_at dg_c_31 6 rfl
theorem dX5_book_11 : decode cX5_book 11 = .ok (.iload_n 2, 1) := dgrp_at dg_c_31 7 rfl
theorem dX5_book_12 : decode cX5_book 12 = .ok (.invokevirtual 50, 3) := dgrp_at dg_c_31 8 rfl
theorem dX5_book_15 : decode cX5_book 15 = .ok (.ireturn, 1) := dgrp_at dg_c_31 9 rfl
theorem dX5_book_16 : decode cX5_book 16 = .ok (.aload_n 0, 1) := dgrp_at dg_c_31 10 rfl
theorem dX5_book_17 : decode cX5_book 17 = .ok (.getfield 7, 3) := dgrp_at dg_c_31 11 rfl
theorem dX5_book_20 : decode cX5_book 20 = .ok (.iconst 1, 1) := dgrp_at dg_c_31 12 rfl
theorem dX5_book_21 : decode cX5_book 21 = .ok (.iaload, 1) := dgrp_at dg_c_31 13 rfl
theorem dX5_book_22 : decode cX5_book 22 = .ok (.istore_n 3, 1) := dgrp_at dg_c_31 14 rfl
theorem dX5_book_23 : decode cX5_book 23 = .ok (.iconst 0, 1) := dgrp_at dg_c_31 15 rfl
theorem dX5_book_24 : decode cX5_book 24 = .ok (.istore 4, 2) := dgrp_at dg_c_31 16 rfl
theorem dX5_book_26 : decode cX5_book 26 = .ok (.iload 4, 2) := dgrp_at dg_c_31 17 rfl
theorem dX5_book_28 : decode cX5_book 28 = .ok (.aload_n 0, 1) := dgrp_at dg_c_31 18 rfl
theorem dX5_book_29 : decode cX5_book 29 = .ok (.getfield 38, 3) := dgrp_at dg_c_31 19 rfl
theorem dX5_book_32 : decode cX5_book 32 = .ok (.iload_n 1, 1) := dgrp_at dg_c_31 20 rfl
theorem dX5_book_33 : decode cX5_book 33 = .ok (.iaload, 1) := dgrp_at dg_c_31 21 rfl
theorem dX5_book_34 : decode cX5_book 34 = .ok (.if_icmp .ge 38, 3) := dgrp_at dg_c_31 22 rfl
theorem dX5_book_37 : decode cX5_book 37 = .ok (.aload_n 0, 1) := dgrp_at dg_c_31 23 rfl
theorem dX5_book_38 : decode cX5_book 38 = .ok (.getfield 41, 3) := dgrp_at dg_c_31 24 rfl
theorem dX5_book_41 : decode cX5_book 41 = .ok (.bipush 40, 2) := dgrp_at dg_c_31 25 rfl
theorem dX5_book_43 : decode cX5_book 43 = .ok (.iload_n 1, 1) := dgrp_at dg_c_31 26 rfl
theorem dX5_book_44 : decode cX5_book 44 = .ok (.imul, 1) := dgrp_at dg_c_31 27 rfl
theorem dX5_book_45 : decode cX5_book 45 = .ok (.iload 4, 2) := dgrp_at dg_c_31 28 rfl
theorem dX5_book_47 : decode cX5_book 47 = .ok (.iadd, 1) := dgrp_at dg_c_31 29 rfl
theorem dX5_book_48 : decode cX5_book 48 = .ok (.aload_n 0, 1) := dgrp_at dg_c_31 30 rfl
theorem dX5_book_49 : decode cX5_book 49 = .ok (.getfield 35, 3) := dgrp_at dg_c_31 31 rfl
def dl_c_32 : List (Nat × Instr × Nat) := [(52, .iload_n 1, 1), (53, .iaload, 1), (54, .iload_n 3, 1), (55, .i2l, 1), (56, .invokestatic 203, 3), (59, .lastore, 1), (60, .aload_n 0, 1), (61, .iload_n 3, 1), (62, .invokevirtual 151, 3), (65, .istore_n 3, 1), (66, .iinc 4 1, 3), (69, .goto (-43), 3), (72, .aload_n 0, 1), (73, .getfield 38, 3), (76, .iload_n 1, 1), (77, .iaload, 1), (78, .ireturn, 1)]
theorem dg_c_32 : dgrp cX5_book dl_c_32 = true := by decide +kernel
theorem dX5_book_52 : decode cX5_book 52 = .ok (.iload_n 1, 1) := dgrp_at dg_c_32 0 rfl
theorem dX5_book_53 : decode cX5_book 53 = .ok (.iaload, 1) := dgrp_at dg_c_32 1 rfl
theorem dX5_book_54 : decode cX5_book 54 = .ok (.iload_n 3, 1) := dgrp_at dg_c_32 2 rfl
theorem dX5_book_55 : decode cX5_book 55 = .ok (.i2l, 1) := dgrp_at dg_c_32 3 rfl
theorem dX5_book_56 : decode cX5_book 56 = .ok (.invokestatic 203, 3) := dgrp_at dg_c_32 4 rfl
theorem dX5_book_59 : decode cX5_book 59 = .ok (.lastore, 1) := dgrp_at dg_c_32 5 rfl
theorem dX5_book_60 : decode cX5_book 60 = .ok (.aload_n 0, 1) := dgrp_at dg_c_32 6 rfl
theorem dX5_book_61 : decode cX5_book 61 = .ok (.iload_n 3, 1) := dgrp_at dg_c_32 7 rfl
theorem dX5_book_62 : decode cX5_book 62 = .ok (.invokevirtual 151, 3) := dgrp_at dg_c_32 8 rfl
theorem dX5_book_65 : decode cX5_book 65 = .ok (.istore_n 3, 1) := dgrp_at dg_c_32 9 rfl
theorem dX5_book_66 : decode cX5_book 66 = .ok (.iinc 4 1, 3) := dgrp_at dg_c_32 10 rfl
theorem dX5_book_69 : decode cX5_book 69 = .ok (.goto (-43), 3) := dgrp_at dg_c_32 11 rfl
theorem dX5_book_72 : decode cX5_book 72 = .ok (.aload_n 0, 1) := dgrp_at dg_c_32 12 rfl
theorem dX5_book_73 : decode cX5_book 73 = .ok (.getfield 38, 3) := dgrp_at dg_c_32 13 rfl
theorem dX5_book_76 : decode cX5_book 76 = .ok (.iload_n 1, 1) := dgrp_at dg_c_32 14 rfl
theorem dX5_book_77 : decode cX5_book 77 = .ok (.iaload, 1) := dgrp_at dg_c_32 15 rfl
theorem dX5_book_78 : decode cX5_book 78 = .ok (.ireturn, 1) := dgrp_at dg_c_32 16 rfl
def dl_c_33 : List (Nat × Instr × Nat) := [(0, .iconst 0, 1), (1, .istore_n 2, 1), (2, .iload_n 2, 1), (3, .aload_n 0, 1), (4, .getfield 38, 3), (7, .iload_n 1, 1), (8, .iaload, 1), (9, .if_icmp .ge 59, 3), (12, .aload_n 0, 1), (13, .getfield 41, 3), (16, .bipush 40, 2), (18, .iload_n 1, 1), (19, .imul, 1), (20, .iload_n 2, 1), (21, .iadd, 1), (22, .laload, 1), (23, .lstore_n 3, 1), (24, .aload_n 0, 1), (25, .lload_n 3, 1), (26, .invokevirtual 147, 3), (29, .ifCond .eq 31, 3), (32, .iload_n 2, 1), (33, .ifCond .le 29, 3), (36, .lload_n 3, 1), (37, .aload_n 0, 1), (38, .aload_n 0, 1), (39, .getfield 41, 3), (42, .bipush 40, 2), (44, .iload_n 1, 1), (45, .imul, 1), (46, .iload_n 2, 1), (47, .iadd, 1)]
theorem dg_c_33 : dgrp cX5_isRow dl_c_33 = true := by decide +kernel
theorem dX5_isRow_0 : decode cX5_isRow 0 = .ok (.iconst 0, 1) := dgrp_at dg_c_33 0 rfl
theorem dX5_isRow_1 : decode cX5_isRow 1 = .ok (.istore_n 2, 1) := dgrp_at dg_c_33 1 rfl
theorem dX5_isRow_2 : decode cX5_isRow 2 = .ok (.iload_n 2, 1) := dgrp_at dg_c_33 2 rfl
theorem dX5_isRow_3 : decode cX5_isRow 3 = .ok (.aload_n 0, 1) := dgrp_at dg_c_33 3 rfl
theorem dX5_isRow_4 : decode cX5_isRow 4 = .ok (.getfield 38, 3) := dgrp_at dg_c_33 4 rfl
theorem dX5_isRow_7 : decode cX5_isRow 7 = .ok (.iload_n 1, 1) := dgrp_at dg_c_33 5 rfl
theorem dX5_isRow_8 : decode cX5_isRow 8 = .ok (.iaload, 1) := dgrp_at dg_c_33 6 rfl
theorem dX5_isRow_9 : decode cX5_isRow 9 = .ok (.if_icmp .ge 59, 3) := dgrp_at dg_c_33 7 rfl
theorem dX5_isRow_12 : decode cX5_isRow 12 = .ok (.aload_n 0, 1) := dgrp_at dg_c_33 8 rfl
theorem dX5_isRow_13 : decode cX5_isRow 13 = .ok (.getfield 41, 3) := dgrp_at dg_c_33 9 rfl
theorem dX5_isRow_16 : decode cX5_isRow 16 = .ok (.bipush 40, 2) := dgrp_at dg_c_33 10 rfl
theorem dX5_isRow_18 : decode cX5_isRow 18 = .ok (.iload_n 1, 1) := dgrp_at dg_c_33 11 rfl
theorem dX5_isRow_19 : decode cX5_isRow 19 = .ok (.imul, 1) := dgrp_at dg_c_33 12 rfl
theorem dX5_isRow_20 : decode cX5_isRow 20 = .ok (.iload_n 2, 1) := dgrp_at dg_c_33 13 rfl
theorem dX5_isRow_21 : decode cX5_isRow 21 = .ok (.iadd, 1) := dgrp_at dg_c_33 14 rfl
theorem dX5_isRow_22 : decode cX5_isRow 22 = .ok (.laload, 1) := dgrp_at dg_c_33 15 rfl
theorem dX5_isRow_23 : decode cX5_isRow 23 = .ok (.lstore_n 3, 1) := dgrp_at dg_c_33 16 rfl
theorem dX5_isRow_24 : decode cX5_isRow 24 = .ok (.aload_n 0, 1) := dgrp_at dg_c_33 17 rfl
theorem dX5_isRow_25 : decode cX5_isRow 25 = .ok (.lload_n 3, 1) := dgrp_at dg_c_33 18 rfl
theorem dX5_isRow_26 : decode cX5_isRow 26 = .ok (.invokevirtual 147, 3) := dgrp_at dg_c_33 19 rfl
theorem dX5_isRow_29 : decode cX5_isRow 29 = .ok (.ifCond .eq 31, 3) := dgrp_at dg_c_33 20 rfl
theorem dX5_isRow_32 : decode cX5_isRow 32 = .ok (.iload_n 2, 1) := dgrp_at dg_c_33 21 rfl
theorem dX5_isRow_33 : decode cX5_isRow 33 = .ok (.ifCond .le 29, 3) := dgrp_at dg_c_33 22 rfl
theorem dX5_isRow_36 : decode cX5_isRow 36 = .ok (.lload_n 3, 1) := dgrp_at dg_c_33 23 rfl
theorem dX5_isRow_37 : decode cX5_isRow 37 = .ok (.aload_n 0, 1) := dgrp_at dg_c_33 24 rfl
theorem dX5_isRow_38 : decode cX5_isRow 38 = .ok (.aload_n 0, 1) := dgrp_at dg_c_33 25 rfl
theorem dX5_isRow_39 : decode cX5_isRow 39 = .ok (.getfield 41, 3) := dgrp_at dg_c_33 26 rfl
theorem dX5_isRow_42 : decode cX5_isRow 42 = .ok (.bipush 40, 2) := dgrp_at dg_c_33 27 rfl
theorem dX5_isRow_44 : decode cX5_isRow 44 = .ok (.iload_n 1, 1) := dgrp_at dg_c_33 28 rfl
theorem dX5_isRow_45 : decode cX5_isRow 45 = .ok (.imul, 1) := dgrp_at dg_c_33 29 rfl
theorem dX5_isRow_46 : decode cX5_isRow 46 = .ok (.iload_n 2, 1) := dgrp_at dg_c_33 30 rfl
theorem dX5_isRow_47 : decode cX5_isRow 47 = .ok (.iadd, 1) := dgrp_at dg_c_33 31 rfl
def dl_c_34 : List (Nat × Instr × Nat) := [(48, .iconst 1, 1), (49, .isub, 1), (50, .laload, 1), (51, .l2i, 1), (52, .invokevirtual 151, 3), (55, .i2l, 1), (56, .lcmp, 1), (57, .ifCond .eq 5, 3), (60, .iconst 0, 1), (61, .ireturn, 1), (62, .iinc 2 1, 3), (65, .goto (-63), 3), (68, .iconst 1, 1), (69, .ireturn, 1)]
theorem dg_c_34 : dgrp cX5_isRow dl_c_34 = true := by decide +kernel
theorem dX5_isRow_48 : decode cX5_isRow 48 = .ok (.iconst 1, 1) := dgrp_at dg_c_34 0 rfl
theorem dX5_isRow_49 : decode cX5_isRow 49 = .ok (.isub, 1) := dgrp_at dg_c_34 1 rfl
theorem dX5_isRow_50 : decode cX5_isRow 50 = .ok (.laload, 1) := dgrp_at dg_c_34 2 rfl
theorem dX5_isRow_51 : decode cX5_isRow 51 = .ok (.l2i, 1) := dgrp_at dg_c_34 3 rfl
theorem dX5_isRow_52 : decode cX5_isRow 52 = .ok (.invokevirtual 151, 3) := dgrp_at dg_c_34 4 rfl
theorem dX5_isRow_55 : decode cX5_isRow 55 = .ok (.i2l, 1) := dgrp_at dg_c_34 5 rfl
theorem dX5_isRow_56 : decode cX5_isRow 56 = .ok (.lcmp, 1) := dgrp_at dg_c_34 6 rfl
theorem dX5_isRow_57 : decode cX5_isRow 57 = .ok (.ifCond .eq 5, 3) := dgrp_at dg_c_34 7 rfl
theorem dX5_isRow_60 : decode cX5_isRow 60 = .ok (.iconst 0, 1) := dgrp_at dg_c_34 8 rfl
theorem dX5_isRow_61 : decode cX5_isRow 61 = .ok (.ireturn, 1) := dgrp_at dg_c_34 9 rfl
theorem dX5_isRow_62 : decode cX5_isRow 62 = .ok (.iinc 2 1, 3) := dgrp_at dg_c_34 10 rfl
theorem dX5_isRow_65 : decode cX5_isRow 65 = .ok (.goto (-63), 3) := dgrp_at dg_c_34 11 rfl
theorem dX5_isRow_68 : decode cX5_isRow 68 = .ok (.iconst 1, 1) := dgrp_at dg_c_34 12 rfl
theorem dX5_isRow_69 : decode cX5_isRow 69 = .ok (.ireturn, 1) := dgrp_at dg_c_34 13 rfl
def dl_c_35 : List (Nat × Instr × Nat) := [(0, .aload_n 0, 1), (1, .iload_n 1, 1), (2, .invokevirtual 200, 3), (5, .istore_n 2, 1), (6, .iload_n 2, 1), (7, .ifCond .eq 9, 3), (10, .aload_n 0, 1), (11, .iload_n 2, 1), (12, .invokevirtual 50, 3), (15, .ireturn, 1), (16, .iconst 0, 1), (17, .istore_n 3, 1), (18, .iconst 0, 1), (19, .istore 4, 2), (21, .iload 4, 2), (23, .aload_n 0, 1), (24, .getfield 7, 3), (27, .iconst 0, 1), (28, .iaload, 1), (29, .if_icmp .ge 76, 3), (32, .aload_n 0, 1), (33, .iload 4, 2), (35, .iconst 0, 1), (36, .invokevirtual 70, 3), (39, .istore 5, 2), (41, .iconst 0, 1), (42, .istore 6, 2), (44, .iload 6, 2), (46, .bipush 6, 2), (48, .if_icmp .ge 38, 3), (51, .aload_n 0, 1), (52, .getfield 7, 3)]
theorem dg_c_35 : dgrp cX5_read dl_c_35 = true := by decide +kernel
theorem dX5_read_0 : decode cX5_read 0 = .ok (.aload_n 0, 1) := dgrp_at dg_c_35 0 rfl
theorem dX5_read_1 : decode cX5_read 1 = .ok (.iload_n 1, 1) := dgrp_at dg_c_35 1 rfl
theorem dX5_read_2 : decode cX5_read 2 = .ok (.invokevirtual 200, 3) := dgrp_at dg_c_35 2 rfl
theorem dX5_read_5 : decode cX5_read 5 = .ok (.istore_n 2, 1) := dgrp_at dg_c_35 3 rfl
theorem dX5_read_6 : decode cX5_read 6 = .ok (.iload_n 2, 1) := dgrp_at dg_c_35 4 rfl
theorem dX5_read_7 : decode cX5_read 7 = .ok (.ifCond .eq 9, 3) := dgrp_at dg_c_35 5 rfl
theorem dX5_read_10 : decode cX5_read 10 = .ok (.aload_n 0, 1) := dgrp_at dg_c_35 6 rfl
theorem dX5_read_11 : decode cX5_read 11 = .ok (.iload_n 2, 1) := dgrp_at dg_c_35 7 rfl
theorem dX5_read_12 : decode cX5_read 12 = .ok (.invokevirtual 50, 3) := dgrp_at dg_c_35 8 rfl
theorem dX5_read_15 : decode cX5_read 15 = .ok (.ireturn, 1) := dgrp_at dg_c_35 9 rfl
theorem dX5_read_16 : decode cX5_read 16 = .ok (.iconst 0, 1) := dgrp_at dg_c_35 10 rfl
theorem dX5_read_17 : decode cX5_read 17 = .ok (.istore_n 3, 1) := dgrp_at dg_c_35 11 rfl
theorem dX5_read_18 : decode cX5_read 18 = .ok (.iconst 0, 1) := dgrp_at dg_c_35 12 rfl
theorem dX5_read_19 : decode cX5_read 19 = .ok (.istore 4, 2) := dgrp_at dg_c_35 13 rfl
theorem dX5_read_21 : decode cX5_read 21 = .ok (.iload 4, 2) := dgrp_at dg_c_35 14 rfl
theorem dX5_read_23 : decode cX5_read 23 = .ok (.aload_n 0, 1) := dgrp_at dg_c_35 15 rfl
theorem dX5_read_24 : decode cX5_read 24 = .ok (.getfield 7, 3) := dgrp_at dg_c_35 16 rfl
theorem dX5_read_27 : decode cX5_read 27 = .ok (.iconst 0, 1) := dgrp_at dg_c_35 17 rfl
theorem dX5_read_28 : decode cX5_read 28 = .ok (.iaload, 1) := dgrp_at dg_c_35 18 rfl
theorem dX5_read_29 : decode cX5_read 29 = .ok (.if_icmp .ge 76, 3) := dgrp_at dg_c_35 19 rfl
theorem dX5_read_32 : decode cX5_read 32 = .ok (.aload_n 0, 1) := dgrp_at dg_c_35 20 rfl
theorem dX5_read_33 : decode cX5_read 33 = .ok (.iload 4, 2) := dgrp_at dg_c_35 21 rfl
theorem dX5_read_35 : decode cX5_read 35 = .ok (.iconst 0, 1) := dgrp_at dg_c_35 22 rfl
theorem dX5_read_36 : decode cX5_read 36 = .ok (.invokevirtual 70, 3) := dgrp_at dg_c_35 23 rfl
theorem dX5_read_39 : decode cX5_read 39 = .ok (.istore 5, 2) := dgrp_at dg_c_35 24 rfl
theorem dX5_read_41 : decode cX5_read 41 = .ok (.iconst 0, 1) := dgrp_at dg_c_35 25 rfl
theorem dX5_read_42 : decode cX5_read 42 = .ok (.istore 6, 2) := dgrp_at dg_c_35 26 rfl
theorem dX5_read_44 : decode cX5_read 44 = .ok (.iload 6, 2) := dgrp_at dg_c_35 27 rfl
theorem dX5_read_46 : decode cX5_read 46 = .ok (.bipush 6, 2) := dgrp_at dg_c_35 28 rfl
theorem dX5_read_48 : decode cX5_read 48 = .ok (.if_icmp .ge 38, 3) := dgrp_at dg_c_35 29 rfl
theorem dX5_read_51 : decode cX5_read 51 = .ok (.aload_n 0, 1) := dgrp_at dg_c_35 30 rfl
theorem dX5_read_52 : decode cX5_read 52 = .ok (.getfield 7, 3) := dgrp_at dg_c_35 31 rfl
def dl_c_36 : List (Nat × Instr × Nat) := [(55, .iconst 2, 1), (56, .iconst 3, 1), (57, .iload 4, 2), (59, .imul, 1), (60, .iadd, 1), (61, .iload 6, 2), (63, .iastore, 1), (64, .iload_n 3, 1), (65, .aload_n 0, 1), (66, .iload_n 1, 1), (67, .invokevirtual 207, 3), (70, .ifCond .eq 7, 3), (73, .iconst 1, 1), (74, .goto 4, 3), (77, .iconst 0, 1), (78, .iadd, 1), (79, .istore_n 3, 1), (80, .iinc 6 1, 3), (83, .goto (-39), 3), (86, .aload_n 0, 1), (87, .getfield 7, 3), (90, .iconst 2, 1), (91, .iconst 3, 1), (92, .iload 4, 2), (94, .imul, 1), (95, .iadd, 1), (96, .iload 5, 2), (98, .iastore, 1), (99, .iinc 4 1, 3), (102, .goto (-81), 3), (105, .iload_n 3, 1), (106, .ireturn, 1)]
theorem dg_c_36 : dgrp cX5_read dl_c_36 = true := by decide +kernel
theorem dX5_read_55 : decode cX5_read 55 = .ok (.iconst 2, 1) := dgrp_at dg_c_36 0 rfl
theorem dX5_read_56 : decode cX5_read 56 = .ok (.iconst 3, 1) := dgrp_at dg_c_36 1 rfl
theorem dX5_read_57 : decode cX5_read 57 = .ok (.iload 4, 2) := dgrp_at dg_c_36 2 rfl
theorem dX5_read_59 : decode cX5_read 59 = .ok (.imul, 1) := dgrp_at dg_c_36 3 rfl
theorem dX5_read_60 : decode cX5_read 60 = .ok (.iadd, 1) := dgrp_at dg_c_36 4 rfl
theorem dX5_read_61 : decode cX5_read 61 = .ok (.iload 6, 2) := dgrp_at dg_c_36 5 rfl
theorem dX5_read_63 : decode cX5_read 63 = .ok (.iastore, 1) := dgrp_at dg_c_36 6 rfl
theorem dX5_read_64 : decode cX5_read 64 = .ok (.iload_n 3, 1) := dgrp_at dg_c_36 7 rfl
theorem dX5_read_65 : decode cX5_read 65 = .ok (.aload_n 0, 1) := dgrp_at dg_c_36 8 rfl
theorem dX5_read_66 : decode cX5_read 66 = .ok (.iload_n 1, 1) := dgrp_at dg_c_36 9 rfl
theorem dX5_read_67 : decode cX5_read 67 = .ok (.invokevirtual 207, 3) := dgrp_at dg_c_36 10 rfl
theorem dX5_read_70 : decode cX5_read 70 = .ok (.ifCond .eq 7, 3) := dgrp_at dg_c_36 11 rfl
theorem dX5_read_73 : decode cX5_read 73 = .ok (.iconst 1, 1) := dgrp_at dg_c_36 12 rfl
theorem dX5_read_74 : decode cX5_read 74 = .ok (.goto 4, 3) := dgrp_at dg_c_36 13 rfl
theorem dX5_read_77 : decode cX5_read 77 = .ok (.iconst 0, 1) := dgrp_at dg_c_36 14 rfl
theorem dX5_read_78 : decode cX5_read 78 = .ok (.iadd, 1) := dgrp_at dg_c_36 15 rfl
theorem dX5_read_79 : decode cX5_read 79 = .ok (.istore_n 3, 1) := dgrp_at dg_c_36 16 rfl
theorem dX5_read_80 : decode cX5_read 80 = .ok (.iinc 6 1, 3) := dgrp_at dg_c_36 17 rfl
theorem dX5_read_83 : decode cX5_read 83 = .ok (.goto (-39), 3) := dgrp_at dg_c_36 18 rfl
theorem dX5_read_86 : decode cX5_read 86 = .ok (.aload_n 0, 1) := dgrp_at dg_c_36 19 rfl
theorem dX5_read_87 : decode cX5_read 87 = .ok (.getfield 7, 3) := dgrp_at dg_c_36 20 rfl
theorem dX5_read_90 : decode cX5_read 90 = .ok (.iconst 2, 1) := dgrp_at dg_c_36 21 rfl
theorem dX5_read_91 : decode cX5_read 91 = .ok (.iconst 3, 1) := dgrp_at dg_c_36 22 rfl
theorem dX5_read_92 : decode cX5_read 92 = .ok (.iload 4, 2) := dgrp_at dg_c_36 23 rfl
theorem dX5_read_94 : decode cX5_read 94 = .ok (.imul, 1) := dgrp_at dg_c_36 24 rfl
theorem dX5_read_95 : decode cX5_read 95 = .ok (.iadd, 1) := dgrp_at dg_c_36 25 rfl
theorem dX5_read_96 : decode cX5_read 96 = .ok (.iload 5, 2) := dgrp_at dg_c_36 26 rfl
theorem dX5_read_98 : decode cX5_read 98 = .ok (.iastore, 1) := dgrp_at dg_c_36 27 rfl
theorem dX5_read_99 : decode cX5_read 99 = .ok (.iinc 4 1, 3) := dgrp_at dg_c_36 28 rfl
theorem dX5_read_102 : decode cX5_read 102 = .ok (.goto (-81), 3) := dgrp_at dg_c_36 29 rfl
theorem dX5_read_105 : decode cX5_read 105 = .ok (.iload_n 3, 1) := dgrp_at dg_c_36 30 rfl
theorem dX5_read_106 : decode cX5_read 106 = .ok (.ireturn, 1) := dgrp_at dg_c_36 31 rfl
def dl_c_37 : List (Nat × Instr × Nat) := [(0, .iconst 0, 1), (1, .istore_n 1, 1), (2, .iload_n 1, 1), (3, .sipush 538, 3), (6, .if_icmp .ge 21, 3), (9, .aload_n 0, 1), (10, .getfield 13, 3), (13, .iload_n 1, 1), (14, .aload_n 0, 1), (15, .getfield 7, 3), (18, .iload_n 1, 1), (19, .iaload, 1), (20, .iastore, 1), (21, .iinc 1 1, 3), (24, .goto (-22), 3), (27, .aload_n 0, 1), (28, .iconst 1, 1), (29, .putfield 210, 3), (32, .iconst 1, 1), (33, .ireturn, 1)]
theorem dg_c_37 : dgrp cX5_image dl_c_37 = true := by decide +kernel
theorem dX5_image_0 : decode cX5_image 0 = .ok (.iconst 0, 1) := dgrp_at dg_c_37 0 rfl
theorem dX5_image_1 : decode cX5_image 1 = .ok (.istore_n 1, 1) := dgrp_at dg_c_37 1 rfl
theorem dX5_image_2 : decode cX5_image 2 = .ok (.iload_n 1, 1) := dgrp_at dg_c_37 2 rfl
theorem dX5_image_3 : decode cX5_image 3 = .ok (.sipush 538, 3) := dgrp_at dg_c_37 3 rfl
theorem dX5_image_6 : decode cX5_image 6 = .ok (.if_icmp .ge 21, 3) := dgrp_at dg_c_37 4 rfl
theorem dX5_image_9 : decode cX5_image 9 = .ok (.aload_n 0, 1) := dgrp_at dg_c_37 5 rfl
theorem dX5_image_10 : decode cX5_image 10 = .ok (.getfield 13, 3) := dgrp_at dg_c_37 6 rfl
theorem dX5_image_13 : decode cX5_image 13 = .ok (.iload_n 1, 1) := dgrp_at dg_c_37 7 rfl
theorem dX5_image_14 : decode cX5_image 14 = .ok (.aload_n 0, 1) := dgrp_at dg_c_37 8 rfl
theorem dX5_image_15 : decode cX5_image 15 = .ok (.getfield 7, 3) := dgrp_at dg_c_37 9 rfl
theorem dX5_image_18 : decode cX5_image 18 = .ok (.iload_n 1, 1) := dgrp_at dg_c_37 10 rfl
theorem dX5_image_19 : decode cX5_image 19 = .ok (.iaload, 1) := dgrp_at dg_c_37 11 rfl
theorem dX5_image_20 : decode cX5_image 20 = .ok (.iastore, 1) := dgrp_at dg_c_37 12 rfl
theorem dX5_image_21 : decode cX5_image 21 = .ok (.iinc 1 1, 3) := dgrp_at dg_c_37 13 rfl
theorem dX5_image_24 : decode cX5_image 24 = .ok (.goto (-22), 3) := dgrp_at dg_c_37 14 rfl
theorem dX5_image_27 : decode cX5_image 27 = .ok (.aload_n 0, 1) := dgrp_at dg_c_37 15 rfl
theorem dX5_image_28 : decode cX5_image 28 = .ok (.iconst 1, 1) := dgrp_at dg_c_37 16 rfl
theorem dX5_image_29 : decode cX5_image 29 = .ok (.putfield 210, 3) := dgrp_at dg_c_37 17 rfl
theorem dX5_image_32 : decode cX5_image 32 = .ok (.iconst 1, 1) := dgrp_at dg_c_37 18 rfl
theorem dX5_image_33 : decode cX5_image 33 = .ok (.ireturn, 1) := dgrp_at dg_c_37 19 rfl
def dl_c_38 : List (Nat × Instr × Nat) := [(0, .aload_n 0, 1), (1, .getfield 210, 3), (4, .ifCond .ne 10, 3), (7, .aload_n 0, 1), (8, .ldc 49, 2), (10, .invokevirtual 50, 3), (13, .ireturn, 1), (14, .iconst 0, 1), (15, .istore_n 1, 1), (16, .iload_n 1, 1), (17, .sipush 538, 3), (20, .if_icmp .ge 21, 3), (23, .aload_n 0, 1), (24, .getfield 7, 3), (27, .iload_n 1, 1), (28, .aload_n 0, 1), (29, .getfield 13, 3), (32, .iload_n 1, 1), (33, .iaload, 1), (34, .iastore, 1), (35, .iinc 1 1, 3), (38, .goto (-22), 3), (41, .aload_n 0, 1), (42, .getfield 7, 3), (45, .iconst 0, 1), (46, .iaload, 1), (47, .ireturn, 1)]
theorem dg_c_38 : dgrp cX5_undo dl_c_38 = true := by decide +kernel
theorem dX5_undo_0 : decode cX5_undo 0 = .ok (.aload_n 0, 1) := dgrp_at dg_c_38 0 rfl
theorem dX5_undo_1 : decode cX5_undo 1 = .ok (.getfield 210, 3) := dgrp_at dg_c_38 1 rfl
theorem dX5_undo_4 : decode cX5_undo 4 = .ok (.ifCond .ne 10, 3) := dgrp_at dg_c_38 2 rfl
theorem dX5_undo_7 : decode cX5_undo 7 = .ok (.aload_n 0, 1) := dgrp_at dg_c_38 3 rfl
theorem dX5_undo_8 : decode cX5_undo 8 = .ok (.ldc 49, 2) := dgrp_at dg_c_38 4 rfl
theorem dX5_undo_10 : decode cX5_undo 10 = .ok (.invokevirtual 50, 3) := dgrp_at dg_c_38 5 rfl
theorem dX5_undo_13 : decode cX5_undo 13 = .ok (.ireturn, 1) := dgrp_at dg_c_38 6 rfl
theorem dX5_undo_14 : decode cX5_undo 14 = .ok (.iconst 0, 1) := dgrp_at dg_c_38 7 rfl
theorem dX5_undo_15 : decode cX5_undo 15 = .ok (.istore_n 1, 1) := dgrp_at dg_c_38 8 rfl
theorem dX5_undo_16 : decode cX5_undo 16 = .ok (.iload_n 1, 1) := dgrp_at dg_c_38 9 rfl
theorem dX5_undo_17 : decode cX5_undo 17 = .ok (.sipush 538, 3) := dgrp_at dg_c_38 10 rfl
theorem dX5_undo_20 : decode cX5_undo 20 = .ok (.if_icmp .ge 21, 3) := dgrp_at dg_c_38 11 rfl
theorem dX5_undo_23 : decode cX5_undo 23 = .ok (.aload_n 0, 1) := dgrp_at dg_c_38 12 rfl
theorem dX5_undo_24 : decode cX5_undo 24 = .ok (.getfield 7, 3) := dgrp_at dg_c_38 13 rfl
theorem dX5_undo_27 : decode cX5_undo 27 = .ok (.iload_n 1, 1) := dgrp_at dg_c_38 14 rfl
theorem dX5_undo_28 : decode cX5_undo 28 = .ok (.aload_n 0, 1) := dgrp_at dg_c_38 15 rfl
theorem dX5_undo_29 : decode cX5_undo 29 = .ok (.getfield 13, 3) := dgrp_at dg_c_38 16 rfl
theorem dX5_undo_32 : decode cX5_undo 32 = .ok (.iload_n 1, 1) := dgrp_at dg_c_38 17 rfl
theorem dX5_undo_33 : decode cX5_undo 33 = .ok (.iaload, 1) := dgrp_at dg_c_38 18 rfl
theorem dX5_undo_34 : decode cX5_undo 34 = .ok (.iastore, 1) := dgrp_at dg_c_38 19 rfl
theorem dX5_undo_35 : decode cX5_undo 35 = .ok (.iinc 1 1, 3) := dgrp_at dg_c_38 20 rfl
theorem dX5_undo_38 : decode cX5_undo 38 = .ok (.goto (-22), 3) := dgrp_at dg_c_38 21 rfl
theorem dX5_undo_41 : decode cX5_undo 41 = .ok (.aload_n 0, 1) := dgrp_at dg_c_38 22 rfl
theorem dX5_undo_42 : decode cX5_undo 42 = .ok (.getfield 7, 3) := dgrp_at dg_c_38 23 rfl
theorem dX5_undo_45 : decode cX5_undo 45 = .ok (.iconst 0, 1) := dgrp_at dg_c_38 24 rfl
theorem dX5_undo_46 : decode cX5_undo 46 = .ok (.iaload, 1) := dgrp_at dg_c_38 25 rfl
theorem dX5_undo_47 : decode cX5_undo 47 = .ok (.ireturn, 1) := dgrp_at dg_c_38 26 rfl
def dl_c_39 : List (Nat × Instr × Nat) := [(0, .aload_n 0, 1), (1, .getfield 210, 3), (4, .ifCond .eq 7, 3), (7, .iconst 1, 1), (8, .goto 4, 3), (11, .iconst 0, 1), (12, .istore_n 1, 1), (13, .aload_n 0, 1), (14, .iconst 0, 1), (15, .putfield 210, 3), (18, .iload_n 1, 1), (19, .ireturn, 1)]
theorem dg_c_39 : dgrp cX5_tear dl_c_39 = true := by decide +kernel
theorem dX5_tear_0 : decode cX5_tear 0 = .ok (.aload_n 0, 1) := dgrp_at dg_c_39 0 rfl
theorem dX5_tear_1 : decode cX5_tear 1 = .ok (.getfield 210, 3) := dgrp_at dg_c_39 1 rfl
theorem dX5_tear_4 : decode cX5_tear 4 = .ok (.ifCond .eq 7, 3) := dgrp_at dg_c_39 2 rfl
theorem dX5_tear_7 : decode cX5_tear 7 = .ok (.iconst 1, 1) := dgrp_at dg_c_39 3 rfl
theorem dX5_tear_8 : decode cX5_tear 8 = .ok (.goto 4, 3) := dgrp_at dg_c_39 4 rfl
theorem dX5_tear_11 : decode cX5_tear 11 = .ok (.iconst 0, 1) := dgrp_at dg_c_39 5 rfl
theorem dX5_tear_12 : decode cX5_tear 12 = .ok (.istore_n 1, 1) := dgrp_at dg_c_39 6 rfl
theorem dX5_tear_13 : decode cX5_tear 13 = .ok (.aload_n 0, 1) := dgrp_at dg_c_39 7 rfl
theorem dX5_tear_14 : decode cX5_tear 14 = .ok (.iconst 0, 1) := dgrp_at dg_c_39 8 rfl
theorem dX5_tear_15 : decode cX5_tear 15 = .ok (.putfield 210, 3) := dgrp_at dg_c_39 9 rfl
theorem dX5_tear_18 : decode cX5_tear 18 = .ok (.iload_n 1, 1) := dgrp_at dg_c_39 10 rfl
theorem dX5_tear_19 : decode cX5_tear 19 = .ok (.ireturn, 1) := dgrp_at dg_c_39 11 rfl
def dl_c_40 : List (Nat × Instr × Nat) := [(0, .iconst 0, 1), (1, .istore_n 2, 1), (2, .iconst 0, 1), (3, .istore_n 3, 1), (4, .iload_n 3, 1), (5, .aload_n 0, 1), (6, .getfield 7, 3), (9, .iconst 0, 1), (10, .iaload, 1), (11, .if_icmp .ge 28, 3), (14, .iload_n 2, 1), (15, .aload_n 0, 1), (16, .iload_n 3, 1), (17, .iconst 2, 1), (18, .invokevirtual 70, 3), (21, .ifCond .le 9, 3), (24, .iconst 1, 1), (25, .iload_n 3, 1), (26, .ishl, 1), (27, .goto 4, 3), (30, .iconst 0, 1), (31, .ior, 1), (32, .istore_n 2, 1), (33, .iinc 3 1, 3), (36, .goto (-32), 3), (39, .iload_n 1, 1), (72, .aload_n 0, 1), (73, .getfield 7, 3), (76, .iconst 0, 1), (77, .iaload, 1), (78, .ireturn, 1), (79, .aload_n 0, 1)]
theorem dg_c_40 : dgrp cX5_count dl_c_40 = true := by decide +kernel
theorem dX5_count_0 : decode cX5_count 0 = .ok (.iconst 0, 1) := dgrp_at dg_c_40 0 rfl
theorem dX5_count_1 : decode cX5_count 1 = .ok (.istore_n 2, 1) := dgrp_at dg_c_40 1 rfl
theorem dX5_count_2 : decode cX5_count 2 = .ok (.iconst 0, 1) := dgrp_at dg_c_40 2 rfl
theorem dX5_count_3 : decode cX5_count 3 = .ok (.istore_n 3, 1) := dgrp_at dg_c_40 3 rfl
theorem dX5_count_4 : decode cX5_count 4 = .ok (.iload_n 3, 1) := dgrp_at dg_c_40 4 rfl
theorem dX5_count_5 : decode cX5_count 5 = .ok (.aload_n 0, 1) := dgrp_at dg_c_40 5 rfl
theorem dX5_count_6 : decode cX5_count 6 = .ok (.getfield 7, 3) := dgrp_at dg_c_40 6 rfl
theorem dX5_count_9 : decode cX5_count 9 = .ok (.iconst 0, 1) := dgrp_at dg_c_40 7 rfl
theorem dX5_count_10 : decode cX5_count 10 = .ok (.iaload, 1) := dgrp_at dg_c_40 8 rfl
theorem dX5_count_11 : decode cX5_count 11 = .ok (.if_icmp .ge 28, 3) := dgrp_at dg_c_40 9 rfl
theorem dX5_count_14 : decode cX5_count 14 = .ok (.iload_n 2, 1) := dgrp_at dg_c_40 10 rfl
theorem dX5_count_15 : decode cX5_count 15 = .ok (.aload_n 0, 1) := dgrp_at dg_c_40 11 rfl
theorem dX5_count_16 : decode cX5_count 16 = .ok (.iload_n 3, 1) := dgrp_at dg_c_40 12 rfl
theorem dX5_count_17 : decode cX5_count 17 = .ok (.iconst 2, 1) := dgrp_at dg_c_40 13 rfl
theorem dX5_count_18 : decode cX5_count 18 = .ok (.invokevirtual 70, 3) := dgrp_at dg_c_40 14 rfl
theorem dX5_count_21 : decode cX5_count 21 = .ok (.ifCond .le 9, 3) := dgrp_at dg_c_40 15 rfl
theorem dX5_count_24 : decode cX5_count 24 = .ok (.iconst 1, 1) := dgrp_at dg_c_40 16 rfl
theorem dX5_count_25 : decode cX5_count 25 = .ok (.iload_n 3, 1) := dgrp_at dg_c_40 17 rfl
theorem dX5_count_26 : decode cX5_count 26 = .ok (.ishl, 1) := dgrp_at dg_c_40 18 rfl
theorem dX5_count_27 : decode cX5_count 27 = .ok (.goto 4, 3) := dgrp_at dg_c_40 19 rfl
theorem dX5_count_30 : decode cX5_count 30 = .ok (.iconst 0, 1) := dgrp_at dg_c_40 20 rfl
theorem dX5_count_31 : decode cX5_count 31 = .ok (.ior, 1) := dgrp_at dg_c_40 21 rfl
theorem dX5_count_32 : decode cX5_count 32 = .ok (.istore_n 2, 1) := dgrp_at dg_c_40 22 rfl
theorem dX5_count_33 : decode cX5_count 33 = .ok (.iinc 3 1, 3) := dgrp_at dg_c_40 23 rfl
theorem dX5_count_36 : decode cX5_count 36 = .ok (.goto (-32), 3) := dgrp_at dg_c_40 24 rfl
theorem dX5_count_39 : decode cX5_count 39 = .ok (.iload_n 1, 1) := dgrp_at dg_c_40 25 rfl
theorem dX5_count_72 : decode cX5_count 72 = .ok (.aload_n 0, 1) := dgrp_at dg_c_40 26 rfl
theorem dX5_count_73 : decode cX5_count 73 = .ok (.getfield 7, 3) := dgrp_at dg_c_40 27 rfl
theorem dX5_count_76 : decode cX5_count 76 = .ok (.iconst 0, 1) := dgrp_at dg_c_40 28 rfl
theorem dX5_count_77 : decode cX5_count 77 = .ok (.iaload, 1) := dgrp_at dg_c_40 29 rfl
theorem dX5_count_78 : decode cX5_count 78 = .ok (.ireturn, 1) := dgrp_at dg_c_40 30 rfl
theorem dX5_count_79 : decode cX5_count 79 = .ok (.aload_n 0, 1) := dgrp_at dg_c_40 31 rfl
def dl_c_41 : List (Nat × Instr × Nat) := [(80, .getfield 99, 3), (83, .ireturn, 1), (84, .aload_n 0, 1), (85, .sipush 255, 3), (88, .invokevirtual 154, 3), (91, .ireturn, 1), (92, .iload_n 2, 1), (93, .ireturn, 1), (94, .aload_n 0, 1), (95, .ldc 48, 2), (97, .invokevirtual 50, 3), (100, .ireturn, 1)]
theorem dg_c_41 : dgrp cX5_count dl_c_41 = true := by decide +kernel
theorem dX5_count_80 : decode cX5_count 80 = .ok (.getfield 99, 3) := dgrp_at dg_c_41 0 rfl
theorem dX5_count_83 : decode cX5_count 83 = .ok (.ireturn, 1) := dgrp_at dg_c_41 1 rfl
theorem dX5_count_84 : decode cX5_count 84 = .ok (.aload_n 0, 1) := dgrp_at dg_c_41 2 rfl
theorem dX5_count_85 : decode cX5_count 85 = .ok (.sipush 255, 3) := dgrp_at dg_c_41 3 rfl
theorem dX5_count_88 : decode cX5_count 88 = .ok (.invokevirtual 154, 3) := dgrp_at dg_c_41 4 rfl
theorem dX5_count_91 : decode cX5_count 91 = .ok (.ireturn, 1) := dgrp_at dg_c_41 5 rfl
theorem dX5_count_92 : decode cX5_count 92 = .ok (.iload_n 2, 1) := dgrp_at dg_c_41 6 rfl
theorem dX5_count_93 : decode cX5_count 93 = .ok (.ireturn, 1) := dgrp_at dg_c_41 7 rfl
theorem dX5_count_94 : decode cX5_count 94 = .ok (.aload_n 0, 1) := dgrp_at dg_c_41 8 rfl
theorem dX5_count_95 : decode cX5_count 95 = .ok (.ldc 48, 2) := dgrp_at dg_c_41 9 rfl
theorem dX5_count_97 : decode cX5_count 97 = .ok (.invokevirtual 50, 3) := dgrp_at dg_c_41 10 rfl
theorem dX5_count_100 : decode cX5_count 100 = .ok (.ireturn, 1) := dgrp_at dg_c_41 11 rfl
def dl_c_42 : List (Nat × Instr × Nat) := [(0, .iload_n 1, 1), (1, .i2l, 1), (2, .ldc2_w 214, 3), (5, .ldc2_w 216, 3), (8, .invokestatic 54, 3), (11, .ifCond .ne 10, 3), (14, .aload_n 0, 1), (15, .ldc 48, 2), (17, .invokevirtual 50, 3), (20, .ireturn, 1), (21, .iconst 0, 1), (22, .istore_n 2, 1), (23, .iconst 0, 1), (24, .istore_n 3, 1), (25, .iload_n 3, 1), (26, .bipush 7, 2), (28, .if_icmp .ge 31, 3), (31, .iload_n 2, 1), (32, .iload_n 1, 1), (33, .ifCond .lt 8, 3), (36, .iload_n 3, 1), (37, .iload_n 1, 1), (38, .if_icmp .ne 12, 3), (41, .aload_n 0, 1), (42, .getfield 16, 3), (45, .iload_n 3, 1), (46, .iaload, 1), (47, .goto 4, 3), (50, .iconst 0, 1), (51, .iadd, 1), (52, .istore_n 2, 1), (53, .iinc 3 1, 3)]
theorem dg_c_42 : dgrp cX5_status dl_c_42 = true := by decide +kernel
theorem dX5_status_0 : decode cX5_status 0 = .ok (.iload_n 1, 1) := dgrp_at dg_c_42 0 rfl
theorem dX5_status_1 : decode cX5_status 1 = .ok (.i2l, 1) := dgrp_at dg_c_42 1 rfl
theorem dX5_status_2 : decode cX5_status 2 = .ok (.ldc2_w 214, 3) := dgrp_at dg_c_42 2 rfl
theorem dX5_status_5 : decode cX5_status 5 = .ok (.ldc2_w 216, 3) := dgrp_at dg_c_42 3 rfl
theorem dX5_status_8 : decode cX5_status 8 = .ok (.invokestatic 54, 3) := dgrp_at dg_c_42 4 rfl
theorem dX5_status_11 : decode cX5_status 11 = .ok (.ifCond .ne 10, 3) := dgrp_at dg_c_42 5 rfl
theorem dX5_status_14 : decode cX5_status 14 = .ok (.aload_n 0, 1) := dgrp_at dg_c_42 6 rfl
theorem dX5_status_15 : decode cX5_status 15 = .ok (.ldc 48, 2) := dgrp_at dg_c_42 7 rfl
theorem dX5_status_17 : decode cX5_status 17 = .ok (.invokevirtual 50, 3) := dgrp_at dg_c_42 8 rfl
theorem dX5_status_20 : decode cX5_status 20 = .ok (.ireturn, 1) := dgrp_at dg_c_42 9 rfl
theorem dX5_status_21 : decode cX5_status 21 = .ok (.iconst 0, 1) := dgrp_at dg_c_42 10 rfl
theorem dX5_status_22 : decode cX5_status 22 = .ok (.istore_n 2, 1) := dgrp_at dg_c_42 11 rfl
theorem dX5_status_23 : decode cX5_status 23 = .ok (.iconst 0, 1) := dgrp_at dg_c_42 12 rfl
theorem dX5_status_24 : decode cX5_status 24 = .ok (.istore_n 3, 1) := dgrp_at dg_c_42 13 rfl
theorem dX5_status_25 : decode cX5_status 25 = .ok (.iload_n 3, 1) := dgrp_at dg_c_42 14 rfl
theorem dX5_status_26 : decode cX5_status 26 = .ok (.bipush 7, 2) := dgrp_at dg_c_42 15 rfl
theorem dX5_status_28 : decode cX5_status 28 = .ok (.if_icmp .ge 31, 3) := dgrp_at dg_c_42 16 rfl
theorem dX5_status_31 : decode cX5_status 31 = .ok (.iload_n 2, 1) := dgrp_at dg_c_42 17 rfl
theorem dX5_status_32 : decode cX5_status 32 = .ok (.iload_n 1, 1) := dgrp_at dg_c_42 18 rfl
theorem dX5_status_33 : decode cX5_status 33 = .ok (.ifCond .lt 8, 3) := dgrp_at dg_c_42 19 rfl
theorem dX5_status_36 : decode cX5_status 36 = .ok (.iload_n 3, 1) := dgrp_at dg_c_42 20 rfl
theorem dX5_status_37 : decode cX5_status 37 = .ok (.iload_n 1, 1) := dgrp_at dg_c_42 21 rfl
theorem dX5_status_38 : decode cX5_status 38 = .ok (.if_icmp .ne 12, 3) := dgrp_at dg_c_42 22 rfl
theorem dX5_status_41 : decode cX5_status 41 = .ok (.aload_n 0, 1) := dgrp_at dg_c_42 23 rfl
theorem dX5_status_42 : decode cX5_status 42 = .ok (.getfield 16, 3) := dgrp_at dg_c_42 24 rfl
theorem dX5_status_45 : decode cX5_status 45 = .ok (.iload_n 3, 1) := dgrp_at dg_c_42 25 rfl
theorem dX5_status_46 : decode cX5_status 46 = .ok (.iaload, 1) := dgrp_at dg_c_42 26 rfl
theorem dX5_status_47 : decode cX5_status 47 = .ok (.goto 4, 3) := dgrp_at dg_c_42 27 rfl
theorem dX5_status_50 : decode cX5_status 50 = .ok (.iconst 0, 1) := dgrp_at dg_c_42 28 rfl
theorem dX5_status_51 : decode cX5_status 51 = .ok (.iadd, 1) := dgrp_at dg_c_42 29 rfl
theorem dX5_status_52 : decode cX5_status 52 = .ok (.istore_n 2, 1) := dgrp_at dg_c_42 30 rfl
theorem dX5_status_53 : decode cX5_status 53 = .ok (.iinc 3 1, 3) := dgrp_at dg_c_42 31 rfl
def dl_c_43 : List (Nat × Instr × Nat) := [(56, .goto (-31), 3), (59, .iload_n 2, 1), (60, .ireturn, 1)]
theorem dg_c_43 : dgrp cX5_status dl_c_43 = true := by decide +kernel
theorem dX5_status_56 : decode cX5_status 56 = .ok (.goto (-31), 3) := dgrp_at dg_c_43 0 rfl
theorem dX5_status_59 : decode cX5_status 59 = .ok (.iload_n 2, 1) := dgrp_at dg_c_43 1 rfl
theorem dX5_status_60 : decode cX5_status 60 = .ok (.ireturn, 1) := dgrp_at dg_c_43 2 rfl
def dl_c_44 : List (Nat × Instr × Nat) := [(0, .new 7, 3), (3, .dup, 1), (4, .invokespecial 9, 3), (7, .astore_n 1, 1), (8, .new 10, 3), (11, .dup, 1), (12, .invokespecial 12, 3), (15, .astore_n 2, 1), (16, .iconst 0, 1), (17, .istore_n 3, 1), (18, .iload_n 3, 1), (19, .aload_n 0, 1), (20, .arraylength, 1), (21, .bipush 6, 2), (23, .isub, 1), (24, .if_icmp .gt 1264, 3), (27, .aload_n 0, 1), (28, .iload_n 3, 1), (29, .iaload, 1), (30, .bipush 63, 2), (32, .iand, 1), (216, .aload_n 1, 1), (217, .aload_n 0, 1), (218, .iload_n 3, 1), (219, .iconst 1, 1), (220, .iadd, 1), (221, .iaload, 1), (222, .aload_n 0, 1), (223, .iload_n 3, 1), (224, .iconst 2, 1), (225, .iadd, 1), (226, .iaload, 1)]
theorem dg_c_44 : dgrp cL_law dl_c_44 = true := by decide +kernel
theorem dL_law_0 : decode cL_law 0 = .ok (.new 7, 3) := dgrp_at dg_c_44 0 rfl
theorem dL_law_3 : decode cL_law 3 = .ok (.dup, 1) := dgrp_at dg_c_44 1 rfl
theorem dL_law_4 : decode cL_law 4 = .ok (.invokespecial 9, 3) := dgrp_at dg_c_44 2 rfl
theorem dL_law_7 : decode cL_law 7 = .ok (.astore_n 1, 1) := dgrp_at dg_c_44 3 rfl
theorem dL_law_8 : decode cL_law 8 = .ok (.new 10, 3) := dgrp_at dg_c_44 4 rfl
theorem dL_law_11 : decode cL_law 11 = .ok (.dup, 1) := dgrp_at dg_c_44 5 rfl
theorem dL_law_12 : decode cL_law 12 = .ok (.invokespecial 12, 3) := dgrp_at dg_c_44 6 rfl
theorem dL_law_15 : decode cL_law 15 = .ok (.astore_n 2, 1) := dgrp_at dg_c_44 7 rfl
theorem dL_law_16 : decode cL_law 16 = .ok (.iconst 0, 1) := dgrp_at dg_c_44 8 rfl
theorem dL_law_17 : decode cL_law 17 = .ok (.istore_n 3, 1) := dgrp_at dg_c_44 9 rfl
theorem dL_law_18 : decode cL_law 18 = .ok (.iload_n 3, 1) := dgrp_at dg_c_44 10 rfl
theorem dL_law_19 : decode cL_law 19 = .ok (.aload_n 0, 1) := dgrp_at dg_c_44 11 rfl
theorem dL_law_20 : decode cL_law 20 = .ok (.arraylength, 1) := dgrp_at dg_c_44 12 rfl
theorem dL_law_21 : decode cL_law 21 = .ok (.bipush 6, 2) := dgrp_at dg_c_44 13 rfl
theorem dL_law_23 : decode cL_law 23 = .ok (.isub, 1) := dgrp_at dg_c_44 14 rfl
theorem dL_law_24 : decode cL_law 24 = .ok (.if_icmp .gt 1264, 3) := dgrp_at dg_c_44 15 rfl
theorem dL_law_27 : decode cL_law 27 = .ok (.aload_n 0, 1) := dgrp_at dg_c_44 16 rfl
theorem dL_law_28 : decode cL_law 28 = .ok (.iload_n 3, 1) := dgrp_at dg_c_44 17 rfl
theorem dL_law_29 : decode cL_law 29 = .ok (.iaload, 1) := dgrp_at dg_c_44 18 rfl
theorem dL_law_30 : decode cL_law 30 = .ok (.bipush 63, 2) := dgrp_at dg_c_44 19 rfl
theorem dL_law_32 : decode cL_law 32 = .ok (.iand, 1) := dgrp_at dg_c_44 20 rfl
theorem dL_law_216 : decode cL_law 216 = .ok (.aload_n 1, 1) := dgrp_at dg_c_44 21 rfl
theorem dL_law_217 : decode cL_law 217 = .ok (.aload_n 0, 1) := dgrp_at dg_c_44 22 rfl
theorem dL_law_218 : decode cL_law 218 = .ok (.iload_n 3, 1) := dgrp_at dg_c_44 23 rfl
theorem dL_law_219 : decode cL_law 219 = .ok (.iconst 1, 1) := dgrp_at dg_c_44 24 rfl
theorem dL_law_220 : decode cL_law 220 = .ok (.iadd, 1) := dgrp_at dg_c_44 25 rfl
theorem dL_law_221 : decode cL_law 221 = .ok (.iaload, 1) := dgrp_at dg_c_44 26 rfl
theorem dL_law_222 : decode cL_law 222 = .ok (.aload_n 0, 1) := dgrp_at dg_c_44 27 rfl
theorem dL_law_223 : decode cL_law 223 = .ok (.iload_n 3, 1) := dgrp_at dg_c_44 28 rfl
theorem dL_law_224 : decode cL_law 224 = .ok (.iconst 2, 1) := dgrp_at dg_c_44 29 rfl
theorem dL_law_225 : decode cL_law 225 = .ok (.iadd, 1) := dgrp_at dg_c_44 30 rfl
theorem dL_law_226 : decode cL_law 226 = .ok (.iaload, 1) := dgrp_at dg_c_44 31 rfl
def dl_c_45 : List (Nat × Instr × Nat) := [(227, .invokevirtual 13, 3), (230, .pop, 1), (231, .aload_n 2, 1), (232, .aload_n 0, 1), (233, .iload_n 3, 1), (234, .iconst 1, 1), (235, .iadd, 1), (236, .iaload, 1), (237, .aload_n 0, 1), (238, .iload_n 3, 1), (239, .iconst 2, 1), (240, .iadd, 1), (241, .iaload, 1), (242, .invokevirtual 17, 3), (245, .pop, 1), (246, .goto 1036, 3), (249, .aload_n 1, 1), (250, .aload_n 0, 1), (251, .iload_n 3, 1), (252, .iconst 1, 1), (253, .iadd, 1), (254, .iaload, 1), (255, .aload_n 0, 1), (256, .iload_n 3, 1), (257, .iconst 2, 1), (258, .iadd, 1), (259, .iaload, 1), (260, .invokevirtual 18, 3), (263, .pop, 1), (264, .aload_n 2, 1), (265, .aload_n 0, 1), (266, .iload_n 3, 1)]
theorem dg_c_45 : dgrp cL_law dl_c_45 = true := by decide +kernel
theorem dL_law_227 : decode cL_law 227 = .ok (.invokevirtual 13, 3) := dgrp_at dg_c_45 0 rfl
theorem dL_law_230 : decode cL_law 230 = .ok (.pop, 1) := dgrp_at dg_c_45 1 rfl
theorem dL_law_231 : decode cL_law 231 = .ok (.aload_n 2, 1) := dgrp_at dg_c_45 2 rfl
theorem dL_law_232 : decode cL_law 232 = .ok (.aload_n 0, 1) := dgrp_at dg_c_45 3 rfl
theorem dL_law_233 : decode cL_law 233 = .ok (.iload_n 3, 1) := dgrp_at dg_c_45 4 rfl
theorem dL_law_234 : decode cL_law 234 = .ok (.iconst 1, 1) := dgrp_at dg_c_45 5 rfl
theorem dL_law_235 : decode cL_law 235 = .ok (.iadd, 1) := dgrp_at dg_c_45 6 rfl
theorem dL_law_236 : decode cL_law 236 = .ok (.iaload, 1) := dgrp_at dg_c_45 7 rfl
theorem dL_law_237 : decode cL_law 237 = .ok (.aload_n 0, 1) := dgrp_at dg_c_45 8 rfl
theorem dL_law_238 : decode cL_law 238 = .ok (.iload_n 3, 1) := dgrp_at dg_c_45 9 rfl
theorem dL_law_239 : decode cL_law 239 = .ok (.iconst 2, 1) := dgrp_at dg_c_45 10 rfl
theorem dL_law_240 : decode cL_law 240 = .ok (.iadd, 1) := dgrp_at dg_c_45 11 rfl
theorem dL_law_241 : decode cL_law 241 = .ok (.iaload, 1) := dgrp_at dg_c_45 12 rfl
theorem dL_law_242 : decode cL_law 242 = .ok (.invokevirtual 17, 3) := dgrp_at dg_c_45 13 rfl
theorem dL_law_245 : decode cL_law 245 = .ok (.pop, 1) := dgrp_at dg_c_45 14 rfl
theorem dL_law_246 : decode cL_law 246 = .ok (.goto 1036, 3) := dgrp_at dg_c_45 15 rfl
theorem dL_law_249 : decode cL_law 249 = .ok (.aload_n 1, 1) := dgrp_at dg_c_45 16 rfl
theorem dL_law_250 : decode cL_law 250 = .ok (.aload_n 0, 1) := dgrp_at dg_c_45 17 rfl
theorem dL_law_251 : decode cL_law 251 = .ok (.iload_n 3, 1) := dgrp_at dg_c_45 18 rfl
theorem dL_law_252 : decode cL_law 252 = .ok (.iconst 1, 1) := dgrp_at dg_c_45 19 rfl
theorem dL_law_253 : decode cL_law 253 = .ok (.iadd, 1) := dgrp_at dg_c_45 20 rfl
theorem dL_law_254 : decode cL_law 254 = .ok (.iaload, 1) := dgrp_at dg_c_45 21 rfl
theorem dL_law_255 : decode cL_law 255 = .ok (.aload_n 0, 1) := dgrp_at dg_c_45 22 rfl
theorem dL_law_256 : decode cL_law 256 = .ok (.iload_n 3, 1) := dgrp_at dg_c_45 23 rfl
theorem dL_law_257 : decode cL_law 257 = .ok (.iconst 2, 1) := dgrp_at dg_c_45 24 rfl
theorem dL_law_258 : decode cL_law 258 = .ok (.iadd, 1) := dgrp_at dg_c_45 25 rfl
theorem dL_law_259 : decode cL_law 259 = .ok (.iaload, 1) := dgrp_at dg_c_45 26 rfl
theorem dL_law_260 : decode cL_law 260 = .ok (.invokevirtual 18, 3) := dgrp_at dg_c_45 27 rfl
theorem dL_law_263 : decode cL_law 263 = .ok (.pop, 1) := dgrp_at dg_c_45 28 rfl
theorem dL_law_264 : decode cL_law 264 = .ok (.aload_n 2, 1) := dgrp_at dg_c_45 29 rfl
theorem dL_law_265 : decode cL_law 265 = .ok (.aload_n 0, 1) := dgrp_at dg_c_45 30 rfl
theorem dL_law_266 : decode cL_law 266 = .ok (.iload_n 3, 1) := dgrp_at dg_c_45 31 rfl
def dl_c_46 : List (Nat × Instr × Nat) := [(267, .iconst 1, 1), (268, .iadd, 1), (269, .iaload, 1), (270, .aload_n 0, 1), (271, .iload_n 3, 1), (272, .iconst 2, 1), (273, .iadd, 1), (274, .iaload, 1), (275, .invokevirtual 21, 3), (278, .pop, 1), (279, .goto 1003, 3), (282, .aload_n 1, 1), (283, .aload_n 0, 1), (284, .iload_n 3, 1), (285, .iconst 1, 1), (286, .iadd, 1), (287, .iaload, 1), (288, .aload_n 0, 1), (289, .iload_n 3, 1), (290, .iconst 2, 1), (291, .iadd, 1), (292, .iaload, 1), (293, .invokevirtual 22, 3), (296, .pop, 1), (297, .aload_n 2, 1), (298, .aload_n 0, 1), (299, .iload_n 3, 1), (300, .iconst 1, 1), (301, .iadd, 1), (302, .iaload, 1), (303, .aload_n 0, 1), (304, .iload_n 3, 1)]
theorem dg_c_46 : dgrp cL_law dl_c_46 = true := by decide +kernel
theorem dL_law_267 : decode cL_law 267 = .ok (.iconst 1, 1) := dgrp_at dg_c_46 0 rfl
theorem dL_law_268 : decode cL_law 268 = .ok (.iadd, 1) := dgrp_at dg_c_46 1 rfl
theorem dL_law_269 : decode cL_law 269 = .ok (.iaload, 1) := dgrp_at dg_c_46 2 rfl
theorem dL_law_270 : decode cL_law 270 = .ok (.aload_n 0, 1) := dgrp_at dg_c_46 3 rfl
theorem dL_law_271 : decode cL_law 271 = .ok (.iload_n 3, 1) := dgrp_at dg_c_46 4 rfl
theorem dL_law_272 : decode cL_law 272 = .ok (.iconst 2, 1) := dgrp_at dg_c_46 5 rfl
theorem dL_law_273 : decode cL_law 273 = .ok (.iadd, 1) := dgrp_at dg_c_46 6 rfl
theorem dL_law_274 : decode cL_law 274 = .ok (.iaload, 1) := dgrp_at dg_c_46 7 rfl
theorem dL_law_275 : decode cL_law 275 = .ok (.invokevirtual 21, 3) := dgrp_at dg_c_46 8 rfl
theorem dL_law_278 : decode cL_law 278 = .ok (.pop, 1) := dgrp_at dg_c_46 9 rfl
theorem dL_law_279 : decode cL_law 279 = .ok (.goto 1003, 3) := dgrp_at dg_c_46 10 rfl
theorem dL_law_282 : decode cL_law 282 = .ok (.aload_n 1, 1) := dgrp_at dg_c_46 11 rfl
theorem dL_law_283 : decode cL_law 283 = .ok (.aload_n 0, 1) := dgrp_at dg_c_46 12 rfl
theorem dL_law_284 : decode cL_law 284 = .ok (.iload_n 3, 1) := dgrp_at dg_c_46 13 rfl
theorem dL_law_285 : decode cL_law 285 = .ok (.iconst 1, 1) := dgrp_at dg_c_46 14 rfl
theorem dL_law_286 : decode cL_law 286 = .ok (.iadd, 1) := dgrp_at dg_c_46 15 rfl
theorem dL_law_287 : decode cL_law 287 = .ok (.iaload, 1) := dgrp_at dg_c_46 16 rfl
theorem dL_law_288 : decode cL_law 288 = .ok (.aload_n 0, 1) := dgrp_at dg_c_46 17 rfl
theorem dL_law_289 : decode cL_law 289 = .ok (.iload_n 3, 1) := dgrp_at dg_c_46 18 rfl
theorem dL_law_290 : decode cL_law 290 = .ok (.iconst 2, 1) := dgrp_at dg_c_46 19 rfl
theorem dL_law_291 : decode cL_law 291 = .ok (.iadd, 1) := dgrp_at dg_c_46 20 rfl
theorem dL_law_292 : decode cL_law 292 = .ok (.iaload, 1) := dgrp_at dg_c_46 21 rfl
theorem dL_law_293 : decode cL_law 293 = .ok (.invokevirtual 22, 3) := dgrp_at dg_c_46 22 rfl
theorem dL_law_296 : decode cL_law 296 = .ok (.pop, 1) := dgrp_at dg_c_46 23 rfl
theorem dL_law_297 : decode cL_law 297 = .ok (.aload_n 2, 1) := dgrp_at dg_c_46 24 rfl
theorem dL_law_298 : decode cL_law 298 = .ok (.aload_n 0, 1) := dgrp_at dg_c_46 25 rfl
theorem dL_law_299 : decode cL_law 299 = .ok (.iload_n 3, 1) := dgrp_at dg_c_46 26 rfl
theorem dL_law_300 : decode cL_law 300 = .ok (.iconst 1, 1) := dgrp_at dg_c_46 27 rfl
theorem dL_law_301 : decode cL_law 301 = .ok (.iadd, 1) := dgrp_at dg_c_46 28 rfl
theorem dL_law_302 : decode cL_law 302 = .ok (.iaload, 1) := dgrp_at dg_c_46 29 rfl
theorem dL_law_303 : decode cL_law 303 = .ok (.aload_n 0, 1) := dgrp_at dg_c_46 30 rfl
theorem dL_law_304 : decode cL_law 304 = .ok (.iload_n 3, 1) := dgrp_at dg_c_46 31 rfl
def dl_c_47 : List (Nat × Instr × Nat) := [(305, .iconst 2, 1), (306, .iadd, 1), (307, .iaload, 1), (308, .invokevirtual 25, 3), (311, .pop, 1), (312, .goto 970, 3), (315, .aload_n 1, 1), (316, .aload_n 0, 1), (317, .iload_n 3, 1), (318, .iconst 1, 1), (319, .iadd, 1), (320, .iaload, 1), (321, .aload_n 0, 1), (322, .iload_n 3, 1), (323, .iconst 2, 1), (324, .iadd, 1), (325, .iaload, 1), (326, .invokevirtual 26, 3), (329, .pop, 1), (330, .aload_n 2, 1), (331, .aload_n 0, 1), (332, .iload_n 3, 1), (333, .iconst 1, 1), (334, .iadd, 1), (335, .iaload, 1), (336, .aload_n 0, 1), (337, .iload_n 3, 1), (338, .iconst 2, 1), (339, .iadd, 1), (340, .iaload, 1), (341, .invokevirtual 29, 3), (344, .pop, 1)]
theorem dg_c_47 : dgrp cL_law dl_c_47 = true := by decide +kernel
theorem dL_law_305 : decode cL_law 305 = .ok (.iconst 2, 1) := dgrp_at dg_c_47 0 rfl
theorem dL_law_306 : decode cL_law 306 = .ok (.iadd, 1) := dgrp_at dg_c_47 1 rfl
theorem dL_law_307 : decode cL_law 307 = .ok (.iaload, 1) := dgrp_at dg_c_47 2 rfl
theorem dL_law_308 : decode cL_law 308 = .ok (.invokevirtual 25, 3) := dgrp_at dg_c_47 3 rfl
theorem dL_law_311 : decode cL_law 311 = .ok (.pop, 1) := dgrp_at dg_c_47 4 rfl
theorem dL_law_312 : decode cL_law 312 = .ok (.goto 970, 3) := dgrp_at dg_c_47 5 rfl
theorem dL_law_315 : decode cL_law 315 = .ok (.aload_n 1, 1) := dgrp_at dg_c_47 6 rfl
theorem dL_law_316 : decode cL_law 316 = .ok (.aload_n 0, 1) := dgrp_at dg_c_47 7 rfl
theorem dL_law_317 : decode cL_law 317 = .ok (.iload_n 3, 1) := dgrp_at dg_c_47 8 rfl
theorem dL_law_318 : decode cL_law 318 = .ok (.iconst 1, 1) := dgrp_at dg_c_47 9 rfl
theorem dL_law_319 : decode cL_law 319 = .ok (.iadd, 1) := dgrp_at dg_c_47 10 rfl
theorem dL_law_320 : decode cL_law 320 = .ok (.iaload, 1) := dgrp_at dg_c_47 11 rfl
theorem dL_law_321 : decode cL_law 321 = .ok (.aload_n 0, 1) := dgrp_at dg_c_47 12 rfl
theorem dL_law_322 : decode cL_law 322 = .ok (.iload_n 3, 1) := dgrp_at dg_c_47 13 rfl
theorem dL_law_323 : decode cL_law 323 = .ok (.iconst 2, 1) := dgrp_at dg_c_47 14 rfl
theorem dL_law_324 : decode cL_law 324 = .ok (.iadd, 1) := dgrp_at dg_c_47 15 rfl
theorem dL_law_325 : decode cL_law 325 = .ok (.iaload, 1) := dgrp_at dg_c_47 16 rfl
theorem dL_law_326 : decode cL_law 326 = .ok (.invokevirtual 26, 3) := dgrp_at dg_c_47 17 rfl
theorem dL_law_329 : decode cL_law 329 = .ok (.pop, 1) := dgrp_at dg_c_47 18 rfl
theorem dL_law_330 : decode cL_law 330 = .ok (.aload_n 2, 1) := dgrp_at dg_c_47 19 rfl
theorem dL_law_331 : decode cL_law 331 = .ok (.aload_n 0, 1) := dgrp_at dg_c_47 20 rfl
theorem dL_law_332 : decode cL_law 332 = .ok (.iload_n 3, 1) := dgrp_at dg_c_47 21 rfl
theorem dL_law_333 : decode cL_law 333 = .ok (.iconst 1, 1) := dgrp_at dg_c_47 22 rfl
theorem dL_law_334 : decode cL_law 334 = .ok (.iadd, 1) := dgrp_at dg_c_47 23 rfl
theorem dL_law_335 : decode cL_law 335 = .ok (.iaload, 1) := dgrp_at dg_c_47 24 rfl
theorem dL_law_336 : decode cL_law 336 = .ok (.aload_n 0, 1) := dgrp_at dg_c_47 25 rfl
theorem dL_law_337 : decode cL_law 337 = .ok (.iload_n 3, 1) := dgrp_at dg_c_47 26 rfl
theorem dL_law_338 : decode cL_law 338 = .ok (.iconst 2, 1) := dgrp_at dg_c_47 27 rfl
theorem dL_law_339 : decode cL_law 339 = .ok (.iadd, 1) := dgrp_at dg_c_47 28 rfl
theorem dL_law_340 : decode cL_law 340 = .ok (.iaload, 1) := dgrp_at dg_c_47 29 rfl
theorem dL_law_341 : decode cL_law 341 = .ok (.invokevirtual 29, 3) := dgrp_at dg_c_47 30 rfl
theorem dL_law_344 : decode cL_law 344 = .ok (.pop, 1) := dgrp_at dg_c_47 31 rfl
def dl_c_48 : List (Nat × Instr × Nat) := [(345, .goto 937, 3), (348, .aload_n 1, 1), (349, .aload_n 0, 1), (350, .iload_n 3, 1), (351, .iconst 1, 1), (352, .iadd, 1), (353, .iaload, 1), (354, .aload_n 0, 1), (355, .iload_n 3, 1), (356, .iconst 2, 1), (357, .iadd, 1), (358, .iaload, 1), (359, .invokevirtual 30, 3), (362, .pop, 1), (363, .aload_n 2, 1), (364, .aload_n 0, 1), (365, .iload_n 3, 1), (366, .iconst 1, 1), (367, .iadd, 1), (368, .iaload, 1), (369, .aload_n 0, 1), (370, .iload_n 3, 1), (371, .iconst 2, 1), (372, .iadd, 1), (373, .iaload, 1), (374, .invokevirtual 33, 3), (377, .pop, 1), (378, .goto 904, 3), (381, .aload_n 1, 1), (382, .aload_n 0, 1), (383, .iload_n 3, 1), (384, .iconst 1, 1)]
theorem dg_c_48 : dgrp cL_law dl_c_48 = true := by decide +kernel
theorem dL_law_345 : decode cL_law 345 = .ok (.goto 937, 3) := dgrp_at dg_c_48 0 rfl
theorem dL_law_348 : decode cL_law 348 = .ok (.aload_n 1, 1) := dgrp_at dg_c_48 1 rfl
theorem dL_law_349 : decode cL_law 349 = .ok (.aload_n 0, 1) := dgrp_at dg_c_48 2 rfl
theorem dL_law_350 : decode cL_law 350 = .ok (.iload_n 3, 1) := dgrp_at dg_c_48 3 rfl
theorem dL_law_351 : decode cL_law 351 = .ok (.iconst 1, 1) := dgrp_at dg_c_48 4 rfl
theorem dL_law_352 : decode cL_law 352 = .ok (.iadd, 1) := dgrp_at dg_c_48 5 rfl
theorem dL_law_353 : decode cL_law 353 = .ok (.iaload, 1) := dgrp_at dg_c_48 6 rfl
theorem dL_law_354 : decode cL_law 354 = .ok (.aload_n 0, 1) := dgrp_at dg_c_48 7 rfl
theorem dL_law_355 : decode cL_law 355 = .ok (.iload_n 3, 1) := dgrp_at dg_c_48 8 rfl
theorem dL_law_356 : decode cL_law 356 = .ok (.iconst 2, 1) := dgrp_at dg_c_48 9 rfl
theorem dL_law_357 : decode cL_law 357 = .ok (.iadd, 1) := dgrp_at dg_c_48 10 rfl
theorem dL_law_358 : decode cL_law 358 = .ok (.iaload, 1) := dgrp_at dg_c_48 11 rfl
theorem dL_law_359 : decode cL_law 359 = .ok (.invokevirtual 30, 3) := dgrp_at dg_c_48 12 rfl
theorem dL_law_362 : decode cL_law 362 = .ok (.pop, 1) := dgrp_at dg_c_48 13 rfl
theorem dL_law_363 : decode cL_law 363 = .ok (.aload_n 2, 1) := dgrp_at dg_c_48 14 rfl
theorem dL_law_364 : decode cL_law 364 = .ok (.aload_n 0, 1) := dgrp_at dg_c_48 15 rfl
theorem dL_law_365 : decode cL_law 365 = .ok (.iload_n 3, 1) := dgrp_at dg_c_48 16 rfl
theorem dL_law_366 : decode cL_law 366 = .ok (.iconst 1, 1) := dgrp_at dg_c_48 17 rfl
theorem dL_law_367 : decode cL_law 367 = .ok (.iadd, 1) := dgrp_at dg_c_48 18 rfl
theorem dL_law_368 : decode cL_law 368 = .ok (.iaload, 1) := dgrp_at dg_c_48 19 rfl
theorem dL_law_369 : decode cL_law 369 = .ok (.aload_n 0, 1) := dgrp_at dg_c_48 20 rfl
theorem dL_law_370 : decode cL_law 370 = .ok (.iload_n 3, 1) := dgrp_at dg_c_48 21 rfl
theorem dL_law_371 : decode cL_law 371 = .ok (.iconst 2, 1) := dgrp_at dg_c_48 22 rfl
theorem dL_law_372 : decode cL_law 372 = .ok (.iadd, 1) := dgrp_at dg_c_48 23 rfl
theorem dL_law_373 : decode cL_law 373 = .ok (.iaload, 1) := dgrp_at dg_c_48 24 rfl
theorem dL_law_374 : decode cL_law 374 = .ok (.invokevirtual 33, 3) := dgrp_at dg_c_48 25 rfl
theorem dL_law_377 : decode cL_law 377 = .ok (.pop, 1) := dgrp_at dg_c_48 26 rfl
theorem dL_law_378 : decode cL_law 378 = .ok (.goto 904, 3) := dgrp_at dg_c_48 27 rfl
theorem dL_law_381 : decode cL_law 381 = .ok (.aload_n 1, 1) := dgrp_at dg_c_48 28 rfl
theorem dL_law_382 : decode cL_law 382 = .ok (.aload_n 0, 1) := dgrp_at dg_c_48 29 rfl
theorem dL_law_383 : decode cL_law 383 = .ok (.iload_n 3, 1) := dgrp_at dg_c_48 30 rfl
theorem dL_law_384 : decode cL_law 384 = .ok (.iconst 1, 1) := dgrp_at dg_c_48 31 rfl
def dl_c_49 : List (Nat × Instr × Nat) := [(385, .iadd, 1), (386, .iaload, 1), (387, .invokevirtual 34, 3), (390, .pop, 1), (391, .aload_n 2, 1), (392, .aload_n 0, 1), (393, .iload_n 3, 1), (394, .iconst 1, 1), (395, .iadd, 1), (396, .iaload, 1), (397, .invokevirtual 38, 3), (400, .pop, 1), (401, .goto 881, 3), (404, .aload_n 1, 1), (405, .aload_n 0, 1), (406, .iload_n 3, 1), (407, .iconst 1, 1), (408, .iadd, 1), (409, .iaload, 1), (410, .aload_n 0, 1), (411, .iload_n 3, 1), (412, .iconst 2, 1), (413, .iadd, 1), (414, .iaload, 1), (415, .invokevirtual 39, 3), (418, .pop, 1), (419, .aload_n 2, 1), (420, .aload_n 0, 1), (421, .iload_n 3, 1), (422, .iconst 1, 1), (423, .iadd, 1), (424, .iaload, 1)]
theorem dg_c_49 : dgrp cL_law dl_c_49 = true := by decide +kernel
theorem dL_law_385 : decode cL_law 385 = .ok (.iadd, 1) := dgrp_at dg_c_49 0 rfl
theorem dL_law_386 : decode cL_law 386 = .ok (.iaload, 1) := dgrp_at dg_c_49 1 rfl
theorem dL_law_387 : decode cL_law 387 = .ok (.invokevirtual 34, 3) := dgrp_at dg_c_49 2 rfl
theorem dL_law_390 : decode cL_law 390 = .ok (.pop, 1) := dgrp_at dg_c_49 3 rfl
theorem dL_law_391 : decode cL_law 391 = .ok (.aload_n 2, 1) := dgrp_at dg_c_49 4 rfl
theorem dL_law_392 : decode cL_law 392 = .ok (.aload_n 0, 1) := dgrp_at dg_c_49 5 rfl
theorem dL_law_393 : decode cL_law 393 = .ok (.iload_n 3, 1) := dgrp_at dg_c_49 6 rfl
theorem dL_law_394 : decode cL_law 394 = .ok (.iconst 1, 1) := dgrp_at dg_c_49 7 rfl
theorem dL_law_395 : decode cL_law 395 = .ok (.iadd, 1) := dgrp_at dg_c_49 8 rfl
theorem dL_law_396 : decode cL_law 396 = .ok (.iaload, 1) := dgrp_at dg_c_49 9 rfl
theorem dL_law_397 : decode cL_law 397 = .ok (.invokevirtual 38, 3) := dgrp_at dg_c_49 10 rfl
theorem dL_law_400 : decode cL_law 400 = .ok (.pop, 1) := dgrp_at dg_c_49 11 rfl
theorem dL_law_401 : decode cL_law 401 = .ok (.goto 881, 3) := dgrp_at dg_c_49 12 rfl
theorem dL_law_404 : decode cL_law 404 = .ok (.aload_n 1, 1) := dgrp_at dg_c_49 13 rfl
theorem dL_law_405 : decode cL_law 405 = .ok (.aload_n 0, 1) := dgrp_at dg_c_49 14 rfl
theorem dL_law_406 : decode cL_law 406 = .ok (.iload_n 3, 1) := dgrp_at dg_c_49 15 rfl
theorem dL_law_407 : decode cL_law 407 = .ok (.iconst 1, 1) := dgrp_at dg_c_49 16 rfl
theorem dL_law_408 : decode cL_law 408 = .ok (.iadd, 1) := dgrp_at dg_c_49 17 rfl
theorem dL_law_409 : decode cL_law 409 = .ok (.iaload, 1) := dgrp_at dg_c_49 18 rfl
theorem dL_law_410 : decode cL_law 410 = .ok (.aload_n 0, 1) := dgrp_at dg_c_49 19 rfl
theorem dL_law_411 : decode cL_law 411 = .ok (.iload_n 3, 1) := dgrp_at dg_c_49 20 rfl
theorem dL_law_412 : decode cL_law 412 = .ok (.iconst 2, 1) := dgrp_at dg_c_49 21 rfl
theorem dL_law_413 : decode cL_law 413 = .ok (.iadd, 1) := dgrp_at dg_c_49 22 rfl
theorem dL_law_414 : decode cL_law 414 = .ok (.iaload, 1) := dgrp_at dg_c_49 23 rfl
theorem dL_law_415 : decode cL_law 415 = .ok (.invokevirtual 39, 3) := dgrp_at dg_c_49 24 rfl
theorem dL_law_418 : decode cL_law 418 = .ok (.pop, 1) := dgrp_at dg_c_49 25 rfl
theorem dL_law_419 : decode cL_law 419 = .ok (.aload_n 2, 1) := dgrp_at dg_c_49 26 rfl
theorem dL_law_420 : decode cL_law 420 = .ok (.aload_n 0, 1) := dgrp_at dg_c_49 27 rfl
theorem dL_law_421 : decode cL_law 421 = .ok (.iload_n 3, 1) := dgrp_at dg_c_49 28 rfl
theorem dL_law_422 : decode cL_law 422 = .ok (.iconst 1, 1) := dgrp_at dg_c_49 29 rfl
theorem dL_law_423 : decode cL_law 423 = .ok (.iadd, 1) := dgrp_at dg_c_49 30 rfl
theorem dL_law_424 : decode cL_law 424 = .ok (.iaload, 1) := dgrp_at dg_c_49 31 rfl
def dl_c_50 : List (Nat × Instr × Nat) := [(425, .aload_n 0, 1), (426, .iload_n 3, 1), (427, .iconst 2, 1), (428, .iadd, 1), (429, .iaload, 1), (430, .invokevirtual 42, 3), (433, .pop, 1), (434, .goto 848, 3), (437, .aload_n 1, 1), (438, .invokevirtual 43, 3), (441, .pop, 1), (442, .aload_n 2, 1), (443, .invokevirtual 47, 3), (446, .pop, 1), (447, .goto 835, 3), (450, .aload_n 1, 1), (451, .aload_n 0, 1), (452, .iload_n 3, 1), (453, .iconst 1, 1), (454, .iadd, 1), (455, .iaload, 1), (456, .invokevirtual 48, 3), (459, .pop, 1), (460, .aload_n 2, 1), (461, .aload_n 0, 1), (462, .iload_n 3, 1), (463, .iconst 1, 1), (464, .iadd, 1), (465, .iaload, 1), (466, .invokevirtual 51, 3), (469, .pop, 1), (470, .goto 812, 3)]
theorem dg_c_50 : dgrp cL_law dl_c_50 = true := by decide +kernel
theorem dL_law_425 : decode cL_law 425 = .ok (.aload_n 0, 1) := dgrp_at dg_c_50 0 rfl
theorem dL_law_426 : decode cL_law 426 = .ok (.iload_n 3, 1) := dgrp_at dg_c_50 1 rfl
theorem dL_law_427 : decode cL_law 427 = .ok (.iconst 2, 1) := dgrp_at dg_c_50 2 rfl
theorem dL_law_428 : decode cL_law 428 = .ok (.iadd, 1) := dgrp_at dg_c_50 3 rfl
theorem dL_law_429 : decode cL_law 429 = .ok (.iaload, 1) := dgrp_at dg_c_50 4 rfl
theorem dL_law_430 : decode cL_law 430 = .ok (.invokevirtual 42, 3) := dgrp_at dg_c_50 5 rfl
theorem dL_law_433 : decode cL_law 433 = .ok (.pop, 1) := dgrp_at dg_c_50 6 rfl
theorem dL_law_434 : decode cL_law 434 = .ok (.goto 848, 3) := dgrp_at dg_c_50 7 rfl
theorem dL_law_437 : decode cL_law 437 = .ok (.aload_n 1, 1) := dgrp_at dg_c_50 8 rfl
theorem dL_law_438 : decode cL_law 438 = .ok (.invokevirtual 43, 3) := dgrp_at dg_c_50 9 rfl
theorem dL_law_441 : decode cL_law 441 = .ok (.pop, 1) := dgrp_at dg_c_50 10 rfl
theorem dL_law_442 : decode cL_law 442 = .ok (.aload_n 2, 1) := dgrp_at dg_c_50 11 rfl
theorem dL_law_443 : decode cL_law 443 = .ok (.invokevirtual 47, 3) := dgrp_at dg_c_50 12 rfl
theorem dL_law_446 : decode cL_law 446 = .ok (.pop, 1) := dgrp_at dg_c_50 13 rfl
theorem dL_law_447 : decode cL_law 447 = .ok (.goto 835, 3) := dgrp_at dg_c_50 14 rfl
theorem dL_law_450 : decode cL_law 450 = .ok (.aload_n 1, 1) := dgrp_at dg_c_50 15 rfl
theorem dL_law_451 : decode cL_law 451 = .ok (.aload_n 0, 1) := dgrp_at dg_c_50 16 rfl
theorem dL_law_452 : decode cL_law 452 = .ok (.iload_n 3, 1) := dgrp_at dg_c_50 17 rfl
theorem dL_law_453 : decode cL_law 453 = .ok (.iconst 1, 1) := dgrp_at dg_c_50 18 rfl
theorem dL_law_454 : decode cL_law 454 = .ok (.iadd, 1) := dgrp_at dg_c_50 19 rfl
theorem dL_law_455 : decode cL_law 455 = .ok (.iaload, 1) := dgrp_at dg_c_50 20 rfl
theorem dL_law_456 : decode cL_law 456 = .ok (.invokevirtual 48, 3) := dgrp_at dg_c_50 21 rfl
theorem dL_law_459 : decode cL_law 459 = .ok (.pop, 1) := dgrp_at dg_c_50 22 rfl
theorem dL_law_460 : decode cL_law 460 = .ok (.aload_n 2, 1) := dgrp_at dg_c_50 23 rfl
theorem dL_law_461 : decode cL_law 461 = .ok (.aload_n 0, 1) := dgrp_at dg_c_50 24 rfl
theorem dL_law_462 : decode cL_law 462 = .ok (.iload_n 3, 1) := dgrp_at dg_c_50 25 rfl
theorem dL_law_463 : decode cL_law 463 = .ok (.iconst 1, 1) := dgrp_at dg_c_50 26 rfl
theorem dL_law_464 : decode cL_law 464 = .ok (.iadd, 1) := dgrp_at dg_c_50 27 rfl
theorem dL_law_465 : decode cL_law 465 = .ok (.iaload, 1) := dgrp_at dg_c_50 28 rfl
theorem dL_law_466 : decode cL_law 466 = .ok (.invokevirtual 51, 3) := dgrp_at dg_c_50 29 rfl
theorem dL_law_469 : decode cL_law 469 = .ok (.pop, 1) := dgrp_at dg_c_50 30 rfl
theorem dL_law_470 : decode cL_law 470 = .ok (.goto 812, 3) := dgrp_at dg_c_50 31 rfl
def dl_c_51 : List (Nat × Instr × Nat) := [(473, .aload_n 1, 1), (474, .aload_n 0, 1), (475, .iload_n 3, 1), (476, .iconst 1, 1), (477, .iadd, 1), (478, .iaload, 1), (479, .invokevirtual 52, 3), (482, .pop, 1), (483, .aload_n 2, 1), (484, .aload_n 0, 1), (485, .iload_n 3, 1), (486, .iconst 1, 1), (487, .iadd, 1), (488, .iaload, 1), (489, .invokevirtual 55, 3), (492, .pop, 1), (493, .goto 789, 3), (496, .aload_n 1, 1), (497, .aload_n 0, 1), (498, .iload_n 3, 1), (499, .iconst 1, 1), (500, .iadd, 1), (501, .iaload, 1), (502, .invokevirtual 56, 3), (505, .pop, 1), (506, .aload_n 2, 1), (507, .aload_n 0, 1), (508, .iload_n 3, 1), (509, .iconst 1, 1), (510, .iadd, 1), (511, .iaload, 1), (512, .invokevirtual 59, 3)]
theorem dg_c_51 : dgrp cL_law dl_c_51 = true := by decide +kernel
theorem dL_law_473 : decode cL_law 473 = .ok (.aload_n 1, 1) := dgrp_at dg_c_51 0 rfl
theorem dL_law_474 : decode cL_law 474 = .ok (.aload_n 0, 1) := dgrp_at dg_c_51 1 rfl
theorem dL_law_475 : decode cL_law 475 = .ok (.iload_n 3, 1) := dgrp_at dg_c_51 2 rfl
theorem dL_law_476 : decode cL_law 476 = .ok (.iconst 1, 1) := dgrp_at dg_c_51 3 rfl
theorem dL_law_477 : decode cL_law 477 = .ok (.iadd, 1) := dgrp_at dg_c_51 4 rfl
theorem dL_law_478 : decode cL_law 478 = .ok (.iaload, 1) := dgrp_at dg_c_51 5 rfl
theorem dL_law_479 : decode cL_law 479 = .ok (.invokevirtual 52, 3) := dgrp_at dg_c_51 6 rfl
theorem dL_law_482 : decode cL_law 482 = .ok (.pop, 1) := dgrp_at dg_c_51 7 rfl
theorem dL_law_483 : decode cL_law 483 = .ok (.aload_n 2, 1) := dgrp_at dg_c_51 8 rfl
theorem dL_law_484 : decode cL_law 484 = .ok (.aload_n 0, 1) := dgrp_at dg_c_51 9 rfl
theorem dL_law_485 : decode cL_law 485 = .ok (.iload_n 3, 1) := dgrp_at dg_c_51 10 rfl
theorem dL_law_486 : decode cL_law 486 = .ok (.iconst 1, 1) := dgrp_at dg_c_51 11 rfl
theorem dL_law_487 : decode cL_law 487 = .ok (.iadd, 1) := dgrp_at dg_c_51 12 rfl
theorem dL_law_488 : decode cL_law 488 = .ok (.iaload, 1) := dgrp_at dg_c_51 13 rfl
theorem dL_law_489 : decode cL_law 489 = .ok (.invokevirtual 55, 3) := dgrp_at dg_c_51 14 rfl
theorem dL_law_492 : decode cL_law 492 = .ok (.pop, 1) := dgrp_at dg_c_51 15 rfl
theorem dL_law_493 : decode cL_law 493 = .ok (.goto 789, 3) := dgrp_at dg_c_51 16 rfl
theorem dL_law_496 : decode cL_law 496 = .ok (.aload_n 1, 1) := dgrp_at dg_c_51 17 rfl
theorem dL_law_497 : decode cL_law 497 = .ok (.aload_n 0, 1) := dgrp_at dg_c_51 18 rfl
theorem dL_law_498 : decode cL_law 498 = .ok (.iload_n 3, 1) := dgrp_at dg_c_51 19 rfl
theorem dL_law_499 : decode cL_law 499 = .ok (.iconst 1, 1) := dgrp_at dg_c_51 20 rfl
theorem dL_law_500 : decode cL_law 500 = .ok (.iadd, 1) := dgrp_at dg_c_51 21 rfl
theorem dL_law_501 : decode cL_law 501 = .ok (.iaload, 1) := dgrp_at dg_c_51 22 rfl
theorem dL_law_502 : decode cL_law 502 = .ok (.invokevirtual 56, 3) := dgrp_at dg_c_51 23 rfl
theorem dL_law_505 : decode cL_law 505 = .ok (.pop, 1) := dgrp_at dg_c_51 24 rfl
theorem dL_law_506 : decode cL_law 506 = .ok (.aload_n 2, 1) := dgrp_at dg_c_51 25 rfl
theorem dL_law_507 : decode cL_law 507 = .ok (.aload_n 0, 1) := dgrp_at dg_c_51 26 rfl
theorem dL_law_508 : decode cL_law 508 = .ok (.iload_n 3, 1) := dgrp_at dg_c_51 27 rfl
theorem dL_law_509 : decode cL_law 509 = .ok (.iconst 1, 1) := dgrp_at dg_c_51 28 rfl
theorem dL_law_510 : decode cL_law 510 = .ok (.iadd, 1) := dgrp_at dg_c_51 29 rfl
theorem dL_law_511 : decode cL_law 511 = .ok (.iaload, 1) := dgrp_at dg_c_51 30 rfl
theorem dL_law_512 : decode cL_law 512 = .ok (.invokevirtual 59, 3) := dgrp_at dg_c_51 31 rfl
def dl_c_52 : List (Nat × Instr × Nat) := [(515, .pop, 1), (516, .goto 766, 3), (519, .aload_n 1, 1), (520, .aload_n 0, 1), (521, .iload_n 3, 1), (522, .iconst 1, 1), (523, .iadd, 1), (524, .iaload, 1), (525, .invokevirtual 60, 3), (528, .pop, 1), (529, .aload_n 2, 1), (530, .aload_n 0, 1), (531, .iload_n 3, 1), (532, .iconst 1, 1), (533, .iadd, 1), (534, .iaload, 1), (535, .invokevirtual 63, 3), (538, .pop, 1), (539, .goto 743, 3), (542, .aload_n 1, 1), (543, .aload_n 0, 1), (544, .iload_n 3, 1), (545, .iconst 1, 1), (546, .iadd, 1), (547, .iaload, 1), (548, .invokevirtual 64, 3), (551, .pop, 1), (552, .aload_n 2, 1), (553, .aload_n 0, 1), (554, .iload_n 3, 1), (555, .iconst 1, 1), (556, .iadd, 1)]
theorem dg_c_52 : dgrp cL_law dl_c_52 = true := by decide +kernel
theorem dL_law_515 : decode cL_law 515 = .ok (.pop, 1) := dgrp_at dg_c_52 0 rfl
theorem dL_law_516 : decode cL_law 516 = .ok (.goto 766, 3) := dgrp_at dg_c_52 1 rfl
theorem dL_law_519 : decode cL_law 519 = .ok (.aload_n 1, 1) := dgrp_at dg_c_52 2 rfl
theorem dL_law_520 : decode cL_law 520 = .ok (.aload_n 0, 1) := dgrp_at dg_c_52 3 rfl
theorem dL_law_521 : decode cL_law 521 = .ok (.iload_n 3, 1) := dgrp_at dg_c_52 4 rfl
theorem dL_law_522 : decode cL_law 522 = .ok (.iconst 1, 1) := dgrp_at dg_c_52 5 rfl
theorem dL_law_523 : decode cL_law 523 = .ok (.iadd, 1) := dgrp_at dg_c_52 6 rfl
theorem dL_law_524 : decode cL_law 524 = .ok (.iaload, 1) := dgrp_at dg_c_52 7 rfl
theorem dL_law_525 : decode cL_law 525 = .ok (.invokevirtual 60, 3) := dgrp_at dg_c_52 8 rfl
theorem dL_law_528 : decode cL_law 528 = .ok (.pop, 1) := dgrp_at dg_c_52 9 rfl
theorem dL_law_529 : decode cL_law 529 = .ok (.aload_n 2, 1) := dgrp_at dg_c_52 10 rfl
theorem dL_law_530 : decode cL_law 530 = .ok (.aload_n 0, 1) := dgrp_at dg_c_52 11 rfl
theorem dL_law_531 : decode cL_law 531 = .ok (.iload_n 3, 1) := dgrp_at dg_c_52 12 rfl
theorem dL_law_532 : decode cL_law 532 = .ok (.iconst 1, 1) := dgrp_at dg_c_52 13 rfl
theorem dL_law_533 : decode cL_law 533 = .ok (.iadd, 1) := dgrp_at dg_c_52 14 rfl
theorem dL_law_534 : decode cL_law 534 = .ok (.iaload, 1) := dgrp_at dg_c_52 15 rfl
theorem dL_law_535 : decode cL_law 535 = .ok (.invokevirtual 63, 3) := dgrp_at dg_c_52 16 rfl
theorem dL_law_538 : decode cL_law 538 = .ok (.pop, 1) := dgrp_at dg_c_52 17 rfl
theorem dL_law_539 : decode cL_law 539 = .ok (.goto 743, 3) := dgrp_at dg_c_52 18 rfl
theorem dL_law_542 : decode cL_law 542 = .ok (.aload_n 1, 1) := dgrp_at dg_c_52 19 rfl
theorem dL_law_543 : decode cL_law 543 = .ok (.aload_n 0, 1) := dgrp_at dg_c_52 20 rfl
theorem dL_law_544 : decode cL_law 544 = .ok (.iload_n 3, 1) := dgrp_at dg_c_52 21 rfl
theorem dL_law_545 : decode cL_law 545 = .ok (.iconst 1, 1) := dgrp_at dg_c_52 22 rfl
theorem dL_law_546 : decode cL_law 546 = .ok (.iadd, 1) := dgrp_at dg_c_52 23 rfl
theorem dL_law_547 : decode cL_law 547 = .ok (.iaload, 1) := dgrp_at dg_c_52 24 rfl
theorem dL_law_548 : decode cL_law 548 = .ok (.invokevirtual 64, 3) := dgrp_at dg_c_52 25 rfl
theorem dL_law_551 : decode cL_law 551 = .ok (.pop, 1) := dgrp_at dg_c_52 26 rfl
theorem dL_law_552 : decode cL_law 552 = .ok (.aload_n 2, 1) := dgrp_at dg_c_52 27 rfl
theorem dL_law_553 : decode cL_law 553 = .ok (.aload_n 0, 1) := dgrp_at dg_c_52 28 rfl
theorem dL_law_554 : decode cL_law 554 = .ok (.iload_n 3, 1) := dgrp_at dg_c_52 29 rfl
theorem dL_law_555 : decode cL_law 555 = .ok (.iconst 1, 1) := dgrp_at dg_c_52 30 rfl
theorem dL_law_556 : decode cL_law 556 = .ok (.iadd, 1) := dgrp_at dg_c_52 31 rfl
def dl_c_53 : List (Nat × Instr × Nat) := [(557, .iaload, 1), (558, .invokevirtual 67, 3), (561, .pop, 1), (562, .goto 720, 3), (565, .aload_n 1, 1), (566, .aload_n 0, 1), (567, .iload_n 3, 1), (568, .iconst 1, 1), (569, .iadd, 1), (570, .iaload, 1), (571, .invokevirtual 68, 3), (574, .pop, 1), (575, .aload_n 2, 1), (576, .aload_n 0, 1), (577, .iload_n 3, 1), (578, .iconst 1, 1), (579, .iadd, 1), (580, .iaload, 1), (581, .invokevirtual 71, 3), (584, .pop, 1), (585, .goto 697, 3), (588, .aload_n 1, 1), (589, .invokevirtual 72, 3), (592, .pop, 1), (593, .aload_n 2, 1), (594, .invokevirtual 75, 3), (597, .pop, 1), (598, .goto 684, 3), (601, .aload_n 1, 1), (602, .aload_n 0, 1), (603, .iload_n 3, 1), (604, .iconst 1, 1)]
theorem dg_c_53 : dgrp cL_law dl_c_53 = true := by decide +kernel
theorem dL_law_557 : decode cL_law 557 = .ok (.iaload, 1) := dgrp_at dg_c_53 0 rfl
theorem dL_law_558 : decode cL_law 558 = .ok (.invokevirtual 67, 3) := dgrp_at dg_c_53 1 rfl
theorem dL_law_561 : decode cL_law 561 = .ok (.pop, 1) := dgrp_at dg_c_53 2 rfl
theorem dL_law_562 : decode cL_law 562 = .ok (.goto 720, 3) := dgrp_at dg_c_53 3 rfl
theorem dL_law_565 : decode cL_law 565 = .ok (.aload_n 1, 1) := dgrp_at dg_c_53 4 rfl
theorem dL_law_566 : decode cL_law 566 = .ok (.aload_n 0, 1) := dgrp_at dg_c_53 5 rfl
theorem dL_law_567 : decode cL_law 567 = .ok (.iload_n 3, 1) := dgrp_at dg_c_53 6 rfl
theorem dL_law_568 : decode cL_law 568 = .ok (.iconst 1, 1) := dgrp_at dg_c_53 7 rfl
theorem dL_law_569 : decode cL_law 569 = .ok (.iadd, 1) := dgrp_at dg_c_53 8 rfl
theorem dL_law_570 : decode cL_law 570 = .ok (.iaload, 1) := dgrp_at dg_c_53 9 rfl
theorem dL_law_571 : decode cL_law 571 = .ok (.invokevirtual 68, 3) := dgrp_at dg_c_53 10 rfl
theorem dL_law_574 : decode cL_law 574 = .ok (.pop, 1) := dgrp_at dg_c_53 11 rfl
theorem dL_law_575 : decode cL_law 575 = .ok (.aload_n 2, 1) := dgrp_at dg_c_53 12 rfl
theorem dL_law_576 : decode cL_law 576 = .ok (.aload_n 0, 1) := dgrp_at dg_c_53 13 rfl
theorem dL_law_577 : decode cL_law 577 = .ok (.iload_n 3, 1) := dgrp_at dg_c_53 14 rfl
theorem dL_law_578 : decode cL_law 578 = .ok (.iconst 1, 1) := dgrp_at dg_c_53 15 rfl
theorem dL_law_579 : decode cL_law 579 = .ok (.iadd, 1) := dgrp_at dg_c_53 16 rfl
theorem dL_law_580 : decode cL_law 580 = .ok (.iaload, 1) := dgrp_at dg_c_53 17 rfl
theorem dL_law_581 : decode cL_law 581 = .ok (.invokevirtual 71, 3) := dgrp_at dg_c_53 18 rfl
theorem dL_law_584 : decode cL_law 584 = .ok (.pop, 1) := dgrp_at dg_c_53 19 rfl
theorem dL_law_585 : decode cL_law 585 = .ok (.goto 697, 3) := dgrp_at dg_c_53 20 rfl
theorem dL_law_588 : decode cL_law 588 = .ok (.aload_n 1, 1) := dgrp_at dg_c_53 21 rfl
theorem dL_law_589 : decode cL_law 589 = .ok (.invokevirtual 72, 3) := dgrp_at dg_c_53 22 rfl
theorem dL_law_592 : decode cL_law 592 = .ok (.pop, 1) := dgrp_at dg_c_53 23 rfl
theorem dL_law_593 : decode cL_law 593 = .ok (.aload_n 2, 1) := dgrp_at dg_c_53 24 rfl
theorem dL_law_594 : decode cL_law 594 = .ok (.invokevirtual 75, 3) := dgrp_at dg_c_53 25 rfl
theorem dL_law_597 : decode cL_law 597 = .ok (.pop, 1) := dgrp_at dg_c_53 26 rfl
theorem dL_law_598 : decode cL_law 598 = .ok (.goto 684, 3) := dgrp_at dg_c_53 27 rfl
theorem dL_law_601 : decode cL_law 601 = .ok (.aload_n 1, 1) := dgrp_at dg_c_53 28 rfl
theorem dL_law_602 : decode cL_law 602 = .ok (.aload_n 0, 1) := dgrp_at dg_c_53 29 rfl
theorem dL_law_603 : decode cL_law 603 = .ok (.iload_n 3, 1) := dgrp_at dg_c_53 30 rfl
theorem dL_law_604 : decode cL_law 604 = .ok (.iconst 1, 1) := dgrp_at dg_c_53 31 rfl
def dl_c_54 : List (Nat × Instr × Nat) := [(605, .iadd, 1), (606, .iaload, 1), (607, .invokevirtual 76, 3), (610, .pop, 1), (611, .aload_n 2, 1), (612, .aload_n 0, 1), (613, .iload_n 3, 1), (614, .iconst 1, 1), (615, .iadd, 1), (616, .iaload, 1), (617, .invokevirtual 79, 3), (620, .pop, 1), (621, .goto 661, 3), (624, .aload_n 1, 1), (625, .invokevirtual 80, 3), (628, .pop, 1), (629, .aload_n 2, 1), (630, .invokevirtual 83, 3), (633, .pop, 1), (634, .goto 648, 3), (637, .aload_n 1, 1), (638, .invokevirtual 84, 3), (641, .pop, 1), (642, .aload_n 2, 1), (643, .invokevirtual 87, 3), (646, .pop, 1), (647, .goto 635, 3), (650, .aload_n 1, 1), (651, .invokevirtual 88, 3), (654, .pop, 1), (655, .aload_n 2, 1), (656, .invokevirtual 91, 3)]
theorem dg_c_54 : dgrp cL_law dl_c_54 = true := by decide +kernel
theorem dL_law_605 : decode cL_law 605 = .ok (.iadd, 1) := dgrp_at dg_c_54 0 rfl
theorem dL_law_606 : decode cL_law 606 = .ok (.iaload, 1) := dgrp_at dg_c_54 1 rfl
theorem dL_law_607 : decode cL_law 607 = .ok (.invokevirtual 76, 3) := dgrp_at dg_c_54 2 rfl
theorem dL_law_610 : decode cL_law 610 = .ok (.pop, 1) := dgrp_at dg_c_54 3 rfl
theorem dL_law_611 : decode cL_law 611 = .ok (.aload_n 2, 1) := dgrp_at dg_c_54 4 rfl
theorem dL_law_612 : decode cL_law 612 = .ok (.aload_n 0, 1) := dgrp_at dg_c_54 5 rfl
theorem dL_law_613 : decode cL_law 613 = .ok (.iload_n 3, 1) := dgrp_at dg_c_54 6 rfl
theorem dL_law_614 : decode cL_law 614 = .ok (.iconst 1, 1) := dgrp_at dg_c_54 7 rfl
theorem dL_law_615 : decode cL_law 615 = .ok (.iadd, 1) := dgrp_at dg_c_54 8 rfl
theorem dL_law_616 : decode cL_law 616 = .ok (.iaload, 1) := dgrp_at dg_c_54 9 rfl
theorem dL_law_617 : decode cL_law 617 = .ok (.invokevirtual 79, 3) := dgrp_at dg_c_54 10 rfl
theorem dL_law_620 : decode cL_law 620 = .ok (.pop, 1) := dgrp_at dg_c_54 11 rfl
theorem dL_law_621 : decode cL_law 621 = .ok (.goto 661, 3) := dgrp_at dg_c_54 12 rfl
theorem dL_law_624 : decode cL_law 624 = .ok (.aload_n 1, 1) := dgrp_at dg_c_54 13 rfl
theorem dL_law_625 : decode cL_law 625 = .ok (.invokevirtual 80, 3) := dgrp_at dg_c_54 14 rfl
theorem dL_law_628 : decode cL_law 628 = .ok (.pop, 1) := dgrp_at dg_c_54 15 rfl
theorem dL_law_629 : decode cL_law 629 = .ok (.aload_n 2, 1) := dgrp_at dg_c_54 16 rfl
theorem dL_law_630 : decode cL_law 630 = .ok (.invokevirtual 83, 3) := dgrp_at dg_c_54 17 rfl
theorem dL_law_633 : decode cL_law 633 = .ok (.pop, 1) := dgrp_at dg_c_54 18 rfl
theorem dL_law_634 : decode cL_law 634 = .ok (.goto 648, 3) := dgrp_at dg_c_54 19 rfl
theorem dL_law_637 : decode cL_law 637 = .ok (.aload_n 1, 1) := dgrp_at dg_c_54 20 rfl
theorem dL_law_638 : decode cL_law 638 = .ok (.invokevirtual 84, 3) := dgrp_at dg_c_54 21 rfl
theorem dL_law_641 : decode cL_law 641 = .ok (.pop, 1) := dgrp_at dg_c_54 22 rfl
theorem dL_law_642 : decode cL_law 642 = .ok (.aload_n 2, 1) := dgrp_at dg_c_54 23 rfl
theorem dL_law_643 : decode cL_law 643 = .ok (.invokevirtual 87, 3) := dgrp_at dg_c_54 24 rfl
theorem dL_law_646 : decode cL_law 646 = .ok (.pop, 1) := dgrp_at dg_c_54 25 rfl
theorem dL_law_647 : decode cL_law 647 = .ok (.goto 635, 3) := dgrp_at dg_c_54 26 rfl
theorem dL_law_650 : decode cL_law 650 = .ok (.aload_n 1, 1) := dgrp_at dg_c_54 27 rfl
theorem dL_law_651 : decode cL_law 651 = .ok (.invokevirtual 88, 3) := dgrp_at dg_c_54 28 rfl
theorem dL_law_654 : decode cL_law 654 = .ok (.pop, 1) := dgrp_at dg_c_54 29 rfl
theorem dL_law_655 : decode cL_law 655 = .ok (.aload_n 2, 1) := dgrp_at dg_c_54 30 rfl
theorem dL_law_656 : decode cL_law 656 = .ok (.invokevirtual 91, 3) := dgrp_at dg_c_54 31 rfl
def dl_c_55 : List (Nat × Instr × Nat) := [(659, .pop, 1), (660, .goto 622, 3), (663, .aload_n 1, 1), (664, .aload_n 0, 1), (665, .iload_n 3, 1), (666, .iconst 1, 1), (667, .iadd, 1), (668, .iaload, 1), (669, .invokevirtual 92, 3), (672, .pop, 1), (673, .aload_n 2, 1), (674, .aload_n 0, 1), (675, .iload_n 3, 1), (676, .iconst 1, 1), (677, .iadd, 1), (678, .iaload, 1), (679, .invokevirtual 95, 3), (682, .pop, 1), (683, .goto 599, 3), (686, .aload_n 1, 1), (687, .aload_n 0, 1), (688, .iload_n 3, 1), (689, .iconst 1, 1), (690, .iadd, 1), (691, .iaload, 1), (692, .invokevirtual 96, 3), (695, .pop, 1), (696, .aload_n 2, 1), (697, .aload_n 0, 1), (698, .iload_n 3, 1), (699, .iconst 1, 1), (700, .iadd, 1)]
theorem dg_c_55 : dgrp cL_law dl_c_55 = true := by decide +kernel
theorem dL_law_659 : decode cL_law 659 = .ok (.pop, 1) := dgrp_at dg_c_55 0 rfl
theorem dL_law_660 : decode cL_law 660 = .ok (.goto 622, 3) := dgrp_at dg_c_55 1 rfl
theorem dL_law_663 : decode cL_law 663 = .ok (.aload_n 1, 1) := dgrp_at dg_c_55 2 rfl
theorem dL_law_664 : decode cL_law 664 = .ok (.aload_n 0, 1) := dgrp_at dg_c_55 3 rfl
theorem dL_law_665 : decode cL_law 665 = .ok (.iload_n 3, 1) := dgrp_at dg_c_55 4 rfl
theorem dL_law_666 : decode cL_law 666 = .ok (.iconst 1, 1) := dgrp_at dg_c_55 5 rfl
theorem dL_law_667 : decode cL_law 667 = .ok (.iadd, 1) := dgrp_at dg_c_55 6 rfl
theorem dL_law_668 : decode cL_law 668 = .ok (.iaload, 1) := dgrp_at dg_c_55 7 rfl
theorem dL_law_669 : decode cL_law 669 = .ok (.invokevirtual 92, 3) := dgrp_at dg_c_55 8 rfl
theorem dL_law_672 : decode cL_law 672 = .ok (.pop, 1) := dgrp_at dg_c_55 9 rfl
theorem dL_law_673 : decode cL_law 673 = .ok (.aload_n 2, 1) := dgrp_at dg_c_55 10 rfl
theorem dL_law_674 : decode cL_law 674 = .ok (.aload_n 0, 1) := dgrp_at dg_c_55 11 rfl
theorem dL_law_675 : decode cL_law 675 = .ok (.iload_n 3, 1) := dgrp_at dg_c_55 12 rfl
theorem dL_law_676 : decode cL_law 676 = .ok (.iconst 1, 1) := dgrp_at dg_c_55 13 rfl
theorem dL_law_677 : decode cL_law 677 = .ok (.iadd, 1) := dgrp_at dg_c_55 14 rfl
theorem dL_law_678 : decode cL_law 678 = .ok (.iaload, 1) := dgrp_at dg_c_55 15 rfl
theorem dL_law_679 : decode cL_law 679 = .ok (.invokevirtual 95, 3) := dgrp_at dg_c_55 16 rfl
theorem dL_law_682 : decode cL_law 682 = .ok (.pop, 1) := dgrp_at dg_c_55 17 rfl
theorem dL_law_683 : decode cL_law 683 = .ok (.goto 599, 3) := dgrp_at dg_c_55 18 rfl
theorem dL_law_686 : decode cL_law 686 = .ok (.aload_n 1, 1) := dgrp_at dg_c_55 19 rfl
theorem dL_law_687 : decode cL_law 687 = .ok (.aload_n 0, 1) := dgrp_at dg_c_55 20 rfl
theorem dL_law_688 : decode cL_law 688 = .ok (.iload_n 3, 1) := dgrp_at dg_c_55 21 rfl
theorem dL_law_689 : decode cL_law 689 = .ok (.iconst 1, 1) := dgrp_at dg_c_55 22 rfl
theorem dL_law_690 : decode cL_law 690 = .ok (.iadd, 1) := dgrp_at dg_c_55 23 rfl
theorem dL_law_691 : decode cL_law 691 = .ok (.iaload, 1) := dgrp_at dg_c_55 24 rfl
theorem dL_law_692 : decode cL_law 692 = .ok (.invokevirtual 96, 3) := dgrp_at dg_c_55 25 rfl
theorem dL_law_695 : decode cL_law 695 = .ok (.pop, 1) := dgrp_at dg_c_55 26 rfl
theorem dL_law_696 : decode cL_law 696 = .ok (.aload_n 2, 1) := dgrp_at dg_c_55 27 rfl
theorem dL_law_697 : decode cL_law 697 = .ok (.aload_n 0, 1) := dgrp_at dg_c_55 28 rfl
theorem dL_law_698 : decode cL_law 698 = .ok (.iload_n 3, 1) := dgrp_at dg_c_55 29 rfl
theorem dL_law_699 : decode cL_law 699 = .ok (.iconst 1, 1) := dgrp_at dg_c_55 30 rfl
theorem dL_law_700 : decode cL_law 700 = .ok (.iadd, 1) := dgrp_at dg_c_55 31 rfl
def dl_c_56 : List (Nat × Instr × Nat) := [(701, .iaload, 1), (702, .invokevirtual 99, 3), (705, .pop, 1), (706, .goto 576, 3), (709, .aload_n 1, 1), (710, .invokevirtual 100, 3), (713, .pop, 1), (714, .aload_n 2, 1), (715, .invokevirtual 103, 3), (718, .pop, 1), (719, .goto 563, 3), (722, .aload_n 1, 1), (723, .aload_n 0, 1), (724, .iload_n 3, 1), (725, .iconst 1, 1), (726, .iadd, 1), (727, .iaload, 1), (728, .aload_n 0, 1), (729, .iload_n 3, 1), (730, .iconst 2, 1), (731, .iadd, 1), (732, .iaload, 1), (733, .invokevirtual 104, 3), (736, .pop2, 1), (737, .aload_n 2, 1), (738, .aload_n 0, 1), (739, .iload_n 3, 1), (740, .iconst 1, 1), (741, .iadd, 1), (742, .iaload, 1), (743, .aload_n 0, 1), (744, .iload_n 3, 1)]
theorem dg_c_56 : dgrp cL_law dl_c_56 = true := by decide +kernel
theorem dL_law_701 : decode cL_law 701 = .ok (.iaload, 1) := dgrp_at dg_c_56 0 rfl
theorem dL_law_702 : decode cL_law 702 = .ok (.invokevirtual 99, 3) := dgrp_at dg_c_56 1 rfl
theorem dL_law_705 : decode cL_law 705 = .ok (.pop, 1) := dgrp_at dg_c_56 2 rfl
theorem dL_law_706 : decode cL_law 706 = .ok (.goto 576, 3) := dgrp_at dg_c_56 3 rfl
theorem dL_law_709 : decode cL_law 709 = .ok (.aload_n 1, 1) := dgrp_at dg_c_56 4 rfl
theorem dL_law_710 : decode cL_law 710 = .ok (.invokevirtual 100, 3) := dgrp_at dg_c_56 5 rfl
theorem dL_law_713 : decode cL_law 713 = .ok (.pop, 1) := dgrp_at dg_c_56 6 rfl
theorem dL_law_714 : decode cL_law 714 = .ok (.aload_n 2, 1) := dgrp_at dg_c_56 7 rfl
theorem dL_law_715 : decode cL_law 715 = .ok (.invokevirtual 103, 3) := dgrp_at dg_c_56 8 rfl
theorem dL_law_718 : decode cL_law 718 = .ok (.pop, 1) := dgrp_at dg_c_56 9 rfl
theorem dL_law_719 : decode cL_law 719 = .ok (.goto 563, 3) := dgrp_at dg_c_56 10 rfl
theorem dL_law_722 : decode cL_law 722 = .ok (.aload_n 1, 1) := dgrp_at dg_c_56 11 rfl
theorem dL_law_723 : decode cL_law 723 = .ok (.aload_n 0, 1) := dgrp_at dg_c_56 12 rfl
theorem dL_law_724 : decode cL_law 724 = .ok (.iload_n 3, 1) := dgrp_at dg_c_56 13 rfl
theorem dL_law_725 : decode cL_law 725 = .ok (.iconst 1, 1) := dgrp_at dg_c_56 14 rfl
theorem dL_law_726 : decode cL_law 726 = .ok (.iadd, 1) := dgrp_at dg_c_56 15 rfl
theorem dL_law_727 : decode cL_law 727 = .ok (.iaload, 1) := dgrp_at dg_c_56 16 rfl
theorem dL_law_728 : decode cL_law 728 = .ok (.aload_n 0, 1) := dgrp_at dg_c_56 17 rfl
theorem dL_law_729 : decode cL_law 729 = .ok (.iload_n 3, 1) := dgrp_at dg_c_56 18 rfl
theorem dL_law_730 : decode cL_law 730 = .ok (.iconst 2, 1) := dgrp_at dg_c_56 19 rfl
theorem dL_law_731 : decode cL_law 731 = .ok (.iadd, 1) := dgrp_at dg_c_56 20 rfl
theorem dL_law_732 : decode cL_law 732 = .ok (.iaload, 1) := dgrp_at dg_c_56 21 rfl
theorem dL_law_733 : decode cL_law 733 = .ok (.invokevirtual 104, 3) := dgrp_at dg_c_56 22 rfl
theorem dL_law_736 : decode cL_law 736 = .ok (.pop2, 1) := dgrp_at dg_c_56 23 rfl
theorem dL_law_737 : decode cL_law 737 = .ok (.aload_n 2, 1) := dgrp_at dg_c_56 24 rfl
theorem dL_law_738 : decode cL_law 738 = .ok (.aload_n 0, 1) := dgrp_at dg_c_56 25 rfl
theorem dL_law_739 : decode cL_law 739 = .ok (.iload_n 3, 1) := dgrp_at dg_c_56 26 rfl
theorem dL_law_740 : decode cL_law 740 = .ok (.iconst 1, 1) := dgrp_at dg_c_56 27 rfl
theorem dL_law_741 : decode cL_law 741 = .ok (.iadd, 1) := dgrp_at dg_c_56 28 rfl
theorem dL_law_742 : decode cL_law 742 = .ok (.iaload, 1) := dgrp_at dg_c_56 29 rfl
theorem dL_law_743 : decode cL_law 743 = .ok (.aload_n 0, 1) := dgrp_at dg_c_56 30 rfl
theorem dL_law_744 : decode cL_law 744 = .ok (.iload_n 3, 1) := dgrp_at dg_c_56 31 rfl
def dl_c_57 : List (Nat × Instr × Nat) := [(745, .iconst 2, 1), (746, .iadd, 1), (747, .iaload, 1), (748, .invokevirtual 108, 3), (751, .pop2, 1), (752, .goto 530, 3), (755, .aload_n 1, 1), (756, .aload_n 0, 1), (757, .iload_n 3, 1), (758, .iconst 1, 1), (759, .iadd, 1), (760, .iaload, 1), (761, .invokevirtual 109, 3), (764, .pop, 1), (765, .aload_n 2, 1), (766, .aload_n 0, 1), (767, .iload_n 3, 1), (768, .iconst 1, 1), (769, .iadd, 1), (770, .iaload, 1), (771, .invokevirtual 112, 3), (774, .pop, 1), (775, .goto 507, 3), (778, .aload_n 1, 1), (779, .aload_n 0, 1), (780, .iload_n 3, 1), (781, .iconst 1, 1), (782, .iadd, 1), (783, .iaload, 1), (784, .invokevirtual 113, 3), (787, .pop, 1), (788, .aload_n 2, 1)]
theorem dg_c_57 : dgrp cL_law dl_c_57 = true := by decide +kernel
theorem dL_law_745 : decode cL_law 745 = .ok (.iconst 2, 1) := dgrp_at dg_c_57 0 rfl
theorem dL_law_746 : decode cL_law 746 = .ok (.iadd, 1) := dgrp_at dg_c_57 1 rfl
theorem dL_law_747 : decode cL_law 747 = .ok (.iaload, 1) := dgrp_at dg_c_57 2 rfl
theorem dL_law_748 : decode cL_law 748 = .ok (.invokevirtual 108, 3) := dgrp_at dg_c_57 3 rfl
theorem dL_law_751 : decode cL_law 751 = .ok (.pop2, 1) := dgrp_at dg_c_57 4 rfl
theorem dL_law_752 : decode cL_law 752 = .ok (.goto 530, 3) := dgrp_at dg_c_57 5 rfl
theorem dL_law_755 : decode cL_law 755 = .ok (.aload_n 1, 1) := dgrp_at dg_c_57 6 rfl
theorem dL_law_756 : decode cL_law 756 = .ok (.aload_n 0, 1) := dgrp_at dg_c_57 7 rfl
theorem dL_law_757 : decode cL_law 757 = .ok (.iload_n 3, 1) := dgrp_at dg_c_57 8 rfl
theorem dL_law_758 : decode cL_law 758 = .ok (.iconst 1, 1) := dgrp_at dg_c_57 9 rfl
theorem dL_law_759 : decode cL_law 759 = .ok (.iadd, 1) := dgrp_at dg_c_57 10 rfl
theorem dL_law_760 : decode cL_law 760 = .ok (.iaload, 1) := dgrp_at dg_c_57 11 rfl
theorem dL_law_761 : decode cL_law 761 = .ok (.invokevirtual 109, 3) := dgrp_at dg_c_57 12 rfl
theorem dL_law_764 : decode cL_law 764 = .ok (.pop, 1) := dgrp_at dg_c_57 13 rfl
theorem dL_law_765 : decode cL_law 765 = .ok (.aload_n 2, 1) := dgrp_at dg_c_57 14 rfl
theorem dL_law_766 : decode cL_law 766 = .ok (.aload_n 0, 1) := dgrp_at dg_c_57 15 rfl
theorem dL_law_767 : decode cL_law 767 = .ok (.iload_n 3, 1) := dgrp_at dg_c_57 16 rfl
theorem dL_law_768 : decode cL_law 768 = .ok (.iconst 1, 1) := dgrp_at dg_c_57 17 rfl
theorem dL_law_769 : decode cL_law 769 = .ok (.iadd, 1) := dgrp_at dg_c_57 18 rfl
theorem dL_law_770 : decode cL_law 770 = .ok (.iaload, 1) := dgrp_at dg_c_57 19 rfl
theorem dL_law_771 : decode cL_law 771 = .ok (.invokevirtual 112, 3) := dgrp_at dg_c_57 20 rfl
theorem dL_law_774 : decode cL_law 774 = .ok (.pop, 1) := dgrp_at dg_c_57 21 rfl
theorem dL_law_775 : decode cL_law 775 = .ok (.goto 507, 3) := dgrp_at dg_c_57 22 rfl
theorem dL_law_778 : decode cL_law 778 = .ok (.aload_n 1, 1) := dgrp_at dg_c_57 23 rfl
theorem dL_law_779 : decode cL_law 779 = .ok (.aload_n 0, 1) := dgrp_at dg_c_57 24 rfl
theorem dL_law_780 : decode cL_law 780 = .ok (.iload_n 3, 1) := dgrp_at dg_c_57 25 rfl
theorem dL_law_781 : decode cL_law 781 = .ok (.iconst 1, 1) := dgrp_at dg_c_57 26 rfl
theorem dL_law_782 : decode cL_law 782 = .ok (.iadd, 1) := dgrp_at dg_c_57 27 rfl
theorem dL_law_783 : decode cL_law 783 = .ok (.iaload, 1) := dgrp_at dg_c_57 28 rfl
theorem dL_law_784 : decode cL_law 784 = .ok (.invokevirtual 113, 3) := dgrp_at dg_c_57 29 rfl
theorem dL_law_787 : decode cL_law 787 = .ok (.pop, 1) := dgrp_at dg_c_57 30 rfl
theorem dL_law_788 : decode cL_law 788 = .ok (.aload_n 2, 1) := dgrp_at dg_c_57 31 rfl
def dl_c_58 : List (Nat × Instr × Nat) := [(789, .aload_n 0, 1), (790, .iload_n 3, 1), (791, .iconst 1, 1), (792, .iadd, 1), (793, .iaload, 1), (794, .invokevirtual 116, 3), (797, .pop, 1), (798, .goto 484, 3), (801, .aload_n 1, 1), (802, .aload_n 0, 1), (803, .iload_n 3, 1), (804, .iconst 1, 1), (805, .iadd, 1), (806, .iaload, 1), (807, .invokevirtual 117, 3), (810, .pop, 1), (811, .aload_n 2, 1), (812, .aload_n 0, 1), (813, .iload_n 3, 1), (814, .iconst 1, 1), (815, .iadd, 1), (816, .iaload, 1), (817, .invokevirtual 120, 3), (820, .pop, 1), (821, .goto 461, 3), (824, .aload_n 1, 1), (825, .invokevirtual 121, 3), (828, .pop, 1), (829, .aload_n 2, 1), (830, .invokevirtual 124, 3), (833, .pop, 1), (834, .goto 448, 3)]
theorem dg_c_58 : dgrp cL_law dl_c_58 = true := by decide +kernel
theorem dL_law_789 : decode cL_law 789 = .ok (.aload_n 0, 1) := dgrp_at dg_c_58 0 rfl
theorem dL_law_790 : decode cL_law 790 = .ok (.iload_n 3, 1) := dgrp_at dg_c_58 1 rfl
theorem dL_law_791 : decode cL_law 791 = .ok (.iconst 1, 1) := dgrp_at dg_c_58 2 rfl
theorem dL_law_792 : decode cL_law 792 = .ok (.iadd, 1) := dgrp_at dg_c_58 3 rfl
theorem dL_law_793 : decode cL_law 793 = .ok (.iaload, 1) := dgrp_at dg_c_58 4 rfl
theorem dL_law_794 : decode cL_law 794 = .ok (.invokevirtual 116, 3) := dgrp_at dg_c_58 5 rfl
theorem dL_law_797 : decode cL_law 797 = .ok (.pop, 1) := dgrp_at dg_c_58 6 rfl
theorem dL_law_798 : decode cL_law 798 = .ok (.goto 484, 3) := dgrp_at dg_c_58 7 rfl
theorem dL_law_801 : decode cL_law 801 = .ok (.aload_n 1, 1) := dgrp_at dg_c_58 8 rfl
theorem dL_law_802 : decode cL_law 802 = .ok (.aload_n 0, 1) := dgrp_at dg_c_58 9 rfl
theorem dL_law_803 : decode cL_law 803 = .ok (.iload_n 3, 1) := dgrp_at dg_c_58 10 rfl
theorem dL_law_804 : decode cL_law 804 = .ok (.iconst 1, 1) := dgrp_at dg_c_58 11 rfl
theorem dL_law_805 : decode cL_law 805 = .ok (.iadd, 1) := dgrp_at dg_c_58 12 rfl
theorem dL_law_806 : decode cL_law 806 = .ok (.iaload, 1) := dgrp_at dg_c_58 13 rfl
theorem dL_law_807 : decode cL_law 807 = .ok (.invokevirtual 117, 3) := dgrp_at dg_c_58 14 rfl
theorem dL_law_810 : decode cL_law 810 = .ok (.pop, 1) := dgrp_at dg_c_58 15 rfl
theorem dL_law_811 : decode cL_law 811 = .ok (.aload_n 2, 1) := dgrp_at dg_c_58 16 rfl
theorem dL_law_812 : decode cL_law 812 = .ok (.aload_n 0, 1) := dgrp_at dg_c_58 17 rfl
theorem dL_law_813 : decode cL_law 813 = .ok (.iload_n 3, 1) := dgrp_at dg_c_58 18 rfl
theorem dL_law_814 : decode cL_law 814 = .ok (.iconst 1, 1) := dgrp_at dg_c_58 19 rfl
theorem dL_law_815 : decode cL_law 815 = .ok (.iadd, 1) := dgrp_at dg_c_58 20 rfl
theorem dL_law_816 : decode cL_law 816 = .ok (.iaload, 1) := dgrp_at dg_c_58 21 rfl
theorem dL_law_817 : decode cL_law 817 = .ok (.invokevirtual 120, 3) := dgrp_at dg_c_58 22 rfl
theorem dL_law_820 : decode cL_law 820 = .ok (.pop, 1) := dgrp_at dg_c_58 23 rfl
theorem dL_law_821 : decode cL_law 821 = .ok (.goto 461, 3) := dgrp_at dg_c_58 24 rfl
theorem dL_law_824 : decode cL_law 824 = .ok (.aload_n 1, 1) := dgrp_at dg_c_58 25 rfl
theorem dL_law_825 : decode cL_law 825 = .ok (.invokevirtual 121, 3) := dgrp_at dg_c_58 26 rfl
theorem dL_law_828 : decode cL_law 828 = .ok (.pop, 1) := dgrp_at dg_c_58 27 rfl
theorem dL_law_829 : decode cL_law 829 = .ok (.aload_n 2, 1) := dgrp_at dg_c_58 28 rfl
theorem dL_law_830 : decode cL_law 830 = .ok (.invokevirtual 124, 3) := dgrp_at dg_c_58 29 rfl
theorem dL_law_833 : decode cL_law 833 = .ok (.pop, 1) := dgrp_at dg_c_58 30 rfl
theorem dL_law_834 : decode cL_law 834 = .ok (.goto 448, 3) := dgrp_at dg_c_58 31 rfl
def dl_c_59 : List (Nat × Instr × Nat) := [(837, .aload_n 1, 1), (838, .aload_n 0, 1), (839, .iload_n 3, 1), (840, .iconst 1, 1), (841, .iadd, 1), (842, .iaload, 1), (843, .aload_n 0, 1), (844, .iload_n 3, 1), (845, .iconst 2, 1), (846, .iadd, 1), (847, .iaload, 1), (848, .invokevirtual 125, 3), (851, .pop, 1), (852, .aload_n 2, 1), (853, .aload_n 0, 1), (854, .iload_n 3, 1), (855, .iconst 1, 1), (856, .iadd, 1), (857, .iaload, 1), (858, .aload_n 0, 1), (859, .iload_n 3, 1), (860, .iconst 2, 1), (861, .iadd, 1), (862, .iaload, 1), (863, .invokevirtual 128, 3), (866, .pop, 1), (867, .goto 415, 3), (870, .aload_n 1, 1), (871, .aload_n 0, 1), (872, .iload_n 3, 1), (873, .iconst 1, 1), (874, .iadd, 1)]
theorem dg_c_59 : dgrp cL_law dl_c_59 = true := by decide +kernel
theorem dL_law_837 : decode cL_law 837 = .ok (.aload_n 1, 1) := dgrp_at dg_c_59 0 rfl
theorem dL_law_838 : decode cL_law 838 = .ok (.aload_n 0, 1) := dgrp_at dg_c_59 1 rfl
theorem dL_law_839 : decode cL_law 839 = .ok (.iload_n 3, 1) := dgrp_at dg_c_59 2 rfl
theorem dL_law_840 : decode cL_law 840 = .ok (.iconst 1, 1) := dgrp_at dg_c_59 3 rfl
theorem dL_law_841 : decode cL_law 841 = .ok (.iadd, 1) := dgrp_at dg_c_59 4 rfl
theorem dL_law_842 : decode cL_law 842 = .ok (.iaload, 1) := dgrp_at dg_c_59 5 rfl
theorem dL_law_843 : decode cL_law 843 = .ok (.aload_n 0, 1) := dgrp_at dg_c_59 6 rfl
theorem dL_law_844 : decode cL_law 844 = .ok (.iload_n 3, 1) := dgrp_at dg_c_59 7 rfl
theorem dL_law_845 : decode cL_law 845 = .ok (.iconst 2, 1) := dgrp_at dg_c_59 8 rfl
theorem dL_law_846 : decode cL_law 846 = .ok (.iadd, 1) := dgrp_at dg_c_59 9 rfl
theorem dL_law_847 : decode cL_law 847 = .ok (.iaload, 1) := dgrp_at dg_c_59 10 rfl
theorem dL_law_848 : decode cL_law 848 = .ok (.invokevirtual 125, 3) := dgrp_at dg_c_59 11 rfl
theorem dL_law_851 : decode cL_law 851 = .ok (.pop, 1) := dgrp_at dg_c_59 12 rfl
theorem dL_law_852 : decode cL_law 852 = .ok (.aload_n 2, 1) := dgrp_at dg_c_59 13 rfl
theorem dL_law_853 : decode cL_law 853 = .ok (.aload_n 0, 1) := dgrp_at dg_c_59 14 rfl
theorem dL_law_854 : decode cL_law 854 = .ok (.iload_n 3, 1) := dgrp_at dg_c_59 15 rfl
theorem dL_law_855 : decode cL_law 855 = .ok (.iconst 1, 1) := dgrp_at dg_c_59 16 rfl
theorem dL_law_856 : decode cL_law 856 = .ok (.iadd, 1) := dgrp_at dg_c_59 17 rfl
theorem dL_law_857 : decode cL_law 857 = .ok (.iaload, 1) := dgrp_at dg_c_59 18 rfl
theorem dL_law_858 : decode cL_law 858 = .ok (.aload_n 0, 1) := dgrp_at dg_c_59 19 rfl
theorem dL_law_859 : decode cL_law 859 = .ok (.iload_n 3, 1) := dgrp_at dg_c_59 20 rfl
theorem dL_law_860 : decode cL_law 860 = .ok (.iconst 2, 1) := dgrp_at dg_c_59 21 rfl
theorem dL_law_861 : decode cL_law 861 = .ok (.iadd, 1) := dgrp_at dg_c_59 22 rfl
theorem dL_law_862 : decode cL_law 862 = .ok (.iaload, 1) := dgrp_at dg_c_59 23 rfl
theorem dL_law_863 : decode cL_law 863 = .ok (.invokevirtual 128, 3) := dgrp_at dg_c_59 24 rfl
theorem dL_law_866 : decode cL_law 866 = .ok (.pop, 1) := dgrp_at dg_c_59 25 rfl
theorem dL_law_867 : decode cL_law 867 = .ok (.goto 415, 3) := dgrp_at dg_c_59 26 rfl
theorem dL_law_870 : decode cL_law 870 = .ok (.aload_n 1, 1) := dgrp_at dg_c_59 27 rfl
theorem dL_law_871 : decode cL_law 871 = .ok (.aload_n 0, 1) := dgrp_at dg_c_59 28 rfl
theorem dL_law_872 : decode cL_law 872 = .ok (.iload_n 3, 1) := dgrp_at dg_c_59 29 rfl
theorem dL_law_873 : decode cL_law 873 = .ok (.iconst 1, 1) := dgrp_at dg_c_59 30 rfl
theorem dL_law_874 : decode cL_law 874 = .ok (.iadd, 1) := dgrp_at dg_c_59 31 rfl
def dl_c_60 : List (Nat × Instr × Nat) := [(875, .iaload, 1), (876, .aload_n 0, 1), (877, .iload_n 3, 1), (878, .iconst 2, 1), (879, .iadd, 1), (880, .iaload, 1), (881, .invokevirtual 129, 3), (884, .pop, 1), (885, .aload_n 2, 1), (886, .aload_n 0, 1), (887, .iload_n 3, 1), (888, .iconst 1, 1), (889, .iadd, 1), (890, .iaload, 1), (891, .aload_n 0, 1), (892, .iload_n 3, 1), (893, .iconst 2, 1), (894, .iadd, 1), (895, .iaload, 1), (896, .invokevirtual 132, 3), (899, .pop, 1), (900, .goto 382, 3), (903, .aload_n 1, 1), (904, .aload_n 0, 1), (905, .iload_n 3, 1), (906, .iconst 1, 1), (907, .iadd, 1), (908, .iaload, 1), (909, .invokevirtual 133, 3), (912, .pop, 1), (913, .aload_n 2, 1), (914, .aload_n 0, 1)]
theorem dg_c_60 : dgrp cL_law dl_c_60 = true := by decide +kernel
theorem dL_law_875 : decode cL_law 875 = .ok (.iaload, 1) := dgrp_at dg_c_60 0 rfl
theorem dL_law_876 : decode cL_law 876 = .ok (.aload_n 0, 1) := dgrp_at dg_c_60 1 rfl
theorem dL_law_877 : decode cL_law 877 = .ok (.iload_n 3, 1) := dgrp_at dg_c_60 2 rfl
theorem dL_law_878 : decode cL_law 878 = .ok (.iconst 2, 1) := dgrp_at dg_c_60 3 rfl
theorem dL_law_879 : decode cL_law 879 = .ok (.iadd, 1) := dgrp_at dg_c_60 4 rfl
theorem dL_law_880 : decode cL_law 880 = .ok (.iaload, 1) := dgrp_at dg_c_60 5 rfl
theorem dL_law_881 : decode cL_law 881 = .ok (.invokevirtual 129, 3) := dgrp_at dg_c_60 6 rfl
theorem dL_law_884 : decode cL_law 884 = .ok (.pop, 1) := dgrp_at dg_c_60 7 rfl
theorem dL_law_885 : decode cL_law 885 = .ok (.aload_n 2, 1) := dgrp_at dg_c_60 8 rfl
theorem dL_law_886 : decode cL_law 886 = .ok (.aload_n 0, 1) := dgrp_at dg_c_60 9 rfl
theorem dL_law_887 : decode cL_law 887 = .ok (.iload_n 3, 1) := dgrp_at dg_c_60 10 rfl
theorem dL_law_888 : decode cL_law 888 = .ok (.iconst 1, 1) := dgrp_at dg_c_60 11 rfl
theorem dL_law_889 : decode cL_law 889 = .ok (.iadd, 1) := dgrp_at dg_c_60 12 rfl
theorem dL_law_890 : decode cL_law 890 = .ok (.iaload, 1) := dgrp_at dg_c_60 13 rfl
theorem dL_law_891 : decode cL_law 891 = .ok (.aload_n 0, 1) := dgrp_at dg_c_60 14 rfl
theorem dL_law_892 : decode cL_law 892 = .ok (.iload_n 3, 1) := dgrp_at dg_c_60 15 rfl
theorem dL_law_893 : decode cL_law 893 = .ok (.iconst 2, 1) := dgrp_at dg_c_60 16 rfl
theorem dL_law_894 : decode cL_law 894 = .ok (.iadd, 1) := dgrp_at dg_c_60 17 rfl
theorem dL_law_895 : decode cL_law 895 = .ok (.iaload, 1) := dgrp_at dg_c_60 18 rfl
theorem dL_law_896 : decode cL_law 896 = .ok (.invokevirtual 132, 3) := dgrp_at dg_c_60 19 rfl
theorem dL_law_899 : decode cL_law 899 = .ok (.pop, 1) := dgrp_at dg_c_60 20 rfl
theorem dL_law_900 : decode cL_law 900 = .ok (.goto 382, 3) := dgrp_at dg_c_60 21 rfl
theorem dL_law_903 : decode cL_law 903 = .ok (.aload_n 1, 1) := dgrp_at dg_c_60 22 rfl
theorem dL_law_904 : decode cL_law 904 = .ok (.aload_n 0, 1) := dgrp_at dg_c_60 23 rfl
theorem dL_law_905 : decode cL_law 905 = .ok (.iload_n 3, 1) := dgrp_at dg_c_60 24 rfl
theorem dL_law_906 : decode cL_law 906 = .ok (.iconst 1, 1) := dgrp_at dg_c_60 25 rfl
theorem dL_law_907 : decode cL_law 907 = .ok (.iadd, 1) := dgrp_at dg_c_60 26 rfl
theorem dL_law_908 : decode cL_law 908 = .ok (.iaload, 1) := dgrp_at dg_c_60 27 rfl
theorem dL_law_909 : decode cL_law 909 = .ok (.invokevirtual 133, 3) := dgrp_at dg_c_60 28 rfl
theorem dL_law_912 : decode cL_law 912 = .ok (.pop, 1) := dgrp_at dg_c_60 29 rfl
theorem dL_law_913 : decode cL_law 913 = .ok (.aload_n 2, 1) := dgrp_at dg_c_60 30 rfl
theorem dL_law_914 : decode cL_law 914 = .ok (.aload_n 0, 1) := dgrp_at dg_c_60 31 rfl
def dl_c_61 : List (Nat × Instr × Nat) := [(915, .iload_n 3, 1), (916, .iconst 1, 1), (917, .iadd, 1), (918, .iaload, 1), (919, .invokevirtual 136, 3), (922, .pop, 1), (923, .goto 359, 3), (926, .aload_n 1, 1), (927, .aload_n 0, 1), (928, .iload_n 3, 1), (929, .iconst 1, 1), (930, .iadd, 1), (931, .iaload, 1), (932, .invokevirtual 137, 3), (935, .pop, 1), (936, .aload_n 2, 1), (937, .aload_n 0, 1), (938, .iload_n 3, 1), (939, .iconst 1, 1), (940, .iadd, 1), (941, .iaload, 1), (942, .invokevirtual 140, 3), (945, .pop, 1), (946, .goto 336, 3), (949, .aload_n 1, 1), (950, .aload_n 0, 1), (951, .iload_n 3, 1), (952, .iconst 1, 1), (953, .iadd, 1), (954, .iaload, 1), (955, .aload_n 0, 1), (956, .iload_n 3, 1)]
theorem dg_c_61 : dgrp cL_law dl_c_61 = true := by decide +kernel
theorem dL_law_915 : decode cL_law 915 = .ok (.iload_n 3, 1) := dgrp_at dg_c_61 0 rfl
theorem dL_law_916 : decode cL_law 916 = .ok (.iconst 1, 1) := dgrp_at dg_c_61 1 rfl
theorem dL_law_917 : decode cL_law 917 = .ok (.iadd, 1) := dgrp_at dg_c_61 2 rfl
theorem dL_law_918 : decode cL_law 918 = .ok (.iaload, 1) := dgrp_at dg_c_61 3 rfl
theorem dL_law_919 : decode cL_law 919 = .ok (.invokevirtual 136, 3) := dgrp_at dg_c_61 4 rfl
theorem dL_law_922 : decode cL_law 922 = .ok (.pop, 1) := dgrp_at dg_c_61 5 rfl
theorem dL_law_923 : decode cL_law 923 = .ok (.goto 359, 3) := dgrp_at dg_c_61 6 rfl
theorem dL_law_926 : decode cL_law 926 = .ok (.aload_n 1, 1) := dgrp_at dg_c_61 7 rfl
theorem dL_law_927 : decode cL_law 927 = .ok (.aload_n 0, 1) := dgrp_at dg_c_61 8 rfl
theorem dL_law_928 : decode cL_law 928 = .ok (.iload_n 3, 1) := dgrp_at dg_c_61 9 rfl
theorem dL_law_929 : decode cL_law 929 = .ok (.iconst 1, 1) := dgrp_at dg_c_61 10 rfl
theorem dL_law_930 : decode cL_law 930 = .ok (.iadd, 1) := dgrp_at dg_c_61 11 rfl
theorem dL_law_931 : decode cL_law 931 = .ok (.iaload, 1) := dgrp_at dg_c_61 12 rfl
theorem dL_law_932 : decode cL_law 932 = .ok (.invokevirtual 137, 3) := dgrp_at dg_c_61 13 rfl
theorem dL_law_935 : decode cL_law 935 = .ok (.pop, 1) := dgrp_at dg_c_61 14 rfl
theorem dL_law_936 : decode cL_law 936 = .ok (.aload_n 2, 1) := dgrp_at dg_c_61 15 rfl
theorem dL_law_937 : decode cL_law 937 = .ok (.aload_n 0, 1) := dgrp_at dg_c_61 16 rfl
theorem dL_law_938 : decode cL_law 938 = .ok (.iload_n 3, 1) := dgrp_at dg_c_61 17 rfl
theorem dL_law_939 : decode cL_law 939 = .ok (.iconst 1, 1) := dgrp_at dg_c_61 18 rfl
theorem dL_law_940 : decode cL_law 940 = .ok (.iadd, 1) := dgrp_at dg_c_61 19 rfl
theorem dL_law_941 : decode cL_law 941 = .ok (.iaload, 1) := dgrp_at dg_c_61 20 rfl
theorem dL_law_942 : decode cL_law 942 = .ok (.invokevirtual 140, 3) := dgrp_at dg_c_61 21 rfl
theorem dL_law_945 : decode cL_law 945 = .ok (.pop, 1) := dgrp_at dg_c_61 22 rfl
theorem dL_law_946 : decode cL_law 946 = .ok (.goto 336, 3) := dgrp_at dg_c_61 23 rfl
theorem dL_law_949 : decode cL_law 949 = .ok (.aload_n 1, 1) := dgrp_at dg_c_61 24 rfl
theorem dL_law_950 : decode cL_law 950 = .ok (.aload_n 0, 1) := dgrp_at dg_c_61 25 rfl
theorem dL_law_951 : decode cL_law 951 = .ok (.iload_n 3, 1) := dgrp_at dg_c_61 26 rfl
theorem dL_law_952 : decode cL_law 952 = .ok (.iconst 1, 1) := dgrp_at dg_c_61 27 rfl
theorem dL_law_953 : decode cL_law 953 = .ok (.iadd, 1) := dgrp_at dg_c_61 28 rfl
theorem dL_law_954 : decode cL_law 954 = .ok (.iaload, 1) := dgrp_at dg_c_61 29 rfl
theorem dL_law_955 : decode cL_law 955 = .ok (.aload_n 0, 1) := dgrp_at dg_c_61 30 rfl
theorem dL_law_956 : decode cL_law 956 = .ok (.iload_n 3, 1) := dgrp_at dg_c_61 31 rfl
def dl_c_62 : List (Nat × Instr × Nat) := [(957, .iconst 2, 1), (958, .iadd, 1), (959, .iaload, 1), (960, .aload_n 0, 1), (961, .iload_n 3, 1), (962, .iconst 3, 1), (963, .iadd, 1), (964, .iaload, 1), (965, .invokevirtual 141, 3), (968, .pop, 1), (969, .aload_n 2, 1), (970, .aload_n 0, 1), (971, .iload_n 3, 1), (972, .iconst 1, 1), (973, .iadd, 1), (974, .iaload, 1), (975, .aload_n 0, 1), (976, .iload_n 3, 1), (977, .iconst 2, 1), (978, .iadd, 1), (979, .iaload, 1), (980, .aload_n 0, 1), (981, .iload_n 3, 1), (982, .iconst 3, 1), (983, .iadd, 1), (984, .iaload, 1), (985, .invokevirtual 145, 3), (988, .pop, 1), (989, .goto 293, 3), (992, .aload_n 1, 1), (993, .aload_n 0, 1), (994, .iload_n 3, 1)]
theorem dg_c_62 : dgrp cL_law dl_c_62 = true := by decide +kernel
theorem dL_law_957 : decode cL_law 957 = .ok (.iconst 2, 1) := dgrp_at dg_c_62 0 rfl
theorem dL_law_958 : decode cL_law 958 = .ok (.iadd, 1) := dgrp_at dg_c_62 1 rfl
theorem dL_law_959 : decode cL_law 959 = .ok (.iaload, 1) := dgrp_at dg_c_62 2 rfl
theorem dL_law_960 : decode cL_law 960 = .ok (.aload_n 0, 1) := dgrp_at dg_c_62 3 rfl
theorem dL_law_961 : decode cL_law 961 = .ok (.iload_n 3, 1) := dgrp_at dg_c_62 4 rfl
theorem dL_law_962 : decode cL_law 962 = .ok (.iconst 3, 1) := dgrp_at dg_c_62 5 rfl
theorem dL_law_963 : decode cL_law 963 = .ok (.iadd, 1) := dgrp_at dg_c_62 6 rfl
theorem dL_law_964 : decode cL_law 964 = .ok (.iaload, 1) := dgrp_at dg_c_62 7 rfl
theorem dL_law_965 : decode cL_law 965 = .ok (.invokevirtual 141, 3) := dgrp_at dg_c_62 8 rfl
theorem dL_law_968 : decode cL_law 968 = .ok (.pop, 1) := dgrp_at dg_c_62 9 rfl
theorem dL_law_969 : decode cL_law 969 = .ok (.aload_n 2, 1) := dgrp_at dg_c_62 10 rfl
theorem dL_law_970 : decode cL_law 970 = .ok (.aload_n 0, 1) := dgrp_at dg_c_62 11 rfl
theorem dL_law_971 : decode cL_law 971 = .ok (.iload_n 3, 1) := dgrp_at dg_c_62 12 rfl
theorem dL_law_972 : decode cL_law 972 = .ok (.iconst 1, 1) := dgrp_at dg_c_62 13 rfl
theorem dL_law_973 : decode cL_law 973 = .ok (.iadd, 1) := dgrp_at dg_c_62 14 rfl
theorem dL_law_974 : decode cL_law 974 = .ok (.iaload, 1) := dgrp_at dg_c_62 15 rfl
theorem dL_law_975 : decode cL_law 975 = .ok (.aload_n 0, 1) := dgrp_at dg_c_62 16 rfl
theorem dL_law_976 : decode cL_law 976 = .ok (.iload_n 3, 1) := dgrp_at dg_c_62 17 rfl
theorem dL_law_977 : decode cL_law 977 = .ok (.iconst 2, 1) := dgrp_at dg_c_62 18 rfl
theorem dL_law_978 : decode cL_law 978 = .ok (.iadd, 1) := dgrp_at dg_c_62 19 rfl
theorem dL_law_979 : decode cL_law 979 = .ok (.iaload, 1) := dgrp_at dg_c_62 20 rfl
theorem dL_law_980 : decode cL_law 980 = .ok (.aload_n 0, 1) := dgrp_at dg_c_62 21 rfl
theorem dL_law_981 : decode cL_law 981 = .ok (.iload_n 3, 1) := dgrp_at dg_c_62 22 rfl
theorem dL_law_982 : decode cL_law 982 = .ok (.iconst 3, 1) := dgrp_at dg_c_62 23 rfl
theorem dL_law_983 : decode cL_law 983 = .ok (.iadd, 1) := dgrp_at dg_c_62 24 rfl
theorem dL_law_984 : decode cL_law 984 = .ok (.iaload, 1) := dgrp_at dg_c_62 25 rfl
theorem dL_law_985 : decode cL_law 985 = .ok (.invokevirtual 145, 3) := dgrp_at dg_c_62 26 rfl
theorem dL_law_988 : decode cL_law 988 = .ok (.pop, 1) := dgrp_at dg_c_62 27 rfl
theorem dL_law_989 : decode cL_law 989 = .ok (.goto 293, 3) := dgrp_at dg_c_62 28 rfl
theorem dL_law_992 : decode cL_law 992 = .ok (.aload_n 1, 1) := dgrp_at dg_c_62 29 rfl
theorem dL_law_993 : decode cL_law 993 = .ok (.aload_n 0, 1) := dgrp_at dg_c_62 30 rfl
theorem dL_law_994 : decode cL_law 994 = .ok (.iload_n 3, 1) := dgrp_at dg_c_62 31 rfl
def dl_c_63 : List (Nat × Instr × Nat) := [(995, .iconst 1, 1), (996, .iadd, 1), (997, .iaload, 1), (998, .aload_n 0, 1), (999, .iload_n 3, 1), (1000, .iconst 2, 1), (1001, .iadd, 1), (1002, .iaload, 1), (1003, .aload_n 0, 1), (1004, .iload_n 3, 1), (1005, .iconst 3, 1), (1006, .iadd, 1), (1007, .iaload, 1), (1008, .i2l, 1), (1009, .bipush 32, 2), (1011, .lshl, 1), (1012, .aload_n 0, 1), (1013, .iload_n 3, 1), (1014, .iconst 4, 1), (1015, .iadd, 1), (1016, .iaload, 1), (1017, .i2l, 1), (1018, .ldc2_w 146, 3), (1021, .land, 1), (1022, .lor, 1), (1023, .invokevirtual 148, 3), (1026, .pop2, 1), (1027, .aload_n 2, 1), (1028, .aload_n 0, 1), (1029, .iload_n 3, 1), (1030, .iconst 1, 1), (1031, .iadd, 1)]
theorem dg_c_63 : dgrp cL_law dl_c_63 = true := by decide +kernel
theorem dL_law_995 : decode cL_law 995 = .ok (.iconst 1, 1) := dgrp_at dg_c_63 0 rfl
theorem dL_law_996 : decode cL_law 996 = .ok (.iadd, 1) := dgrp_at dg_c_63 1 rfl
theorem dL_law_997 : decode cL_law 997 = .ok (.iaload, 1) := dgrp_at dg_c_63 2 rfl
theorem dL_law_998 : decode cL_law 998 = .ok (.aload_n 0, 1) := dgrp_at dg_c_63 3 rfl
theorem dL_law_999 : decode cL_law 999 = .ok (.iload_n 3, 1) := dgrp_at dg_c_63 4 rfl
theorem dL_law_1000 : decode cL_law 1000 = .ok (.iconst 2, 1) := dgrp_at dg_c_63 5 rfl
theorem dL_law_1001 : decode cL_law 1001 = .ok (.iadd, 1) := dgrp_at dg_c_63 6 rfl
theorem dL_law_1002 : decode cL_law 1002 = .ok (.iaload, 1) := dgrp_at dg_c_63 7 rfl
theorem dL_law_1003 : decode cL_law 1003 = .ok (.aload_n 0, 1) := dgrp_at dg_c_63 8 rfl
theorem dL_law_1004 : decode cL_law 1004 = .ok (.iload_n 3, 1) := dgrp_at dg_c_63 9 rfl
theorem dL_law_1005 : decode cL_law 1005 = .ok (.iconst 3, 1) := dgrp_at dg_c_63 10 rfl
theorem dL_law_1006 : decode cL_law 1006 = .ok (.iadd, 1) := dgrp_at dg_c_63 11 rfl
theorem dL_law_1007 : decode cL_law 1007 = .ok (.iaload, 1) := dgrp_at dg_c_63 12 rfl
theorem dL_law_1008 : decode cL_law 1008 = .ok (.i2l, 1) := dgrp_at dg_c_63 13 rfl
theorem dL_law_1009 : decode cL_law 1009 = .ok (.bipush 32, 2) := dgrp_at dg_c_63 14 rfl
theorem dL_law_1011 : decode cL_law 1011 = .ok (.lshl, 1) := dgrp_at dg_c_63 15 rfl
theorem dL_law_1012 : decode cL_law 1012 = .ok (.aload_n 0, 1) := dgrp_at dg_c_63 16 rfl
theorem dL_law_1013 : decode cL_law 1013 = .ok (.iload_n 3, 1) := dgrp_at dg_c_63 17 rfl
theorem dL_law_1014 : decode cL_law 1014 = .ok (.iconst 4, 1) := dgrp_at dg_c_63 18 rfl
theorem dL_law_1015 : decode cL_law 1015 = .ok (.iadd, 1) := dgrp_at dg_c_63 19 rfl
theorem dL_law_1016 : decode cL_law 1016 = .ok (.iaload, 1) := dgrp_at dg_c_63 20 rfl
theorem dL_law_1017 : decode cL_law 1017 = .ok (.i2l, 1) := dgrp_at dg_c_63 21 rfl
theorem dL_law_1018 : decode cL_law 1018 = .ok (.ldc2_w 146, 3) := dgrp_at dg_c_63 22 rfl
theorem dL_law_1021 : decode cL_law 1021 = .ok (.land, 1) := dgrp_at dg_c_63 23 rfl
theorem dL_law_1022 : decode cL_law 1022 = .ok (.lor, 1) := dgrp_at dg_c_63 24 rfl
theorem dL_law_1023 : decode cL_law 1023 = .ok (.invokevirtual 148, 3) := dgrp_at dg_c_63 25 rfl
theorem dL_law_1026 : decode cL_law 1026 = .ok (.pop2, 1) := dgrp_at dg_c_63 26 rfl
theorem dL_law_1027 : decode cL_law 1027 = .ok (.aload_n 2, 1) := dgrp_at dg_c_63 27 rfl
theorem dL_law_1028 : decode cL_law 1028 = .ok (.aload_n 0, 1) := dgrp_at dg_c_63 28 rfl
theorem dL_law_1029 : decode cL_law 1029 = .ok (.iload_n 3, 1) := dgrp_at dg_c_63 29 rfl
theorem dL_law_1030 : decode cL_law 1030 = .ok (.iconst 1, 1) := dgrp_at dg_c_63 30 rfl
theorem dL_law_1031 : decode cL_law 1031 = .ok (.iadd, 1) := dgrp_at dg_c_63 31 rfl
def dl_c_64 : List (Nat × Instr × Nat) := [(1032, .iaload, 1), (1033, .aload_n 0, 1), (1034, .iload_n 3, 1), (1035, .iconst 2, 1), (1036, .iadd, 1), (1037, .iaload, 1), (1038, .aload_n 0, 1), (1039, .iload_n 3, 1), (1040, .iconst 3, 1), (1041, .iadd, 1), (1042, .iaload, 1), (1043, .i2l, 1), (1044, .bipush 32, 2), (1046, .lshl, 1), (1047, .aload_n 0, 1), (1048, .iload_n 3, 1), (1049, .iconst 4, 1), (1050, .iadd, 1), (1051, .iaload, 1), (1052, .i2l, 1), (1053, .ldc2_w 146, 3), (1056, .land, 1), (1057, .lor, 1), (1058, .invokevirtual 152, 3), (1061, .pop2, 1), (1062, .goto 220, 3), (1065, .aload_n 1, 1), (1066, .aload_n 0, 1), (1067, .iload_n 3, 1), (1068, .iconst 1, 1), (1069, .iadd, 1), (1070, .iaload, 1)]
theorem dg_c_64 : dgrp cL_law dl_c_64 = true := by decide +kernel
theorem dL_law_1032 : decode cL_law 1032 = .ok (.iaload, 1) := dgrp_at dg_c_64 0 rfl
theorem dL_law_1033 : decode cL_law 1033 = .ok (.aload_n 0, 1) := dgrp_at dg_c_64 1 rfl
theorem dL_law_1034 : decode cL_law 1034 = .ok (.iload_n 3, 1) := dgrp_at dg_c_64 2 rfl
theorem dL_law_1035 : decode cL_law 1035 = .ok (.iconst 2, 1) := dgrp_at dg_c_64 3 rfl
theorem dL_law_1036 : decode cL_law 1036 = .ok (.iadd, 1) := dgrp_at dg_c_64 4 rfl
theorem dL_law_1037 : decode cL_law 1037 = .ok (.iaload, 1) := dgrp_at dg_c_64 5 rfl
theorem dL_law_1038 : decode cL_law 1038 = .ok (.aload_n 0, 1) := dgrp_at dg_c_64 6 rfl
theorem dL_law_1039 : decode cL_law 1039 = .ok (.iload_n 3, 1) := dgrp_at dg_c_64 7 rfl
theorem dL_law_1040 : decode cL_law 1040 = .ok (.iconst 3, 1) := dgrp_at dg_c_64 8 rfl
theorem dL_law_1041 : decode cL_law 1041 = .ok (.iadd, 1) := dgrp_at dg_c_64 9 rfl
theorem dL_law_1042 : decode cL_law 1042 = .ok (.iaload, 1) := dgrp_at dg_c_64 10 rfl
theorem dL_law_1043 : decode cL_law 1043 = .ok (.i2l, 1) := dgrp_at dg_c_64 11 rfl
theorem dL_law_1044 : decode cL_law 1044 = .ok (.bipush 32, 2) := dgrp_at dg_c_64 12 rfl
theorem dL_law_1046 : decode cL_law 1046 = .ok (.lshl, 1) := dgrp_at dg_c_64 13 rfl
theorem dL_law_1047 : decode cL_law 1047 = .ok (.aload_n 0, 1) := dgrp_at dg_c_64 14 rfl
theorem dL_law_1048 : decode cL_law 1048 = .ok (.iload_n 3, 1) := dgrp_at dg_c_64 15 rfl
theorem dL_law_1049 : decode cL_law 1049 = .ok (.iconst 4, 1) := dgrp_at dg_c_64 16 rfl
theorem dL_law_1050 : decode cL_law 1050 = .ok (.iadd, 1) := dgrp_at dg_c_64 17 rfl
theorem dL_law_1051 : decode cL_law 1051 = .ok (.iaload, 1) := dgrp_at dg_c_64 18 rfl
theorem dL_law_1052 : decode cL_law 1052 = .ok (.i2l, 1) := dgrp_at dg_c_64 19 rfl
theorem dL_law_1053 : decode cL_law 1053 = .ok (.ldc2_w 146, 3) := dgrp_at dg_c_64 20 rfl
theorem dL_law_1056 : decode cL_law 1056 = .ok (.land, 1) := dgrp_at dg_c_64 21 rfl
theorem dL_law_1057 : decode cL_law 1057 = .ok (.lor, 1) := dgrp_at dg_c_64 22 rfl
theorem dL_law_1058 : decode cL_law 1058 = .ok (.invokevirtual 152, 3) := dgrp_at dg_c_64 23 rfl
theorem dL_law_1061 : decode cL_law 1061 = .ok (.pop2, 1) := dgrp_at dg_c_64 24 rfl
theorem dL_law_1062 : decode cL_law 1062 = .ok (.goto 220, 3) := dgrp_at dg_c_64 25 rfl
theorem dL_law_1065 : decode cL_law 1065 = .ok (.aload_n 1, 1) := dgrp_at dg_c_64 26 rfl
theorem dL_law_1066 : decode cL_law 1066 = .ok (.aload_n 0, 1) := dgrp_at dg_c_64 27 rfl
theorem dL_law_1067 : decode cL_law 1067 = .ok (.iload_n 3, 1) := dgrp_at dg_c_64 28 rfl
theorem dL_law_1068 : decode cL_law 1068 = .ok (.iconst 1, 1) := dgrp_at dg_c_64 29 rfl
theorem dL_law_1069 : decode cL_law 1069 = .ok (.iadd, 1) := dgrp_at dg_c_64 30 rfl
theorem dL_law_1070 : decode cL_law 1070 = .ok (.iaload, 1) := dgrp_at dg_c_64 31 rfl
def dl_c_65 : List (Nat × Instr × Nat) := [(1071, .aload_n 0, 1), (1072, .iload_n 3, 1), (1073, .iconst 2, 1), (1074, .iadd, 1), (1075, .iaload, 1), (1076, .aload_n 0, 1), (1077, .iload_n 3, 1), (1078, .iconst 3, 1), (1079, .iadd, 1), (1080, .iaload, 1), (1081, .aload_n 0, 1), (1082, .iload_n 3, 1), (1083, .iconst 4, 1), (1084, .iadd, 1), (1085, .iaload, 1), (1086, .aload_n 0, 1), (1087, .iload_n 3, 1), (1088, .iconst 5, 1), (1089, .iadd, 1), (1090, .iaload, 1), (1091, .invokevirtual 153, 3), (1094, .pop, 1), (1095, .aload_n 2, 1), (1096, .aload_n 0, 1), (1097, .iload_n 3, 1), (1098, .iconst 1, 1), (1099, .iadd, 1), (1100, .iaload, 1), (1101, .aload_n 0, 1), (1102, .iload_n 3, 1), (1103, .iconst 2, 1), (1104, .iadd, 1)]
theorem dg_c_65 : dgrp cL_law dl_c_65 = true := by decide +kernel
theorem dL_law_1071 : decode cL_law 1071 = .ok (.aload_n 0, 1) := dgrp_at dg_c_65 0 rfl
theorem dL_law_1072 : decode cL_law 1072 = .ok (.iload_n 3, 1) := dgrp_at dg_c_65 1 rfl
theorem dL_law_1073 : decode cL_law 1073 = .ok (.iconst 2, 1) := dgrp_at dg_c_65 2 rfl
theorem dL_law_1074 : decode cL_law 1074 = .ok (.iadd, 1) := dgrp_at dg_c_65 3 rfl
theorem dL_law_1075 : decode cL_law 1075 = .ok (.iaload, 1) := dgrp_at dg_c_65 4 rfl
theorem dL_law_1076 : decode cL_law 1076 = .ok (.aload_n 0, 1) := dgrp_at dg_c_65 5 rfl
theorem dL_law_1077 : decode cL_law 1077 = .ok (.iload_n 3, 1) := dgrp_at dg_c_65 6 rfl
theorem dL_law_1078 : decode cL_law 1078 = .ok (.iconst 3, 1) := dgrp_at dg_c_65 7 rfl
theorem dL_law_1079 : decode cL_law 1079 = .ok (.iadd, 1) := dgrp_at dg_c_65 8 rfl
theorem dL_law_1080 : decode cL_law 1080 = .ok (.iaload, 1) := dgrp_at dg_c_65 9 rfl
theorem dL_law_1081 : decode cL_law 1081 = .ok (.aload_n 0, 1) := dgrp_at dg_c_65 10 rfl
theorem dL_law_1082 : decode cL_law 1082 = .ok (.iload_n 3, 1) := dgrp_at dg_c_65 11 rfl
theorem dL_law_1083 : decode cL_law 1083 = .ok (.iconst 4, 1) := dgrp_at dg_c_65 12 rfl
theorem dL_law_1084 : decode cL_law 1084 = .ok (.iadd, 1) := dgrp_at dg_c_65 13 rfl
theorem dL_law_1085 : decode cL_law 1085 = .ok (.iaload, 1) := dgrp_at dg_c_65 14 rfl
theorem dL_law_1086 : decode cL_law 1086 = .ok (.aload_n 0, 1) := dgrp_at dg_c_65 15 rfl
theorem dL_law_1087 : decode cL_law 1087 = .ok (.iload_n 3, 1) := dgrp_at dg_c_65 16 rfl
theorem dL_law_1088 : decode cL_law 1088 = .ok (.iconst 5, 1) := dgrp_at dg_c_65 17 rfl
theorem dL_law_1089 : decode cL_law 1089 = .ok (.iadd, 1) := dgrp_at dg_c_65 18 rfl
theorem dL_law_1090 : decode cL_law 1090 = .ok (.iaload, 1) := dgrp_at dg_c_65 19 rfl
theorem dL_law_1091 : decode cL_law 1091 = .ok (.invokevirtual 153, 3) := dgrp_at dg_c_65 20 rfl
theorem dL_law_1094 : decode cL_law 1094 = .ok (.pop, 1) := dgrp_at dg_c_65 21 rfl
theorem dL_law_1095 : decode cL_law 1095 = .ok (.aload_n 2, 1) := dgrp_at dg_c_65 22 rfl
theorem dL_law_1096 : decode cL_law 1096 = .ok (.aload_n 0, 1) := dgrp_at dg_c_65 23 rfl
theorem dL_law_1097 : decode cL_law 1097 = .ok (.iload_n 3, 1) := dgrp_at dg_c_65 24 rfl
theorem dL_law_1098 : decode cL_law 1098 = .ok (.iconst 1, 1) := dgrp_at dg_c_65 25 rfl
theorem dL_law_1099 : decode cL_law 1099 = .ok (.iadd, 1) := dgrp_at dg_c_65 26 rfl
theorem dL_law_1100 : decode cL_law 1100 = .ok (.iaload, 1) := dgrp_at dg_c_65 27 rfl
theorem dL_law_1101 : decode cL_law 1101 = .ok (.aload_n 0, 1) := dgrp_at dg_c_65 28 rfl
theorem dL_law_1102 : decode cL_law 1102 = .ok (.iload_n 3, 1) := dgrp_at dg_c_65 29 rfl
theorem dL_law_1103 : decode cL_law 1103 = .ok (.iconst 2, 1) := dgrp_at dg_c_65 30 rfl
theorem dL_law_1104 : decode cL_law 1104 = .ok (.iadd, 1) := dgrp_at dg_c_65 31 rfl
def dl_c_66 : List (Nat × Instr × Nat) := [(1105, .iaload, 1), (1106, .aload_n 0, 1), (1107, .iload_n 3, 1), (1108, .iconst 3, 1), (1109, .iadd, 1), (1110, .iaload, 1), (1111, .aload_n 0, 1), (1112, .iload_n 3, 1), (1113, .iconst 4, 1), (1114, .iadd, 1), (1115, .iaload, 1), (1116, .aload_n 0, 1), (1117, .iload_n 3, 1), (1118, .iconst 5, 1), (1119, .iadd, 1), (1120, .iaload, 1), (1121, .invokevirtual 157, 3), (1124, .pop, 1), (1125, .goto 157, 3), (1128, .aload_n 1, 1), (1129, .aload_n 0, 1), (1130, .iload_n 3, 1), (1131, .iconst 1, 1), (1132, .iadd, 1), (1133, .iaload, 1), (1134, .invokevirtual 158, 3), (1137, .pop, 1), (1138, .aload_n 2, 1), (1139, .aload_n 0, 1), (1140, .iload_n 3, 1), (1141, .iconst 1, 1), (1142, .iadd, 1)]
theorem dg_c_66 : dgrp cL_law dl_c_66 = true := by decide +kernel
theorem dL_law_1105 : decode cL_law 1105 = .ok (.iaload, 1) := dgrp_at dg_c_66 0 rfl
theorem dL_law_1106 : decode cL_law 1106 = .ok (.aload_n 0, 1) := dgrp_at dg_c_66 1 rfl
theorem dL_law_1107 : decode cL_law 1107 = .ok (.iload_n 3, 1) := dgrp_at dg_c_66 2 rfl
theorem dL_law_1108 : decode cL_law 1108 = .ok (.iconst 3, 1) := dgrp_at dg_c_66 3 rfl
theorem dL_law_1109 : decode cL_law 1109 = .ok (.iadd, 1) := dgrp_at dg_c_66 4 rfl
theorem dL_law_1110 : decode cL_law 1110 = .ok (.iaload, 1) := dgrp_at dg_c_66 5 rfl
theorem dL_law_1111 : decode cL_law 1111 = .ok (.aload_n 0, 1) := dgrp_at dg_c_66 6 rfl
theorem dL_law_1112 : decode cL_law 1112 = .ok (.iload_n 3, 1) := dgrp_at dg_c_66 7 rfl
theorem dL_law_1113 : decode cL_law 1113 = .ok (.iconst 4, 1) := dgrp_at dg_c_66 8 rfl
theorem dL_law_1114 : decode cL_law 1114 = .ok (.iadd, 1) := dgrp_at dg_c_66 9 rfl
theorem dL_law_1115 : decode cL_law 1115 = .ok (.iaload, 1) := dgrp_at dg_c_66 10 rfl
theorem dL_law_1116 : decode cL_law 1116 = .ok (.aload_n 0, 1) := dgrp_at dg_c_66 11 rfl
theorem dL_law_1117 : decode cL_law 1117 = .ok (.iload_n 3, 1) := dgrp_at dg_c_66 12 rfl
theorem dL_law_1118 : decode cL_law 1118 = .ok (.iconst 5, 1) := dgrp_at dg_c_66 13 rfl
theorem dL_law_1119 : decode cL_law 1119 = .ok (.iadd, 1) := dgrp_at dg_c_66 14 rfl
theorem dL_law_1120 : decode cL_law 1120 = .ok (.iaload, 1) := dgrp_at dg_c_66 15 rfl
theorem dL_law_1121 : decode cL_law 1121 = .ok (.invokevirtual 157, 3) := dgrp_at dg_c_66 16 rfl
theorem dL_law_1124 : decode cL_law 1124 = .ok (.pop, 1) := dgrp_at dg_c_66 17 rfl
theorem dL_law_1125 : decode cL_law 1125 = .ok (.goto 157, 3) := dgrp_at dg_c_66 18 rfl
theorem dL_law_1128 : decode cL_law 1128 = .ok (.aload_n 1, 1) := dgrp_at dg_c_66 19 rfl
theorem dL_law_1129 : decode cL_law 1129 = .ok (.aload_n 0, 1) := dgrp_at dg_c_66 20 rfl
theorem dL_law_1130 : decode cL_law 1130 = .ok (.iload_n 3, 1) := dgrp_at dg_c_66 21 rfl
theorem dL_law_1131 : decode cL_law 1131 = .ok (.iconst 1, 1) := dgrp_at dg_c_66 22 rfl
theorem dL_law_1132 : decode cL_law 1132 = .ok (.iadd, 1) := dgrp_at dg_c_66 23 rfl
theorem dL_law_1133 : decode cL_law 1133 = .ok (.iaload, 1) := dgrp_at dg_c_66 24 rfl
theorem dL_law_1134 : decode cL_law 1134 = .ok (.invokevirtual 158, 3) := dgrp_at dg_c_66 25 rfl
theorem dL_law_1137 : decode cL_law 1137 = .ok (.pop, 1) := dgrp_at dg_c_66 26 rfl
theorem dL_law_1138 : decode cL_law 1138 = .ok (.aload_n 2, 1) := dgrp_at dg_c_66 27 rfl
theorem dL_law_1139 : decode cL_law 1139 = .ok (.aload_n 0, 1) := dgrp_at dg_c_66 28 rfl
theorem dL_law_1140 : decode cL_law 1140 = .ok (.iload_n 3, 1) := dgrp_at dg_c_66 29 rfl
theorem dL_law_1141 : decode cL_law 1141 = .ok (.iconst 1, 1) := dgrp_at dg_c_66 30 rfl
theorem dL_law_1142 : decode cL_law 1142 = .ok (.iadd, 1) := dgrp_at dg_c_66 31 rfl
def dl_c_67 : List (Nat × Instr × Nat) := [(1143, .iaload, 1), (1144, .invokevirtual 161, 3), (1147, .pop, 1), (1148, .goto 134, 3), (1151, .aload_n 1, 1), (1152, .aload_n 0, 1), (1153, .iload_n 3, 1), (1154, .iconst 1, 1), (1155, .iadd, 1), (1156, .iaload, 1), (1157, .invokevirtual 162, 3), (1160, .pop, 1), (1161, .aload_n 2, 1), (1162, .aload_n 0, 1), (1163, .iload_n 3, 1), (1164, .iconst 1, 1), (1165, .iadd, 1), (1166, .iaload, 1), (1167, .invokevirtual 165, 3), (1170, .pop, 1), (1171, .goto 111, 3), (1174, .aload_n 1, 1), (1175, .aload_n 0, 1), (1176, .iload_n 3, 1), (1177, .iconst 1, 1), (1178, .iadd, 1), (1179, .iaload, 1), (1180, .invokevirtual 166, 3), (1183, .pop, 1), (1184, .aload_n 2, 1), (1185, .aload_n 0, 1), (1186, .iload_n 3, 1)]
theorem dg_c_67 : dgrp cL_law dl_c_67 = true := by decide +kernel
theorem dL_law_1143 : decode cL_law 1143 = .ok (.iaload, 1) := dgrp_at dg_c_67 0 rfl
theorem dL_law_1144 : decode cL_law 1144 = .ok (.invokevirtual 161, 3) := dgrp_at dg_c_67 1 rfl
theorem dL_law_1147 : decode cL_law 1147 = .ok (.pop, 1) := dgrp_at dg_c_67 2 rfl
theorem dL_law_1148 : decode cL_law 1148 = .ok (.goto 134, 3) := dgrp_at dg_c_67 3 rfl
theorem dL_law_1151 : decode cL_law 1151 = .ok (.aload_n 1, 1) := dgrp_at dg_c_67 4 rfl
theorem dL_law_1152 : decode cL_law 1152 = .ok (.aload_n 0, 1) := dgrp_at dg_c_67 5 rfl
theorem dL_law_1153 : decode cL_law 1153 = .ok (.iload_n 3, 1) := dgrp_at dg_c_67 6 rfl
theorem dL_law_1154 : decode cL_law 1154 = .ok (.iconst 1, 1) := dgrp_at dg_c_67 7 rfl
theorem dL_law_1155 : decode cL_law 1155 = .ok (.iadd, 1) := dgrp_at dg_c_67 8 rfl
theorem dL_law_1156 : decode cL_law 1156 = .ok (.iaload, 1) := dgrp_at dg_c_67 9 rfl
theorem dL_law_1157 : decode cL_law 1157 = .ok (.invokevirtual 162, 3) := dgrp_at dg_c_67 10 rfl
theorem dL_law_1160 : decode cL_law 1160 = .ok (.pop, 1) := dgrp_at dg_c_67 11 rfl
theorem dL_law_1161 : decode cL_law 1161 = .ok (.aload_n 2, 1) := dgrp_at dg_c_67 12 rfl
theorem dL_law_1162 : decode cL_law 1162 = .ok (.aload_n 0, 1) := dgrp_at dg_c_67 13 rfl
theorem dL_law_1163 : decode cL_law 1163 = .ok (.iload_n 3, 1) := dgrp_at dg_c_67 14 rfl
theorem dL_law_1164 : decode cL_law 1164 = .ok (.iconst 1, 1) := dgrp_at dg_c_67 15 rfl
theorem dL_law_1165 : decode cL_law 1165 = .ok (.iadd, 1) := dgrp_at dg_c_67 16 rfl
theorem dL_law_1166 : decode cL_law 1166 = .ok (.iaload, 1) := dgrp_at dg_c_67 17 rfl
theorem dL_law_1167 : decode cL_law 1167 = .ok (.invokevirtual 165, 3) := dgrp_at dg_c_67 18 rfl
theorem dL_law_1170 : decode cL_law 1170 = .ok (.pop, 1) := dgrp_at dg_c_67 19 rfl
theorem dL_law_1171 : decode cL_law 1171 = .ok (.goto 111, 3) := dgrp_at dg_c_67 20 rfl
theorem dL_law_1174 : decode cL_law 1174 = .ok (.aload_n 1, 1) := dgrp_at dg_c_67 21 rfl
theorem dL_law_1175 : decode cL_law 1175 = .ok (.aload_n 0, 1) := dgrp_at dg_c_67 22 rfl
theorem dL_law_1176 : decode cL_law 1176 = .ok (.iload_n 3, 1) := dgrp_at dg_c_67 23 rfl
theorem dL_law_1177 : decode cL_law 1177 = .ok (.iconst 1, 1) := dgrp_at dg_c_67 24 rfl
theorem dL_law_1178 : decode cL_law 1178 = .ok (.iadd, 1) := dgrp_at dg_c_67 25 rfl
theorem dL_law_1179 : decode cL_law 1179 = .ok (.iaload, 1) := dgrp_at dg_c_67 26 rfl
theorem dL_law_1180 : decode cL_law 1180 = .ok (.invokevirtual 166, 3) := dgrp_at dg_c_67 27 rfl
theorem dL_law_1183 : decode cL_law 1183 = .ok (.pop, 1) := dgrp_at dg_c_67 28 rfl
theorem dL_law_1184 : decode cL_law 1184 = .ok (.aload_n 2, 1) := dgrp_at dg_c_67 29 rfl
theorem dL_law_1185 : decode cL_law 1185 = .ok (.aload_n 0, 1) := dgrp_at dg_c_67 30 rfl
theorem dL_law_1186 : decode cL_law 1186 = .ok (.iload_n 3, 1) := dgrp_at dg_c_67 31 rfl
def dl_c_68 : List (Nat × Instr × Nat) := [(1187, .iconst 1, 1), (1188, .iadd, 1), (1189, .iaload, 1), (1190, .invokevirtual 169, 3), (1193, .pop, 1), (1194, .goto 88, 3), (1197, .aload_n 1, 1), (1198, .invokevirtual 170, 3), (1201, .pop, 1), (1202, .aload_n 2, 1), (1203, .invokevirtual 173, 3), (1206, .pop, 1), (1207, .goto 75, 3), (1210, .aload_n 1, 1), (1211, .invokevirtual 174, 3), (1214, .pop, 1), (1215, .aload_n 2, 1), (1216, .invokevirtual 177, 3), (1219, .pop, 1), (1220, .goto 62, 3), (1223, .aload_n 1, 1), (1224, .invokevirtual 178, 3), (1227, .pop, 1), (1228, .aload_n 2, 1), (1229, .invokevirtual 181, 3), (1232, .pop, 1), (1233, .goto 49, 3), (1236, .aload_n 1, 1), (1237, .aload_n 0, 1), (1238, .iload_n 3, 1), (1239, .iconst 1, 1), (1240, .iadd, 1)]
theorem dg_c_68 : dgrp cL_law dl_c_68 = true := by decide +kernel
theorem dL_law_1187 : decode cL_law 1187 = .ok (.iconst 1, 1) := dgrp_at dg_c_68 0 rfl
theorem dL_law_1188 : decode cL_law 1188 = .ok (.iadd, 1) := dgrp_at dg_c_68 1 rfl
theorem dL_law_1189 : decode cL_law 1189 = .ok (.iaload, 1) := dgrp_at dg_c_68 2 rfl
theorem dL_law_1190 : decode cL_law 1190 = .ok (.invokevirtual 169, 3) := dgrp_at dg_c_68 3 rfl
theorem dL_law_1193 : decode cL_law 1193 = .ok (.pop, 1) := dgrp_at dg_c_68 4 rfl
theorem dL_law_1194 : decode cL_law 1194 = .ok (.goto 88, 3) := dgrp_at dg_c_68 5 rfl
theorem dL_law_1197 : decode cL_law 1197 = .ok (.aload_n 1, 1) := dgrp_at dg_c_68 6 rfl
theorem dL_law_1198 : decode cL_law 1198 = .ok (.invokevirtual 170, 3) := dgrp_at dg_c_68 7 rfl
theorem dL_law_1201 : decode cL_law 1201 = .ok (.pop, 1) := dgrp_at dg_c_68 8 rfl
theorem dL_law_1202 : decode cL_law 1202 = .ok (.aload_n 2, 1) := dgrp_at dg_c_68 9 rfl
theorem dL_law_1203 : decode cL_law 1203 = .ok (.invokevirtual 173, 3) := dgrp_at dg_c_68 10 rfl
theorem dL_law_1206 : decode cL_law 1206 = .ok (.pop, 1) := dgrp_at dg_c_68 11 rfl
theorem dL_law_1207 : decode cL_law 1207 = .ok (.goto 75, 3) := dgrp_at dg_c_68 12 rfl
theorem dL_law_1210 : decode cL_law 1210 = .ok (.aload_n 1, 1) := dgrp_at dg_c_68 13 rfl
theorem dL_law_1211 : decode cL_law 1211 = .ok (.invokevirtual 174, 3) := dgrp_at dg_c_68 14 rfl
theorem dL_law_1214 : decode cL_law 1214 = .ok (.pop, 1) := dgrp_at dg_c_68 15 rfl
theorem dL_law_1215 : decode cL_law 1215 = .ok (.aload_n 2, 1) := dgrp_at dg_c_68 16 rfl
theorem dL_law_1216 : decode cL_law 1216 = .ok (.invokevirtual 177, 3) := dgrp_at dg_c_68 17 rfl
theorem dL_law_1219 : decode cL_law 1219 = .ok (.pop, 1) := dgrp_at dg_c_68 18 rfl
theorem dL_law_1220 : decode cL_law 1220 = .ok (.goto 62, 3) := dgrp_at dg_c_68 19 rfl
theorem dL_law_1223 : decode cL_law 1223 = .ok (.aload_n 1, 1) := dgrp_at dg_c_68 20 rfl
theorem dL_law_1224 : decode cL_law 1224 = .ok (.invokevirtual 178, 3) := dgrp_at dg_c_68 21 rfl
theorem dL_law_1227 : decode cL_law 1227 = .ok (.pop, 1) := dgrp_at dg_c_68 22 rfl
theorem dL_law_1228 : decode cL_law 1228 = .ok (.aload_n 2, 1) := dgrp_at dg_c_68 23 rfl
theorem dL_law_1229 : decode cL_law 1229 = .ok (.invokevirtual 181, 3) := dgrp_at dg_c_68 24 rfl
theorem dL_law_1232 : decode cL_law 1232 = .ok (.pop, 1) := dgrp_at dg_c_68 25 rfl
theorem dL_law_1233 : decode cL_law 1233 = .ok (.goto 49, 3) := dgrp_at dg_c_68 26 rfl
theorem dL_law_1236 : decode cL_law 1236 = .ok (.aload_n 1, 1) := dgrp_at dg_c_68 27 rfl
theorem dL_law_1237 : decode cL_law 1237 = .ok (.aload_n 0, 1) := dgrp_at dg_c_68 28 rfl
theorem dL_law_1238 : decode cL_law 1238 = .ok (.iload_n 3, 1) := dgrp_at dg_c_68 29 rfl
theorem dL_law_1239 : decode cL_law 1239 = .ok (.iconst 1, 1) := dgrp_at dg_c_68 30 rfl
theorem dL_law_1240 : decode cL_law 1240 = .ok (.iadd, 1) := dgrp_at dg_c_68 31 rfl
def dl_c_69 : List (Nat × Instr × Nat) := [(1241, .iaload, 1), (1242, .invokevirtual 182, 3), (1245, .pop, 1), (1246, .aload_n 2, 1), (1247, .aload_n 0, 1), (1248, .iload_n 3, 1), (1249, .iconst 1, 1), (1250, .iadd, 1), (1251, .iaload, 1), (1252, .invokevirtual 185, 3), (1255, .pop, 1), (1256, .goto 26, 3), (1259, .aload_n 1, 1), (1260, .aload_n 0, 1), (1261, .iload_n 3, 1), (1262, .iconst 1, 1), (1263, .iadd, 1), (1264, .iaload, 1), (1265, .invokevirtual 186, 3), (1268, .aload_n 2, 1), (1269, .aload_n 0, 1), (1270, .iload_n 3, 1), (1271, .iconst 1, 1), (1272, .iadd, 1), (1273, .iaload, 1), (1274, .invokevirtual 189, 3), (1277, .if_icmp .eq 5, 3), (1280, .iconst 0, 1), (1281, .ireturn, 1), (1282, .iinc 3 6, 3), (1285, .goto (-1267), 3), (1288, .iconst 1, 1)]
theorem dg_c_69 : dgrp cL_law dl_c_69 = true := by decide +kernel
theorem dL_law_1241 : decode cL_law 1241 = .ok (.iaload, 1) := dgrp_at dg_c_69 0 rfl
theorem dL_law_1242 : decode cL_law 1242 = .ok (.invokevirtual 182, 3) := dgrp_at dg_c_69 1 rfl
theorem dL_law_1245 : decode cL_law 1245 = .ok (.pop, 1) := dgrp_at dg_c_69 2 rfl
theorem dL_law_1246 : decode cL_law 1246 = .ok (.aload_n 2, 1) := dgrp_at dg_c_69 3 rfl
theorem dL_law_1247 : decode cL_law 1247 = .ok (.aload_n 0, 1) := dgrp_at dg_c_69 4 rfl
theorem dL_law_1248 : decode cL_law 1248 = .ok (.iload_n 3, 1) := dgrp_at dg_c_69 5 rfl
theorem dL_law_1249 : decode cL_law 1249 = .ok (.iconst 1, 1) := dgrp_at dg_c_69 6 rfl
theorem dL_law_1250 : decode cL_law 1250 = .ok (.iadd, 1) := dgrp_at dg_c_69 7 rfl
theorem dL_law_1251 : decode cL_law 1251 = .ok (.iaload, 1) := dgrp_at dg_c_69 8 rfl
theorem dL_law_1252 : decode cL_law 1252 = .ok (.invokevirtual 185, 3) := dgrp_at dg_c_69 9 rfl
theorem dL_law_1255 : decode cL_law 1255 = .ok (.pop, 1) := dgrp_at dg_c_69 10 rfl
theorem dL_law_1256 : decode cL_law 1256 = .ok (.goto 26, 3) := dgrp_at dg_c_69 11 rfl
theorem dL_law_1259 : decode cL_law 1259 = .ok (.aload_n 1, 1) := dgrp_at dg_c_69 12 rfl
theorem dL_law_1260 : decode cL_law 1260 = .ok (.aload_n 0, 1) := dgrp_at dg_c_69 13 rfl
theorem dL_law_1261 : decode cL_law 1261 = .ok (.iload_n 3, 1) := dgrp_at dg_c_69 14 rfl
theorem dL_law_1262 : decode cL_law 1262 = .ok (.iconst 1, 1) := dgrp_at dg_c_69 15 rfl
theorem dL_law_1263 : decode cL_law 1263 = .ok (.iadd, 1) := dgrp_at dg_c_69 16 rfl
theorem dL_law_1264 : decode cL_law 1264 = .ok (.iaload, 1) := dgrp_at dg_c_69 17 rfl
theorem dL_law_1265 : decode cL_law 1265 = .ok (.invokevirtual 186, 3) := dgrp_at dg_c_69 18 rfl
theorem dL_law_1268 : decode cL_law 1268 = .ok (.aload_n 2, 1) := dgrp_at dg_c_69 19 rfl
theorem dL_law_1269 : decode cL_law 1269 = .ok (.aload_n 0, 1) := dgrp_at dg_c_69 20 rfl
theorem dL_law_1270 : decode cL_law 1270 = .ok (.iload_n 3, 1) := dgrp_at dg_c_69 21 rfl
theorem dL_law_1271 : decode cL_law 1271 = .ok (.iconst 1, 1) := dgrp_at dg_c_69 22 rfl
theorem dL_law_1272 : decode cL_law 1272 = .ok (.iadd, 1) := dgrp_at dg_c_69 23 rfl
theorem dL_law_1273 : decode cL_law 1273 = .ok (.iaload, 1) := dgrp_at dg_c_69 24 rfl
theorem dL_law_1274 : decode cL_law 1274 = .ok (.invokevirtual 189, 3) := dgrp_at dg_c_69 25 rfl
theorem dL_law_1277 : decode cL_law 1277 = .ok (.if_icmp .eq 5, 3) := dgrp_at dg_c_69 26 rfl
theorem dL_law_1280 : decode cL_law 1280 = .ok (.iconst 0, 1) := dgrp_at dg_c_69 27 rfl
theorem dL_law_1281 : decode cL_law 1281 = .ok (.ireturn, 1) := dgrp_at dg_c_69 28 rfl
theorem dL_law_1282 : decode cL_law 1282 = .ok (.iinc 3 6, 3) := dgrp_at dg_c_69 29 rfl
theorem dL_law_1285 : decode cL_law 1285 = .ok (.goto (-1267), 3) := dgrp_at dg_c_69 30 rfl
theorem dL_law_1288 : decode cL_law 1288 = .ok (.iconst 1, 1) := dgrp_at dg_c_69 31 rfl
def dl_c_70 : List (Nat × Instr × Nat) := [(1289, .ireturn, 1)]
theorem dg_c_70 : dgrp cL_law dl_c_70 = true := by decide +kernel
theorem dL_law_1289 : decode cL_law 1289 = .ok (.ireturn, 1) := dgrp_at dg_c_70 0 rfl
