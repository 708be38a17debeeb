theorem dX4_count_1 : decode cX4_count 1 = .ok (.tableswitch 70 0 3 #[31, 39, 47, 62], 31) := by decide +kernel
theorem dX5_init_8 : decode cX5_init 8 = .ok (.newarray .int, 2) := by decide +kernel
theorem dX5_init_17 : decode cX5_init 17 = .ok (.newarray .int, 2) := by decide +kernel
theorem dX5_init_25 : decode cX5_init 25 = .ok (.newarray .int, 2) := by decide +kernel
theorem dX5_init_33 : decode cX5_init 33 = .ok (.newarray .boolean, 2) := by decide +kernel
theorem dX5_init_41 : decode cX5_init 41 = .ok (.newarray .int, 2) := by decide +kernel
theorem dX5_init_49 : decode cX5_init 49 = .ok (.newarray .int, 2) := by decide +kernel
theorem dX5_init_58 : decode cX5_init 58 = .ok (.newarray .int, 2) := by decide +kernel
theorem dX5_init_67 : decode cX5_init 67 = .ok (.newarray .int, 2) := by decide +kernel
theorem dX5_init_74 : decode cX5_init 74 = .ok (.newarray .int, 2) := by decide +kernel
theorem dX5_init_81 : decode cX5_init 81 = .ok (.newarray .int, 2) := by decide +kernel
theorem dX5_init_90 : decode cX5_init 90 = .ok (.newarray .long, 2) := by decide +kernel
theorem dX5_init_98 : decode cX5_init 98 = .ok (.newarray .long, 2) := by decide +kernel
theorem dX5_comesBy_12 : decode cX5_comesBy 12 = .ok (.tableswitch 122 1 5 #[36, 56, 76, 78, 102], 36) := by decide +kernel
theorem dX5_of_28 : decode cX5_of 28 = .ok (.tableswitch 94 2 5 #[32, 43, 63, 83], 32) := by decide +kernel
theorem dX5_now_1 : decode cX5_now 1 = .ok (.tableswitch 99 0 4 #[35, 42, 52, 63, 88], 35) := by decide +kernel
def dl_b_0 : List (Nat × Instr × Nat) := [(0, .iload_n 1, 1), (1, .invokestatic 185, 3), (4, .ifCond .eq 10, 3), (7, .iload_n 3, 1), (8, .invokestatic 185, 3), (11, .ifCond .ne 10, 3), (14, .aload_n 0, 1), (15, .ldc 51, 2), (17, .invokevirtual 52, 3), (20, .ireturn, 1), (21, .aload_n 0, 1), (22, .getfield 35, 3), (25, .iload_n 1, 1), (26, .aaload, 1), (27, .invokevirtual 200, 3), (30, .ifCond .ne 15, 3), (33, .aload_n 0, 1), (34, .getfield 35, 3), (37, .iload_n 3, 1), (38, .aaload, 1), (39, .invokevirtual 200, 3), (42, .ifCond .eq 10, 3), (45, .aload_n 0, 1), (46, .ldc 204, 2), (48, .invokevirtual 52, 3), (51, .ireturn, 1), (52, .aload_n 0, 1), (53, .getfield 35, 3), (56, .iload_n 1, 1), (57, .aaload, 1), (58, .getfield 205, 3), (61, .aload_n 0, 1)]
theorem dg_b_0 : dgrp cX4_copy dl_b_0 = true := by decide +kernel
theorem dX4_copy_0 : decode cX4_copy 0 = .ok (.iload_n 1, 1) := dgrp_at dg_b_0 0 rfl
theorem dX4_copy_1 : decode cX4_copy 1 = .ok (.invokestatic 185, 3) := dgrp_at dg_b_0 1 rfl
theorem dX4_copy_4 : decode cX4_copy 4 = .ok (.ifCond .eq 10, 3) := dgrp_at dg_b_0 2 rfl
theorem dX4_copy_7 : decode cX4_copy 7 = .ok (.iload_n 3, 1) := dgrp_at dg_b_0 3 rfl
theorem dX4_copy_8 : decode cX4_copy 8 = .ok (.invokestatic 185, 3) := dgrp_at dg_b_0 4 rfl
theorem dX4_copy_11 : decode cX4_copy 11 = .ok (.ifCond .ne 10, 3) := dgrp_at dg_b_0 5 rfl
theorem dX4_copy_14 : decode cX4_copy 14 = .ok (.aload_n 0, 1) := dgrp_at dg_b_0 6 rfl
theorem dX4_copy_15 : decode cX4_copy 15 = .ok (.ldc 51, 2) := dgrp_at dg_b_0 7 rfl
theorem dX4_copy_17 : decode cX4_copy 17 = .ok (.invokevirtual 52, 3) := dgrp_at dg_b_0 8 rfl
theorem dX4_copy_20 : decode cX4_copy 20 = .ok (.ireturn, 1) := dgrp_at dg_b_0 9 rfl
theorem dX4_copy_21 : decode cX4_copy 21 = .ok (.aload_n 0, 1) := dgrp_at dg_b_0 10 rfl
theorem dX4_copy_22 : decode cX4_copy 22 = .ok (.getfield 35, 3) := dgrp_at dg_b_0 11 rfl
theorem dX4_copy_25 : decode cX4_copy 25 = .ok (.iload_n 1, 1) := dgrp_at dg_b_0 12 rfl
theorem dX4_copy_26 : decode cX4_copy 26 = .ok (.aaload, 1) := dgrp_at dg_b_0 13 rfl
theorem dX4_copy_27 : decode cX4_copy 27 = .ok (.invokevirtual 200, 3) := dgrp_at dg_b_0 14 rfl
theorem dX4_copy_30 : decode cX4_copy 30 = .ok (.ifCond .ne 15, 3) := dgrp_at dg_b_0 15 rfl
theorem dX4_copy_33 : decode cX4_copy 33 = .ok (.aload_n 0, 1) := dgrp_at dg_b_0 16 rfl
theorem dX4_copy_34 : decode cX4_copy 34 = .ok (.getfield 35, 3) := dgrp_at dg_b_0 17 rfl
theorem dX4_copy_37 : decode cX4_copy 37 = .ok (.iload_n 3, 1) := dgrp_at dg_b_0 18 rfl
theorem dX4_copy_38 : decode cX4_copy 38 = .ok (.aaload, 1) := dgrp_at dg_b_0 19 rfl
theorem dX4_copy_39 : decode cX4_copy 39 = .ok (.invokevirtual 200, 3) := dgrp_at dg_b_0 20 rfl
theorem dX4_copy_42 : decode cX4_copy 42 = .ok (.ifCond .eq 10, 3) := dgrp_at dg_b_0 21 rfl
theorem dX4_copy_45 : decode cX4_copy 45 = .ok (.aload_n 0, 1) := dgrp_at dg_b_0 22 rfl
theorem dX4_copy_46 : decode cX4_copy 46 = .ok (.ldc 204, 2) := dgrp_at dg_b_0 23 rfl
theorem dX4_copy_48 : decode cX4_copy 48 = .ok (.invokevirtual 52, 3) := dgrp_at dg_b_0 24 rfl
theorem dX4_copy_51 : decode cX4_copy 51 = .ok (.ireturn, 1) := dgrp_at dg_b_0 25 rfl
theorem dX4_copy_52 : decode cX4_copy 52 = .ok (.aload_n 0, 1) := dgrp_at dg_b_0 26 rfl
theorem dX4_copy_53 : decode cX4_copy 53 = .ok (.getfield 35, 3) := dgrp_at dg_b_0 27 rfl
theorem dX4_copy_56 : decode cX4_copy 56 = .ok (.iload_n 1, 1) := dgrp_at dg_b_0 28 rfl
theorem dX4_copy_57 : decode cX4_copy 57 = .ok (.aaload, 1) := dgrp_at dg_b_0 29 rfl
theorem dX4_copy_58 : decode cX4_copy 58 = .ok (.getfield 205, 3) := dgrp_at dg_b_0 30 rfl
theorem dX4_copy_61 : decode cX4_copy 61 = .ok (.aload_n 0, 1) := dgrp_at dg_b_0 31 rfl
def dl_b_1 : List (Nat × Instr × Nat) := [(62, .getfield 35, 3), (65, .iload_n 3, 1), (66, .aaload, 1), (67, .getfield 205, 3), (70, .if_icmp .eq 10, 3), (73, .aload_n 0, 1), (74, .ldc 97, 2), (76, .invokevirtual 52, 3), (79, .ireturn, 1), (80, .aload_n 0, 1), (81, .getfield 35, 3), (84, .iload_n 1, 1), (85, .aaload, 1), (86, .iload_n 2, 1), (87, .iload 5, 2), (89, .invokevirtual 208, 3), (92, .ifCond .eq 19, 3), (95, .aload_n 0, 1), (96, .getfield 35, 3), (99, .iload_n 3, 1), (100, .aaload, 1), (101, .iload 4, 2), (103, .iload 5, 2), (105, .invokevirtual 208, 3), (108, .ifCond .ne 10, 3), (111, .aload_n 0, 1), (112, .ldc 51, 2), (114, .invokevirtual 52, 3), (117, .ireturn, 1), (118, .aload_n 0, 1), (119, .getfield 35, 3), (122, .iload_n 1, 1)]
theorem dg_b_1 : dgrp cX4_copy dl_b_1 = true := by decide +kernel
theorem dX4_copy_62 : decode cX4_copy 62 = .ok (.getfield 35, 3) := dgrp_at dg_b_1 0 rfl
theorem dX4_copy_65 : decode cX4_copy 65 = .ok (.iload_n 3, 1) := dgrp_at dg_b_1 1 rfl
theorem dX4_copy_66 : decode cX4_copy 66 = .ok (.aaload, 1) := dgrp_at dg_b_1 2 rfl
theorem dX4_copy_67 : decode cX4_copy 67 = .ok (.getfield 205, 3) := dgrp_at dg_b_1 3 rfl
theorem dX4_copy_70 : decode cX4_copy 70 = .ok (.if_icmp .eq 10, 3) := dgrp_at dg_b_1 4 rfl
theorem dX4_copy_73 : decode cX4_copy 73 = .ok (.aload_n 0, 1) := dgrp_at dg_b_1 5 rfl
theorem dX4_copy_74 : decode cX4_copy 74 = .ok (.ldc 97, 2) := dgrp_at dg_b_1 6 rfl
theorem dX4_copy_76 : decode cX4_copy 76 = .ok (.invokevirtual 52, 3) := dgrp_at dg_b_1 7 rfl
theorem dX4_copy_79 : decode cX4_copy 79 = .ok (.ireturn, 1) := dgrp_at dg_b_1 8 rfl
theorem dX4_copy_80 : decode cX4_copy 80 = .ok (.aload_n 0, 1) := dgrp_at dg_b_1 9 rfl
theorem dX4_copy_81 : decode cX4_copy 81 = .ok (.getfield 35, 3) := dgrp_at dg_b_1 10 rfl
theorem dX4_copy_84 : decode cX4_copy 84 = .ok (.iload_n 1, 1) := dgrp_at dg_b_1 11 rfl
theorem dX4_copy_85 : decode cX4_copy 85 = .ok (.aaload, 1) := dgrp_at dg_b_1 12 rfl
theorem dX4_copy_86 : decode cX4_copy 86 = .ok (.iload_n 2, 1) := dgrp_at dg_b_1 13 rfl
theorem dX4_copy_87 : decode cX4_copy 87 = .ok (.iload 5, 2) := dgrp_at dg_b_1 14 rfl
theorem dX4_copy_89 : decode cX4_copy 89 = .ok (.invokevirtual 208, 3) := dgrp_at dg_b_1 15 rfl
theorem dX4_copy_92 : decode cX4_copy 92 = .ok (.ifCond .eq 19, 3) := dgrp_at dg_b_1 16 rfl
theorem dX4_copy_95 : decode cX4_copy 95 = .ok (.aload_n 0, 1) := dgrp_at dg_b_1 17 rfl
theorem dX4_copy_96 : decode cX4_copy 96 = .ok (.getfield 35, 3) := dgrp_at dg_b_1 18 rfl
theorem dX4_copy_99 : decode cX4_copy 99 = .ok (.iload_n 3, 1) := dgrp_at dg_b_1 19 rfl
theorem dX4_copy_100 : decode cX4_copy 100 = .ok (.aaload, 1) := dgrp_at dg_b_1 20 rfl
theorem dX4_copy_101 : decode cX4_copy 101 = .ok (.iload 4, 2) := dgrp_at dg_b_1 21 rfl
theorem dX4_copy_103 : decode cX4_copy 103 = .ok (.iload 5, 2) := dgrp_at dg_b_1 22 rfl
theorem dX4_copy_105 : decode cX4_copy 105 = .ok (.invokevirtual 208, 3) := dgrp_at dg_b_1 23 rfl
theorem dX4_copy_108 : decode cX4_copy 108 = .ok (.ifCond .ne 10, 3) := dgrp_at dg_b_1 24 rfl
theorem dX4_copy_111 : decode cX4_copy 111 = .ok (.aload_n 0, 1) := dgrp_at dg_b_1 25 rfl
theorem dX4_copy_112 : decode cX4_copy 112 = .ok (.ldc 51, 2) := dgrp_at dg_b_1 26 rfl
theorem dX4_copy_114 : decode cX4_copy 114 = .ok (.invokevirtual 52, 3) := dgrp_at dg_b_1 27 rfl
theorem dX4_copy_117 : decode cX4_copy 117 = .ok (.ireturn, 1) := dgrp_at dg_b_1 28 rfl
theorem dX4_copy_118 : decode cX4_copy 118 = .ok (.aload_n 0, 1) := dgrp_at dg_b_1 29 rfl
theorem dX4_copy_119 : decode cX4_copy 119 = .ok (.getfield 35, 3) := dgrp_at dg_b_1 30 rfl
theorem dX4_copy_122 : decode cX4_copy 122 = .ok (.iload_n 1, 1) := dgrp_at dg_b_1 31 rfl
def dl_b_2 : List (Nat × Instr × Nat) := [(123, .aaload, 1), (124, .getfield 211, 3), (127, .iload_n 2, 1), (128, .aload_n 0, 1), (129, .getfield 35, 3), (132, .iload_n 3, 1), (133, .aaload, 1), (134, .getfield 211, 3), (137, .iload 4, 2), (139, .iload 5, 2), (141, .invokestatic 215, 3), (144, .iload 5, 2), (146, .ireturn, 1)]
theorem dg_b_2 : dgrp cX4_copy dl_b_2 = true := by decide +kernel
theorem dX4_copy_123 : decode cX4_copy 123 = .ok (.aaload, 1) := dgrp_at dg_b_2 0 rfl
theorem dX4_copy_124 : decode cX4_copy 124 = .ok (.getfield 211, 3) := dgrp_at dg_b_2 1 rfl
theorem dX4_copy_127 : decode cX4_copy 127 = .ok (.iload_n 2, 1) := dgrp_at dg_b_2 2 rfl
theorem dX4_copy_128 : decode cX4_copy 128 = .ok (.aload_n 0, 1) := dgrp_at dg_b_2 3 rfl
theorem dX4_copy_129 : decode cX4_copy 129 = .ok (.getfield 35, 3) := dgrp_at dg_b_2 4 rfl
theorem dX4_copy_132 : decode cX4_copy 132 = .ok (.iload_n 3, 1) := dgrp_at dg_b_2 5 rfl
theorem dX4_copy_133 : decode cX4_copy 133 = .ok (.aaload, 1) := dgrp_at dg_b_2 6 rfl
theorem dX4_copy_134 : decode cX4_copy 134 = .ok (.getfield 211, 3) := dgrp_at dg_b_2 7 rfl
theorem dX4_copy_137 : decode cX4_copy 137 = .ok (.iload 4, 2) := dgrp_at dg_b_2 8 rfl
theorem dX4_copy_139 : decode cX4_copy 139 = .ok (.iload 5, 2) := dgrp_at dg_b_2 9 rfl
theorem dX4_copy_141 : decode cX4_copy 141 = .ok (.invokestatic 215, 3) := dgrp_at dg_b_2 10 rfl
theorem dX4_copy_144 : decode cX4_copy 144 = .ok (.iload 5, 2) := dgrp_at dg_b_2 11 rfl
theorem dX4_copy_146 : decode cX4_copy 146 = .ok (.ireturn, 1) := dgrp_at dg_b_2 12 rfl
def dl_b_3 : List (Nat × Instr × Nat) := [(0, .aload_n 0, 1), (1, .iload_n 1, 1), (2, .invokevirtual 192, 3), (5, .istore_n 2, 1), (6, .iload_n 2, 1), (7, .ifCond .eq 9, 3), (10, .aload_n 0, 1), (11, .iload_n 2, 1), (12, .invokevirtual 52, 3), (15, .ireturn, 1), (16, .iconst 0, 1), (17, .istore_n 3, 1), (18, .iconst 0, 1), (19, .istore 4, 2), (21, .iload 4, 2), (23, .aload_n 0, 1), (24, .getfield 12, 3), (27, .getfield 56, 3), (30, .if_icmp .ge 47, 3), (33, .iload 4, 2), (35, .aload_n 0, 1), (36, .getfield 35, 3), (39, .iload_n 1, 1), (40, .aaload, 1), (41, .getfield 195, 3), (44, .if_icmp .ge 33, 3), (47, .aload_n 0, 1), (48, .getfield 35, 3), (51, .iload_n 1, 1), (52, .aaload, 1), (53, .getfield 211, 3), (56, .iload 4, 2)]
theorem dg_b_3 : dgrp cX4_lays dl_b_3 = true := by decide +kernel
theorem dX4_lays_0 : decode cX4_lays 0 = .ok (.aload_n 0, 1) := dgrp_at dg_b_3 0 rfl
theorem dX4_lays_1 : decode cX4_lays 1 = .ok (.iload_n 1, 1) := dgrp_at dg_b_3 1 rfl
theorem dX4_lays_2 : decode cX4_lays 2 = .ok (.invokevirtual 192, 3) := dgrp_at dg_b_3 2 rfl
theorem dX4_lays_5 : decode cX4_lays 5 = .ok (.istore_n 2, 1) := dgrp_at dg_b_3 3 rfl
theorem dX4_lays_6 : decode cX4_lays 6 = .ok (.iload_n 2, 1) := dgrp_at dg_b_3 4 rfl
theorem dX4_lays_7 : decode cX4_lays 7 = .ok (.ifCond .eq 9, 3) := dgrp_at dg_b_3 5 rfl
theorem dX4_lays_10 : decode cX4_lays 10 = .ok (.aload_n 0, 1) := dgrp_at dg_b_3 6 rfl
theorem dX4_lays_11 : decode cX4_lays 11 = .ok (.iload_n 2, 1) := dgrp_at dg_b_3 7 rfl
theorem dX4_lays_12 : decode cX4_lays 12 = .ok (.invokevirtual 52, 3) := dgrp_at dg_b_3 8 rfl
theorem dX4_lays_15 : decode cX4_lays 15 = .ok (.ireturn, 1) := dgrp_at dg_b_3 9 rfl
theorem dX4_lays_16 : decode cX4_lays 16 = .ok (.iconst 0, 1) := dgrp_at dg_b_3 10 rfl
theorem dX4_lays_17 : decode cX4_lays 17 = .ok (.istore_n 3, 1) := dgrp_at dg_b_3 11 rfl
theorem dX4_lays_18 : decode cX4_lays 18 = .ok (.iconst 0, 1) := dgrp_at dg_b_3 12 rfl
theorem dX4_lays_19 : decode cX4_lays 19 = .ok (.istore 4, 2) := dgrp_at dg_b_3 13 rfl
theorem dX4_lays_21 : decode cX4_lays 21 = .ok (.iload 4, 2) := dgrp_at dg_b_3 14 rfl
theorem dX4_lays_23 : decode cX4_lays 23 = .ok (.aload_n 0, 1) := dgrp_at dg_b_3 15 rfl
theorem dX4_lays_24 : decode cX4_lays 24 = .ok (.getfield 12, 3) := dgrp_at dg_b_3 16 rfl
theorem dX4_lays_27 : decode cX4_lays 27 = .ok (.getfield 56, 3) := dgrp_at dg_b_3 17 rfl
theorem dX4_lays_30 : decode cX4_lays 30 = .ok (.if_icmp .ge 47, 3) := dgrp_at dg_b_3 18 rfl
theorem dX4_lays_33 : decode cX4_lays 33 = .ok (.iload 4, 2) := dgrp_at dg_b_3 19 rfl
theorem dX4_lays_35 : decode cX4_lays 35 = .ok (.aload_n 0, 1) := dgrp_at dg_b_3 20 rfl
theorem dX4_lays_36 : decode cX4_lays 36 = .ok (.getfield 35, 3) := dgrp_at dg_b_3 21 rfl
theorem dX4_lays_39 : decode cX4_lays 39 = .ok (.iload_n 1, 1) := dgrp_at dg_b_3 22 rfl
theorem dX4_lays_40 : decode cX4_lays 40 = .ok (.aaload, 1) := dgrp_at dg_b_3 23 rfl
theorem dX4_lays_41 : decode cX4_lays 41 = .ok (.getfield 195, 3) := dgrp_at dg_b_3 24 rfl
theorem dX4_lays_44 : decode cX4_lays 44 = .ok (.if_icmp .ge 33, 3) := dgrp_at dg_b_3 25 rfl
theorem dX4_lays_47 : decode cX4_lays 47 = .ok (.aload_n 0, 1) := dgrp_at dg_b_3 26 rfl
theorem dX4_lays_48 : decode cX4_lays 48 = .ok (.getfield 35, 3) := dgrp_at dg_b_3 27 rfl
theorem dX4_lays_51 : decode cX4_lays 51 = .ok (.iload_n 1, 1) := dgrp_at dg_b_3 28 rfl
theorem dX4_lays_52 : decode cX4_lays 52 = .ok (.aaload, 1) := dgrp_at dg_b_3 29 rfl
theorem dX4_lays_53 : decode cX4_lays 53 = .ok (.getfield 211, 3) := dgrp_at dg_b_3 30 rfl
theorem dX4_lays_56 : decode cX4_lays 56 = .ok (.iload 4, 2) := dgrp_at dg_b_3 31 rfl
def dl_b_4 : List (Nat × Instr × Nat) := [(58, .laload, 1), (59, .lconst 0, 1), (60, .lcmp, 1), (61, .ifCond .eq 10, 3), (64, .iload_n 3, 1), (65, .iconst 1, 1), (66, .iload 4, 2), (68, .ishl, 1), (69, .ior, 1), (70, .istore_n 3, 1), (71, .iinc 4 1, 3), (74, .goto (-53), 3), (77, .aload_n 0, 1), (78, .getfield 12, 3), (81, .iload_n 3, 1), (82, .putfield 74, 3), (85, .iload_n 3, 1), (86, .ireturn, 1)]
theorem dg_b_4 : dgrp cX4_lays dl_b_4 = true := by decide +kernel
theorem dX4_lays_58 : decode cX4_lays 58 = .ok (.laload, 1) := dgrp_at dg_b_4 0 rfl
theorem dX4_lays_59 : decode cX4_lays 59 = .ok (.lconst 0, 1) := dgrp_at dg_b_4 1 rfl
theorem dX4_lays_60 : decode cX4_lays 60 = .ok (.lcmp, 1) := dgrp_at dg_b_4 2 rfl
theorem dX4_lays_61 : decode cX4_lays 61 = .ok (.ifCond .eq 10, 3) := dgrp_at dg_b_4 3 rfl
theorem dX4_lays_64 : decode cX4_lays 64 = .ok (.iload_n 3, 1) := dgrp_at dg_b_4 4 rfl
theorem dX4_lays_65 : decode cX4_lays 65 = .ok (.iconst 1, 1) := dgrp_at dg_b_4 5 rfl
theorem dX4_lays_66 : decode cX4_lays 66 = .ok (.iload 4, 2) := dgrp_at dg_b_4 6 rfl
theorem dX4_lays_68 : decode cX4_lays 68 = .ok (.ishl, 1) := dgrp_at dg_b_4 7 rfl
theorem dX4_lays_69 : decode cX4_lays 69 = .ok (.ior, 1) := dgrp_at dg_b_4 8 rfl
theorem dX4_lays_70 : decode cX4_lays 70 = .ok (.istore_n 3, 1) := dgrp_at dg_b_4 9 rfl
theorem dX4_lays_71 : decode cX4_lays 71 = .ok (.iinc 4 1, 3) := dgrp_at dg_b_4 10 rfl
theorem dX4_lays_74 : decode cX4_lays 74 = .ok (.goto (-53), 3) := dgrp_at dg_b_4 11 rfl
theorem dX4_lays_77 : decode cX4_lays 77 = .ok (.aload_n 0, 1) := dgrp_at dg_b_4 12 rfl
theorem dX4_lays_78 : decode cX4_lays 78 = .ok (.getfield 12, 3) := dgrp_at dg_b_4 13 rfl
theorem dX4_lays_81 : decode cX4_lays 81 = .ok (.iload_n 3, 1) := dgrp_at dg_b_4 14 rfl
theorem dX4_lays_82 : decode cX4_lays 82 = .ok (.putfield 74, 3) := dgrp_at dg_b_4 15 rfl
theorem dX4_lays_85 : decode cX4_lays 85 = .ok (.iload_n 3, 1) := dgrp_at dg_b_4 16 rfl
theorem dX4_lays_86 : decode cX4_lays 86 = .ok (.ireturn, 1) := dgrp_at dg_b_4 17 rfl
def dl_b_5 : List (Nat × Instr × Nat) := [(0, .aload_n 0, 1), (1, .iload_n 1, 1), (2, .invokevirtual 192, 3), (5, .istore_n 2, 1), (6, .iload_n 2, 1), (7, .ifCond .eq 9, 3), (10, .aload_n 0, 1), (11, .iload_n 2, 1), (12, .invokevirtual 52, 3), (15, .ireturn, 1), (16, .aload_n 0, 1), (17, .getfield 12, 3), (20, .getfield 74, 3), (23, .istore_n 3, 1), (24, .iconst 0, 1), (25, .istore 4, 2), (27, .iload 4, 2), (29, .aload_n 0, 1), (30, .getfield 35, 3), (33, .iload_n 1, 1), (34, .aaload, 1), (35, .getfield 195, 3), (38, .if_icmp .ge 32, 3), (41, .aload_n 0, 1), (42, .getfield 35, 3), (45, .iload_n 1, 1), (46, .aaload, 1), (47, .iload 4, 2), (49, .iload_n 3, 1), (50, .i2l, 1), (51, .invokevirtual 196, 3), (54, .pop2, 1)]
theorem dg_b_5 : dgrp cX4_book dl_b_5 = true := by decide +kernel
theorem dX4_book_0 : decode cX4_book 0 = .ok (.aload_n 0, 1) := dgrp_at dg_b_5 0 rfl
theorem dX4_book_1 : decode cX4_book 1 = .ok (.iload_n 1, 1) := dgrp_at dg_b_5 1 rfl
theorem dX4_book_2 : decode cX4_book 2 = .ok (.invokevirtual 192, 3) := dgrp_at dg_b_5 2 rfl
theorem dX4_book_5 : decode cX4_book 5 = .ok (.istore_n 2, 1) := dgrp_at dg_b_5 3 rfl
theorem dX4_book_6 : decode cX4_book 6 = .ok (.iload_n 2, 1) := dgrp_at dg_b_5 4 rfl
theorem dX4_book_7 : decode cX4_book 7 = .ok (.ifCond .eq 9, 3) := dgrp_at dg_b_5 5 rfl
theorem dX4_book_10 : decode cX4_book 10 = .ok (.aload_n 0, 1) := dgrp_at dg_b_5 6 rfl
theorem dX4_book_11 : decode cX4_book 11 = .ok (.iload_n 2, 1) := dgrp_at dg_b_5 7 rfl
theorem dX4_book_12 : decode cX4_book 12 = .ok (.invokevirtual 52, 3) := dgrp_at dg_b_5 8 rfl
theorem dX4_book_15 : decode cX4_book 15 = .ok (.ireturn, 1) := dgrp_at dg_b_5 9 rfl
theorem dX4_book_16 : decode cX4_book 16 = .ok (.aload_n 0, 1) := dgrp_at dg_b_5 10 rfl
theorem dX4_book_17 : decode cX4_book 17 = .ok (.getfield 12, 3) := dgrp_at dg_b_5 11 rfl
theorem dX4_book_20 : decode cX4_book 20 = .ok (.getfield 74, 3) := dgrp_at dg_b_5 12 rfl
theorem dX4_book_23 : decode cX4_book 23 = .ok (.istore_n 3, 1) := dgrp_at dg_b_5 13 rfl
theorem dX4_book_24 : decode cX4_book 24 = .ok (.iconst 0, 1) := dgrp_at dg_b_5 14 rfl
theorem dX4_book_25 : decode cX4_book 25 = .ok (.istore 4, 2) := dgrp_at dg_b_5 15 rfl
theorem dX4_book_27 : decode cX4_book 27 = .ok (.iload 4, 2) := dgrp_at dg_b_5 16 rfl
theorem dX4_book_29 : decode cX4_book 29 = .ok (.aload_n 0, 1) := dgrp_at dg_b_5 17 rfl
theorem dX4_book_30 : decode cX4_book 30 = .ok (.getfield 35, 3) := dgrp_at dg_b_5 18 rfl
theorem dX4_book_33 : decode cX4_book 33 = .ok (.iload_n 1, 1) := dgrp_at dg_b_5 19 rfl
theorem dX4_book_34 : decode cX4_book 34 = .ok (.aaload, 1) := dgrp_at dg_b_5 20 rfl
theorem dX4_book_35 : decode cX4_book 35 = .ok (.getfield 195, 3) := dgrp_at dg_b_5 21 rfl
theorem dX4_book_38 : decode cX4_book 38 = .ok (.if_icmp .ge 32, 3) := dgrp_at dg_b_5 22 rfl
theorem dX4_book_41 : decode cX4_book 41 = .ok (.aload_n 0, 1) := dgrp_at dg_b_5 23 rfl
theorem dX4_book_42 : decode cX4_book 42 = .ok (.getfield 35, 3) := dgrp_at dg_b_5 24 rfl
theorem dX4_book_45 : decode cX4_book 45 = .ok (.iload_n 1, 1) := dgrp_at dg_b_5 25 rfl
theorem dX4_book_46 : decode cX4_book 46 = .ok (.aaload, 1) := dgrp_at dg_b_5 26 rfl
theorem dX4_book_47 : decode cX4_book 47 = .ok (.iload 4, 2) := dgrp_at dg_b_5 27 rfl
theorem dX4_book_49 : decode cX4_book 49 = .ok (.iload_n 3, 1) := dgrp_at dg_b_5 28 rfl
theorem dX4_book_50 : decode cX4_book 50 = .ok (.i2l, 1) := dgrp_at dg_b_5 29 rfl
theorem dX4_book_51 : decode cX4_book 51 = .ok (.invokevirtual 196, 3) := dgrp_at dg_b_5 30 rfl
theorem dX4_book_54 : decode cX4_book 54 = .ok (.pop2, 1) := dgrp_at dg_b_5 31 rfl
def dl_b_6 : List (Nat × Instr × Nat) := [(55, .aload_n 0, 1), (56, .getfield 12, 3), (59, .iload_n 3, 1), (60, .invokevirtual 77, 3), (63, .istore_n 3, 1), (64, .iinc 4 1, 3), (67, .goto (-40), 3), (70, .aload_n 0, 1), (71, .getfield 35, 3), (74, .iload_n 1, 1), (75, .aaload, 1), (76, .getfield 195, 3), (79, .ireturn, 1)]
theorem dg_b_6 : dgrp cX4_book dl_b_6 = true := by decide +kernel
theorem dX4_book_55 : decode cX4_book 55 = .ok (.aload_n 0, 1) := dgrp_at dg_b_6 0 rfl
theorem dX4_book_56 : decode cX4_book 56 = .ok (.getfield 12, 3) := dgrp_at dg_b_6 1 rfl
theorem dX4_book_59 : decode cX4_book 59 = .ok (.iload_n 3, 1) := dgrp_at dg_b_6 2 rfl
theorem dX4_book_60 : decode cX4_book 60 = .ok (.invokevirtual 77, 3) := dgrp_at dg_b_6 3 rfl
theorem dX4_book_63 : decode cX4_book 63 = .ok (.istore_n 3, 1) := dgrp_at dg_b_6 4 rfl
theorem dX4_book_64 : decode cX4_book 64 = .ok (.iinc 4 1, 3) := dgrp_at dg_b_6 5 rfl
theorem dX4_book_67 : decode cX4_book 67 = .ok (.goto (-40), 3) := dgrp_at dg_b_6 6 rfl
theorem dX4_book_70 : decode cX4_book 70 = .ok (.aload_n 0, 1) := dgrp_at dg_b_6 7 rfl
theorem dX4_book_71 : decode cX4_book 71 = .ok (.getfield 35, 3) := dgrp_at dg_b_6 8 rfl
theorem dX4_book_74 : decode cX4_book 74 = .ok (.iload_n 1, 1) := dgrp_at dg_b_6 9 rfl
theorem dX4_book_75 : decode cX4_book 75 = .ok (.aaload, 1) := dgrp_at dg_b_6 10 rfl
theorem dX4_book_76 : decode cX4_book 76 = .ok (.getfield 195, 3) := dgrp_at dg_b_6 11 rfl
theorem dX4_book_79 : decode cX4_book 79 = .ok (.ireturn, 1) := dgrp_at dg_b_6 12 rfl
def dl_b_7 : List (Nat × Instr × Nat) := [(0, .aload_n 0, 1), (1, .iload_n 1, 1), (2, .invokevirtual 192, 3), (5, .istore_n 2, 1), (6, .iload_n 2, 1), (7, .ifCond .eq 9, 3), (10, .aload_n 0, 1), (11, .iload_n 2, 1), (12, .invokevirtual 52, 3), (15, .ireturn, 1), (16, .aload_n 0, 1), (17, .getfield 35, 3), (20, .iload_n 1, 1), (21, .aaload, 1), (22, .aload_n 0, 1), (23, .getfield 12, 3), (26, .invokevirtual 156, 3), (29, .invokevirtual 221, 3), (32, .ifCond .ne 5, 3), (35, .iconst 0, 1), (36, .ireturn, 1), (37, .iconst 0, 1), (38, .istore_n 3, 1), (39, .iconst 0, 1), (40, .istore 4, 2), (42, .iload 4, 2), (44, .aload_n 0, 1), (45, .getfield 12, 3), (48, .getfield 56, 3), (51, .if_icmp .ge 45, 3), (54, .iconst 0, 1), (55, .istore 5, 2)]
theorem dg_b_7 : dgrp cX4_read dl_b_7 = true := by decide +kernel
theorem dX4_read_0 : decode cX4_read 0 = .ok (.aload_n 0, 1) := dgrp_at dg_b_7 0 rfl
theorem dX4_read_1 : decode cX4_read 1 = .ok (.iload_n 1, 1) := dgrp_at dg_b_7 1 rfl
theorem dX4_read_2 : decode cX4_read 2 = .ok (.invokevirtual 192, 3) := dgrp_at dg_b_7 2 rfl
theorem dX4_read_5 : decode cX4_read 5 = .ok (.istore_n 2, 1) := dgrp_at dg_b_7 3 rfl
theorem dX4_read_6 : decode cX4_read 6 = .ok (.iload_n 2, 1) := dgrp_at dg_b_7 4 rfl
theorem dX4_read_7 : decode cX4_read 7 = .ok (.ifCond .eq 9, 3) := dgrp_at dg_b_7 5 rfl
theorem dX4_read_10 : decode cX4_read 10 = .ok (.aload_n 0, 1) := dgrp_at dg_b_7 6 rfl
theorem dX4_read_11 : decode cX4_read 11 = .ok (.iload_n 2, 1) := dgrp_at dg_b_7 7 rfl
theorem dX4_read_12 : decode cX4_read 12 = .ok (.invokevirtual 52, 3) := dgrp_at dg_b_7 8 rfl
theorem dX4_read_15 : decode cX4_read 15 = .ok (.ireturn, 1) := dgrp_at dg_b_7 9 rfl
theorem dX4_read_16 : decode cX4_read 16 = .ok (.aload_n 0, 1) := dgrp_at dg_b_7 10 rfl
theorem dX4_read_17 : decode cX4_read 17 = .ok (.getfield 35, 3) := dgrp_at dg_b_7 11 rfl
theorem dX4_read_20 : decode cX4_read 20 = .ok (.iload_n 1, 1) := dgrp_at dg_b_7 12 rfl
theorem dX4_read_21 : decode cX4_read 21 = .ok (.aaload, 1) := dgrp_at dg_b_7 13 rfl
theorem dX4_read_22 : decode cX4_read 22 = .ok (.aload_n 0, 1) := dgrp_at dg_b_7 14 rfl
theorem dX4_read_23 : decode cX4_read 23 = .ok (.getfield 12, 3) := dgrp_at dg_b_7 15 rfl
theorem dX4_read_26 : decode cX4_read 26 = .ok (.invokevirtual 156, 3) := dgrp_at dg_b_7 16 rfl
theorem dX4_read_29 : decode cX4_read 29 = .ok (.invokevirtual 221, 3) := dgrp_at dg_b_7 17 rfl
theorem dX4_read_32 : decode cX4_read 32 = .ok (.ifCond .ne 5, 3) := dgrp_at dg_b_7 18 rfl
theorem dX4_read_35 : decode cX4_read 35 = .ok (.iconst 0, 1) := dgrp_at dg_b_7 19 rfl
theorem dX4_read_36 : decode cX4_read 36 = .ok (.ireturn, 1) := dgrp_at dg_b_7 20 rfl
theorem dX4_read_37 : decode cX4_read 37 = .ok (.iconst 0, 1) := dgrp_at dg_b_7 21 rfl
theorem dX4_read_38 : decode cX4_read 38 = .ok (.istore_n 3, 1) := dgrp_at dg_b_7 22 rfl
theorem dX4_read_39 : decode cX4_read 39 = .ok (.iconst 0, 1) := dgrp_at dg_b_7 23 rfl
theorem dX4_read_40 : decode cX4_read 40 = .ok (.istore 4, 2) := dgrp_at dg_b_7 24 rfl
theorem dX4_read_42 : decode cX4_read 42 = .ok (.iload 4, 2) := dgrp_at dg_b_7 25 rfl
theorem dX4_read_44 : decode cX4_read 44 = .ok (.aload_n 0, 1) := dgrp_at dg_b_7 26 rfl
theorem dX4_read_45 : decode cX4_read 45 = .ok (.getfield 12, 3) := dgrp_at dg_b_7 27 rfl
theorem dX4_read_48 : decode cX4_read 48 = .ok (.getfield 56, 3) := dgrp_at dg_b_7 28 rfl
theorem dX4_read_51 : decode cX4_read 51 = .ok (.if_icmp .ge 45, 3) := dgrp_at dg_b_7 29 rfl
theorem dX4_read_54 : decode cX4_read 54 = .ok (.iconst 0, 1) := dgrp_at dg_b_7 30 rfl
theorem dX4_read_55 : decode cX4_read 55 = .ok (.istore 5, 2) := dgrp_at dg_b_7 31 rfl
def dl_b_8 : List (Nat × Instr × Nat) := [(57, .iload 5, 2), (59, .bipush 6, 2), (61, .if_icmp .ge 29, 3), (64, .iload_n 3, 1), (65, .aload_n 0, 1), (66, .aload_n 0, 1), (67, .getfield 35, 3), (70, .iload_n 1, 1), (71, .aaload, 1), (72, .iload 4, 2), (74, .iload 5, 2), (76, .invokevirtual 224, 3), (79, .invokestatic 84, 3), (82, .iadd, 1), (83, .istore_n 3, 1), (84, .iinc 5 1, 3), (87, .goto (-30), 3), (90, .iinc 4 1, 3), (93, .goto (-51), 3), (96, .iload_n 3, 1), (97, .ireturn, 1)]
theorem dg_b_8 : dgrp cX4_read dl_b_8 = true := by decide +kernel
theorem dX4_read_57 : decode cX4_read 57 = .ok (.iload 5, 2) := dgrp_at dg_b_8 0 rfl
theorem dX4_read_59 : decode cX4_read 59 = .ok (.bipush 6, 2) := dgrp_at dg_b_8 1 rfl
theorem dX4_read_61 : decode cX4_read 61 = .ok (.if_icmp .ge 29, 3) := dgrp_at dg_b_8 2 rfl
theorem dX4_read_64 : decode cX4_read 64 = .ok (.iload_n 3, 1) := dgrp_at dg_b_8 3 rfl
theorem dX4_read_65 : decode cX4_read 65 = .ok (.aload_n 0, 1) := dgrp_at dg_b_8 4 rfl
theorem dX4_read_66 : decode cX4_read 66 = .ok (.aload_n 0, 1) := dgrp_at dg_b_8 5 rfl
theorem dX4_read_67 : decode cX4_read 67 = .ok (.getfield 35, 3) := dgrp_at dg_b_8 6 rfl
theorem dX4_read_70 : decode cX4_read 70 = .ok (.iload_n 1, 1) := dgrp_at dg_b_8 7 rfl
theorem dX4_read_71 : decode cX4_read 71 = .ok (.aaload, 1) := dgrp_at dg_b_8 8 rfl
theorem dX4_read_72 : decode cX4_read 72 = .ok (.iload 4, 2) := dgrp_at dg_b_8 9 rfl
theorem dX4_read_74 : decode cX4_read 74 = .ok (.iload 5, 2) := dgrp_at dg_b_8 10 rfl
theorem dX4_read_76 : decode cX4_read 76 = .ok (.invokevirtual 224, 3) := dgrp_at dg_b_8 11 rfl
theorem dX4_read_79 : decode cX4_read 79 = .ok (.invokestatic 84, 3) := dgrp_at dg_b_8 12 rfl
theorem dX4_read_82 : decode cX4_read 82 = .ok (.iadd, 1) := dgrp_at dg_b_8 13 rfl
theorem dX4_read_83 : decode cX4_read 83 = .ok (.istore_n 3, 1) := dgrp_at dg_b_8 14 rfl
theorem dX4_read_84 : decode cX4_read 84 = .ok (.iinc 5 1, 3) := dgrp_at dg_b_8 15 rfl
theorem dX4_read_87 : decode cX4_read 87 = .ok (.goto (-30), 3) := dgrp_at dg_b_8 16 rfl
theorem dX4_read_90 : decode cX4_read 90 = .ok (.iinc 4 1, 3) := dgrp_at dg_b_8 17 rfl
theorem dX4_read_93 : decode cX4_read 93 = .ok (.goto (-51), 3) := dgrp_at dg_b_8 18 rfl
theorem dX4_read_96 : decode cX4_read 96 = .ok (.iload_n 3, 1) := dgrp_at dg_b_8 19 rfl
theorem dX4_read_97 : decode cX4_read 97 = .ok (.ireturn, 1) := dgrp_at dg_b_8 20 rfl
def dl_b_9 : List (Nat × Instr × Nat) := [(0, .aload_n 0, 1), (1, .getfield 16, 3), (4, .aload_n 0, 1), (5, .getfield 12, 3), (8, .invokevirtual 228, 3), (11, .aload_n 0, 1), (12, .iconst 1, 1), (13, .putfield 232, 3), (16, .iconst 1, 1), (17, .ireturn, 1)]
theorem dg_b_9 : dgrp cX4_image dl_b_9 = true := by decide +kernel
theorem dX4_image_0 : decode cX4_image 0 = .ok (.aload_n 0, 1) := dgrp_at dg_b_9 0 rfl
theorem dX4_image_1 : decode cX4_image 1 = .ok (.getfield 16, 3) := dgrp_at dg_b_9 1 rfl
theorem dX4_image_4 : decode cX4_image 4 = .ok (.aload_n 0, 1) := dgrp_at dg_b_9 2 rfl
theorem dX4_image_5 : decode cX4_image 5 = .ok (.getfield 12, 3) := dgrp_at dg_b_9 3 rfl
theorem dX4_image_8 : decode cX4_image 8 = .ok (.invokevirtual 228, 3) := dgrp_at dg_b_9 4 rfl
theorem dX4_image_11 : decode cX4_image 11 = .ok (.aload_n 0, 1) := dgrp_at dg_b_9 5 rfl
theorem dX4_image_12 : decode cX4_image 12 = .ok (.iconst 1, 1) := dgrp_at dg_b_9 6 rfl
theorem dX4_image_13 : decode cX4_image 13 = .ok (.putfield 232, 3) := dgrp_at dg_b_9 7 rfl
theorem dX4_image_16 : decode cX4_image 16 = .ok (.iconst 1, 1) := dgrp_at dg_b_9 8 rfl
theorem dX4_image_17 : decode cX4_image 17 = .ok (.ireturn, 1) := dgrp_at dg_b_9 9 rfl
def dl_b_10 : List (Nat × Instr × Nat) := [(0, .aload_n 0, 1), (1, .getfield 232, 3), (4, .ifCond .ne 10, 3), (7, .aload_n 0, 1), (8, .ldc 135, 2), (10, .invokevirtual 52, 3), (13, .ireturn, 1), (14, .aload_n 0, 1), (15, .getfield 12, 3), (18, .aload_n 0, 1), (19, .getfield 16, 3), (22, .invokevirtual 228, 3), (25, .aload_n 0, 1), (26, .getfield 12, 3), (29, .getfield 56, 3), (32, .ireturn, 1)]
theorem dg_b_10 : dgrp cX4_undo dl_b_10 = true := by decide +kernel
theorem dX4_undo_0 : decode cX4_undo 0 = .ok (.aload_n 0, 1) := dgrp_at dg_b_10 0 rfl
theorem dX4_undo_1 : decode cX4_undo 1 = .ok (.getfield 232, 3) := dgrp_at dg_b_10 1 rfl
theorem dX4_undo_4 : decode cX4_undo 4 = .ok (.ifCond .ne 10, 3) := dgrp_at dg_b_10 2 rfl
theorem dX4_undo_7 : decode cX4_undo 7 = .ok (.aload_n 0, 1) := dgrp_at dg_b_10 3 rfl
theorem dX4_undo_8 : decode cX4_undo 8 = .ok (.ldc 135, 2) := dgrp_at dg_b_10 4 rfl
theorem dX4_undo_10 : decode cX4_undo 10 = .ok (.invokevirtual 52, 3) := dgrp_at dg_b_10 5 rfl
theorem dX4_undo_13 : decode cX4_undo 13 = .ok (.ireturn, 1) := dgrp_at dg_b_10 6 rfl
theorem dX4_undo_14 : decode cX4_undo 14 = .ok (.aload_n 0, 1) := dgrp_at dg_b_10 7 rfl
theorem dX4_undo_15 : decode cX4_undo 15 = .ok (.getfield 12, 3) := dgrp_at dg_b_10 8 rfl
theorem dX4_undo_18 : decode cX4_undo 18 = .ok (.aload_n 0, 1) := dgrp_at dg_b_10 9 rfl
theorem dX4_undo_19 : decode cX4_undo 19 = .ok (.getfield 16, 3) := dgrp_at dg_b_10 10 rfl
theorem dX4_undo_22 : decode cX4_undo 22 = .ok (.invokevirtual 228, 3) := dgrp_at dg_b_10 11 rfl
theorem dX4_undo_25 : decode cX4_undo 25 = .ok (.aload_n 0, 1) := dgrp_at dg_b_10 12 rfl
theorem dX4_undo_26 : decode cX4_undo 26 = .ok (.getfield 12, 3) := dgrp_at dg_b_10 13 rfl
theorem dX4_undo_29 : decode cX4_undo 29 = .ok (.getfield 56, 3) := dgrp_at dg_b_10 14 rfl
theorem dX4_undo_32 : decode cX4_undo 32 = .ok (.ireturn, 1) := dgrp_at dg_b_10 15 rfl
def dl_b_11 : List (Nat × Instr × Nat) := [(0, .aload_n 0, 1), (1, .getfield 232, 3), (4, .invokestatic 84, 3), (7, .istore_n 1, 1), (8, .aload_n 0, 1), (9, .iconst 0, 1), (10, .putfield 232, 3), (13, .iload_n 1, 1), (14, .ireturn, 1)]
theorem dg_b_11 : dgrp cX4_tear dl_b_11 = true := by decide +kernel
theorem dX4_tear_0 : decode cX4_tear 0 = .ok (.aload_n 0, 1) := dgrp_at dg_b_11 0 rfl
theorem dX4_tear_1 : decode cX4_tear 1 = .ok (.getfield 232, 3) := dgrp_at dg_b_11 1 rfl
theorem dX4_tear_4 : decode cX4_tear 4 = .ok (.invokestatic 84, 3) := dgrp_at dg_b_11 2 rfl
theorem dX4_tear_7 : decode cX4_tear 7 = .ok (.istore_n 1, 1) := dgrp_at dg_b_11 3 rfl
theorem dX4_tear_8 : decode cX4_tear 8 = .ok (.aload_n 0, 1) := dgrp_at dg_b_11 4 rfl
theorem dX4_tear_9 : decode cX4_tear 9 = .ok (.iconst 0, 1) := dgrp_at dg_b_11 5 rfl
theorem dX4_tear_10 : decode cX4_tear 10 = .ok (.putfield 232, 3) := dgrp_at dg_b_11 6 rfl
theorem dX4_tear_13 : decode cX4_tear 13 = .ok (.iload_n 1, 1) := dgrp_at dg_b_11 7 rfl
theorem dX4_tear_14 : decode cX4_tear 14 = .ok (.ireturn, 1) := dgrp_at dg_b_11 8 rfl
def dl_b_12 : List (Nat × Instr × Nat) := [(0, .iload_n 1, 1), (32, .aload_n 0, 1), (33, .getfield 12, 3), (36, .getfield 56, 3), (39, .ireturn, 1), (40, .aload_n 0, 1), (41, .getfield 22, 3), (44, .getfield 109, 3), (47, .ireturn, 1), (48, .aload_n 0, 1), (49, .getfield 12, 3), (52, .aload_n 0, 1), (53, .getfield 12, 3), (56, .invokevirtual 156, 3), (59, .invokevirtual 126, 3), (62, .ireturn, 1), (63, .aload_n 0, 1), (64, .getfield 12, 3), (67, .getfield 236, 3), (70, .ireturn, 1), (71, .aload_n 0, 1), (72, .ldc 51, 2), (74, .invokevirtual 52, 3), (77, .ireturn, 1)]
theorem dg_b_12 : dgrp cX4_count dl_b_12 = true := by decide +kernel
theorem dX4_count_0 : decode cX4_count 0 = .ok (.iload_n 1, 1) := dgrp_at dg_b_12 0 rfl
theorem dX4_count_32 : decode cX4_count 32 = .ok (.aload_n 0, 1) := dgrp_at dg_b_12 1 rfl
theorem dX4_count_33 : decode cX4_count 33 = .ok (.getfield 12, 3) := dgrp_at dg_b_12 2 rfl
theorem dX4_count_36 : decode cX4_count 36 = .ok (.getfield 56, 3) := dgrp_at dg_b_12 3 rfl
theorem dX4_count_39 : decode cX4_count 39 = .ok (.ireturn, 1) := dgrp_at dg_b_12 4 rfl
theorem dX4_count_40 : decode cX4_count 40 = .ok (.aload_n 0, 1) := dgrp_at dg_b_12 5 rfl
theorem dX4_count_41 : decode cX4_count 41 = .ok (.getfield 22, 3) := dgrp_at dg_b_12 6 rfl
theorem dX4_count_44 : decode cX4_count 44 = .ok (.getfield 109, 3) := dgrp_at dg_b_12 7 rfl
theorem dX4_count_47 : decode cX4_count 47 = .ok (.ireturn, 1) := dgrp_at dg_b_12 8 rfl
theorem dX4_count_48 : decode cX4_count 48 = .ok (.aload_n 0, 1) := dgrp_at dg_b_12 9 rfl
theorem dX4_count_49 : decode cX4_count 49 = .ok (.getfield 12, 3) := dgrp_at dg_b_12 10 rfl
theorem dX4_count_52 : decode cX4_count 52 = .ok (.aload_n 0, 1) := dgrp_at dg_b_12 11 rfl
theorem dX4_count_53 : decode cX4_count 53 = .ok (.getfield 12, 3) := dgrp_at dg_b_12 12 rfl
theorem dX4_count_56 : decode cX4_count 56 = .ok (.invokevirtual 156, 3) := dgrp_at dg_b_12 13 rfl
theorem dX4_count_59 : decode cX4_count 59 = .ok (.invokevirtual 126, 3) := dgrp_at dg_b_12 14 rfl
theorem dX4_count_62 : decode cX4_count 62 = .ok (.ireturn, 1) := dgrp_at dg_b_12 15 rfl
theorem dX4_count_63 : decode cX4_count 63 = .ok (.aload_n 0, 1) := dgrp_at dg_b_12 16 rfl
theorem dX4_count_64 : decode cX4_count 64 = .ok (.getfield 12, 3) := dgrp_at dg_b_12 17 rfl
theorem dX4_count_67 : decode cX4_count 67 = .ok (.getfield 236, 3) := dgrp_at dg_b_12 18 rfl
theorem dX4_count_70 : decode cX4_count 70 = .ok (.ireturn, 1) := dgrp_at dg_b_12 19 rfl
theorem dX4_count_71 : decode cX4_count 71 = .ok (.aload_n 0, 1) := dgrp_at dg_b_12 20 rfl
theorem dX4_count_72 : decode cX4_count 72 = .ok (.ldc 51, 2) := dgrp_at dg_b_12 21 rfl
theorem dX4_count_74 : decode cX4_count 74 = .ok (.invokevirtual 52, 3) := dgrp_at dg_b_12 22 rfl
theorem dX4_count_77 : decode cX4_count 77 = .ok (.ireturn, 1) := dgrp_at dg_b_12 23 rfl
def dl_b_13 : List (Nat × Instr × Nat) := [(0, .iload_n 1, 1), (1, .iconst (-1), 1), (2, .if_icmp .lt 9, 3), (5, .iload_n 1, 1), (6, .bipush 7, 2), (8, .if_icmp .lt 10, 3), (11, .aload_n 0, 1), (12, .ldc 51, 2), (14, .invokevirtual 52, 3), (17, .ireturn, 1), (18, .iload_n 1, 1), (19, .ifCond .lt 10, 3), (22, .aload_n 0, 1), (23, .getfield 40, 3), (26, .iload_n 1, 1), (27, .iaload, 1), (28, .ireturn, 1), (29, .iconst 0, 1), (30, .istore_n 2, 1), (31, .iconst 0, 1), (32, .istore_n 3, 1), (33, .iload_n 3, 1), (34, .bipush 7, 2), (36, .if_icmp .ge 18, 3), (39, .iload_n 2, 1), (40, .aload_n 0, 1), (41, .getfield 40, 3), (44, .iload_n 3, 1), (45, .iaload, 1), (46, .iadd, 1), (47, .istore_n 2, 1), (48, .iinc 3 1, 3)]
theorem dg_b_13 : dgrp cX4_status dl_b_13 = true := by decide +kernel
theorem dX4_status_0 : decode cX4_status 0 = .ok (.iload_n 1, 1) := dgrp_at dg_b_13 0 rfl
theorem dX4_status_1 : decode cX4_status 1 = .ok (.iconst (-1), 1) := dgrp_at dg_b_13 1 rfl
theorem dX4_status_2 : decode cX4_status 2 = .ok (.if_icmp .lt 9, 3) := dgrp_at dg_b_13 2 rfl
theorem dX4_status_5 : decode cX4_status 5 = .ok (.iload_n 1, 1) := dgrp_at dg_b_13 3 rfl
theorem dX4_status_6 : decode cX4_status 6 = .ok (.bipush 7, 2) := dgrp_at dg_b_13 4 rfl
theorem dX4_status_8 : decode cX4_status 8 = .ok (.if_icmp .lt 10, 3) := dgrp_at dg_b_13 5 rfl
theorem dX4_status_11 : decode cX4_status 11 = .ok (.aload_n 0, 1) := dgrp_at dg_b_13 6 rfl
theorem dX4_status_12 : decode cX4_status 12 = .ok (.ldc 51, 2) := dgrp_at dg_b_13 7 rfl
theorem dX4_status_14 : decode cX4_status 14 = .ok (.invokevirtual 52, 3) := dgrp_at dg_b_13 8 rfl
theorem dX4_status_17 : decode cX4_status 17 = .ok (.ireturn, 1) := dgrp_at dg_b_13 9 rfl
theorem dX4_status_18 : decode cX4_status 18 = .ok (.iload_n 1, 1) := dgrp_at dg_b_13 10 rfl
theorem dX4_status_19 : decode cX4_status 19 = .ok (.ifCond .lt 10, 3) := dgrp_at dg_b_13 11 rfl
theorem dX4_status_22 : decode cX4_status 22 = .ok (.aload_n 0, 1) := dgrp_at dg_b_13 12 rfl
theorem dX4_status_23 : decode cX4_status 23 = .ok (.getfield 40, 3) := dgrp_at dg_b_13 13 rfl
theorem dX4_status_26 : decode cX4_status 26 = .ok (.iload_n 1, 1) := dgrp_at dg_b_13 14 rfl
theorem dX4_status_27 : decode cX4_status 27 = .ok (.iaload, 1) := dgrp_at dg_b_13 15 rfl
theorem dX4_status_28 : decode cX4_status 28 = .ok (.ireturn, 1) := dgrp_at dg_b_13 16 rfl
theorem dX4_status_29 : decode cX4_status 29 = .ok (.iconst 0, 1) := dgrp_at dg_b_13 17 rfl
theorem dX4_status_30 : decode cX4_status 30 = .ok (.istore_n 2, 1) := dgrp_at dg_b_13 18 rfl
theorem dX4_status_31 : decode cX4_status 31 = .ok (.iconst 0, 1) := dgrp_at dg_b_13 19 rfl
theorem dX4_status_32 : decode cX4_status 32 = .ok (.istore_n 3, 1) := dgrp_at dg_b_13 20 rfl
theorem dX4_status_33 : decode cX4_status 33 = .ok (.iload_n 3, 1) := dgrp_at dg_b_13 21 rfl
theorem dX4_status_34 : decode cX4_status 34 = .ok (.bipush 7, 2) := dgrp_at dg_b_13 22 rfl
theorem dX4_status_36 : decode cX4_status 36 = .ok (.if_icmp .ge 18, 3) := dgrp_at dg_b_13 23 rfl
theorem dX4_status_39 : decode cX4_status 39 = .ok (.iload_n 2, 1) := dgrp_at dg_b_13 24 rfl
theorem dX4_status_40 : decode cX4_status 40 = .ok (.aload_n 0, 1) := dgrp_at dg_b_13 25 rfl
theorem dX4_status_41 : decode cX4_status 41 = .ok (.getfield 40, 3) := dgrp_at dg_b_13 26 rfl
theorem dX4_status_44 : decode cX4_status 44 = .ok (.iload_n 3, 1) := dgrp_at dg_b_13 27 rfl
theorem dX4_status_45 : decode cX4_status 45 = .ok (.iaload, 1) := dgrp_at dg_b_13 28 rfl
theorem dX4_status_46 : decode cX4_status 46 = .ok (.iadd, 1) := dgrp_at dg_b_13 29 rfl
theorem dX4_status_47 : decode cX4_status 47 = .ok (.istore_n 2, 1) := dgrp_at dg_b_13 30 rfl
theorem dX4_status_48 : decode cX4_status 48 = .ok (.iinc 3 1, 3) := dgrp_at dg_b_13 31 rfl
def dl_b_14 : List (Nat × Instr × Nat) := [(51, .goto (-18), 3), (54, .iload_n 2, 1), (55, .ireturn, 1)]
theorem dg_b_14 : dgrp cX4_status dl_b_14 = true := by decide +kernel
theorem dX4_status_51 : decode cX4_status 51 = .ok (.goto (-18), 3) := dgrp_at dg_b_14 0 rfl
theorem dX4_status_54 : decode cX4_status 54 = .ok (.iload_n 2, 1) := dgrp_at dg_b_14 1 rfl
theorem dX4_status_55 : decode cX4_status 55 = .ok (.ireturn, 1) := dgrp_at dg_b_14 2 rfl
def dl_b_15 : List (Nat × Instr × Nat) := [(0, .ldc 51, 2), (2, .iload_n 1, 1), (3, .isub, 1), (4, .istore_n 2, 1), (5, .iload_n 2, 1), (6, .ifCond .lt 19, 3), (9, .iload_n 2, 1), (10, .bipush 7, 2), (12, .if_icmp .ge 13, 3), (15, .aload_n 0, 1), (16, .getfield 40, 3), (19, .iload_n 2, 1), (20, .dup2, 1), (21, .iaload, 1), (22, .iconst 1, 1), (23, .iadd, 1), (24, .iastore, 1), (25, .iload_n 1, 1), (26, .ireturn, 1)]
theorem dg_b_15 : dgrp cX4_found dl_b_15 = true := by decide +kernel
theorem dX4_found_0 : decode cX4_found 0 = .ok (.ldc 51, 2) := dgrp_at dg_b_15 0 rfl
theorem dX4_found_2 : decode cX4_found 2 = .ok (.iload_n 1, 1) := dgrp_at dg_b_15 1 rfl
theorem dX4_found_3 : decode cX4_found 3 = .ok (.isub, 1) := dgrp_at dg_b_15 2 rfl
theorem dX4_found_4 : decode cX4_found 4 = .ok (.istore_n 2, 1) := dgrp_at dg_b_15 3 rfl
theorem dX4_found_5 : decode cX4_found 5 = .ok (.iload_n 2, 1) := dgrp_at dg_b_15 4 rfl
theorem dX4_found_6 : decode cX4_found 6 = .ok (.ifCond .lt 19, 3) := dgrp_at dg_b_15 5 rfl
theorem dX4_found_9 : decode cX4_found 9 = .ok (.iload_n 2, 1) := dgrp_at dg_b_15 6 rfl
theorem dX4_found_10 : decode cX4_found 10 = .ok (.bipush 7, 2) := dgrp_at dg_b_15 7 rfl
theorem dX4_found_12 : decode cX4_found 12 = .ok (.if_icmp .ge 13, 3) := dgrp_at dg_b_15 8 rfl
theorem dX4_found_15 : decode cX4_found 15 = .ok (.aload_n 0, 1) := dgrp_at dg_b_15 9 rfl
theorem dX4_found_16 : decode cX4_found 16 = .ok (.getfield 40, 3) := dgrp_at dg_b_15 10 rfl
theorem dX4_found_19 : decode cX4_found 19 = .ok (.iload_n 2, 1) := dgrp_at dg_b_15 11 rfl
theorem dX4_found_20 : decode cX4_found 20 = .ok (.dup2, 1) := dgrp_at dg_b_15 12 rfl
theorem dX4_found_21 : decode cX4_found 21 = .ok (.iaload, 1) := dgrp_at dg_b_15 13 rfl
theorem dX4_found_22 : decode cX4_found 22 = .ok (.iconst 1, 1) := dgrp_at dg_b_15 14 rfl
theorem dX4_found_23 : decode cX4_found 23 = .ok (.iadd, 1) := dgrp_at dg_b_15 15 rfl
theorem dX4_found_24 : decode cX4_found 24 = .ok (.iastore, 1) := dgrp_at dg_b_15 16 rfl
theorem dX4_found_25 : decode cX4_found 25 = .ok (.iload_n 1, 1) := dgrp_at dg_b_15 17 rfl
theorem dX4_found_26 : decode cX4_found 26 = .ok (.ireturn, 1) := dgrp_at dg_b_15 18 rfl
def dl_b_16 : List (Nat × Instr × Nat) := [(0, .iload_n 1, 1), (1, .invokestatic 185, 3), (4, .ifCond .ne 6, 3), (7, .ldc 51, 2), (9, .ireturn, 1), (10, .aload_n 0, 1), (11, .getfield 35, 3), (14, .iload_n 1, 1), (15, .aaload, 1), (16, .invokevirtual 200, 3), (19, .ifCond .eq 8, 3), (22, .ldc 204, 2), (24, .goto 4, 3), (27, .iconst 0, 1), (28, .ireturn, 1)]
theorem dg_b_16 : dgrp cX4_sheetLack dl_b_16 = true := by decide +kernel
theorem dX4_sheetLack_0 : decode cX4_sheetLack 0 = .ok (.iload_n 1, 1) := dgrp_at dg_b_16 0 rfl
theorem dX4_sheetLack_1 : decode cX4_sheetLack 1 = .ok (.invokestatic 185, 3) := dgrp_at dg_b_16 1 rfl
theorem dX4_sheetLack_4 : decode cX4_sheetLack 4 = .ok (.ifCond .ne 6, 3) := dgrp_at dg_b_16 2 rfl
theorem dX4_sheetLack_7 : decode cX4_sheetLack 7 = .ok (.ldc 51, 2) := dgrp_at dg_b_16 3 rfl
theorem dX4_sheetLack_9 : decode cX4_sheetLack 9 = .ok (.ireturn, 1) := dgrp_at dg_b_16 4 rfl
theorem dX4_sheetLack_10 : decode cX4_sheetLack 10 = .ok (.aload_n 0, 1) := dgrp_at dg_b_16 5 rfl
theorem dX4_sheetLack_11 : decode cX4_sheetLack 11 = .ok (.getfield 35, 3) := dgrp_at dg_b_16 6 rfl
theorem dX4_sheetLack_14 : decode cX4_sheetLack 14 = .ok (.iload_n 1, 1) := dgrp_at dg_b_16 7 rfl
theorem dX4_sheetLack_15 : decode cX4_sheetLack 15 = .ok (.aaload, 1) := dgrp_at dg_b_16 8 rfl
theorem dX4_sheetLack_16 : decode cX4_sheetLack 16 = .ok (.invokevirtual 200, 3) := dgrp_at dg_b_16 9 rfl
theorem dX4_sheetLack_19 : decode cX4_sheetLack 19 = .ok (.ifCond .eq 8, 3) := dgrp_at dg_b_16 10 rfl
theorem dX4_sheetLack_22 : decode cX4_sheetLack 22 = .ok (.ldc 204, 2) := dgrp_at dg_b_16 11 rfl
theorem dX4_sheetLack_24 : decode cX4_sheetLack 24 = .ok (.goto 4, 3) := dgrp_at dg_b_16 12 rfl
theorem dX4_sheetLack_27 : decode cX4_sheetLack 27 = .ok (.iconst 0, 1) := dgrp_at dg_b_16 13 rfl
theorem dX4_sheetLack_28 : decode cX4_sheetLack 28 = .ok (.ireturn, 1) := dgrp_at dg_b_16 14 rfl
def dl_b_17 : List (Nat × Instr × Nat) := [(0, .iconst (-1), 1), (1, .istore_n 2, 1), (2, .iconst 0, 1), (3, .istore_n 3, 1), (4, .iload_n 3, 1), (5, .aload_n 0, 1), (6, .getfield 12, 3), (9, .invokevirtual 153, 3), (12, .if_icmp .ge 58, 3), (15, .iload_n 2, 1), (16, .ifCond .lt 12, 3), (19, .aload_n 0, 1), (20, .iload_n 3, 1), (21, .iload_n 2, 1), (22, .invokevirtual 239, 3), (25, .ifCond .eq 7, 3), (28, .iconst 1, 1), (29, .goto 4, 3), (32, .iconst 0, 1), (33, .istore 4, 2), (35, .iload 4, 2), (37, .ifCond .eq 27, 3), (40, .aload_n 0, 1), (41, .getfield 12, 3), (44, .iload_n 3, 1), (45, .aload_n 0, 1), (46, .getfield 12, 3), (49, .invokevirtual 156, 3), (52, .invokevirtual 169, 3), (55, .invokestatic 118, 3), (58, .iload_n 1, 1), (59, .if_icmp .lt 5, 3)]
theorem dg_b_17 : dgrp cX4_cheapestFor dl_b_17 = true := by decide +kernel
theorem dX4_cheapestFor_0 : decode cX4_cheapestFor 0 = .ok (.iconst (-1), 1) := dgrp_at dg_b_17 0 rfl
theorem dX4_cheapestFor_1 : decode cX4_cheapestFor 1 = .ok (.istore_n 2, 1) := dgrp_at dg_b_17 1 rfl
theorem dX4_cheapestFor_2 : decode cX4_cheapestFor 2 = .ok (.iconst 0, 1) := dgrp_at dg_b_17 2 rfl
theorem dX4_cheapestFor_3 : decode cX4_cheapestFor 3 = .ok (.istore_n 3, 1) := dgrp_at dg_b_17 3 rfl
theorem dX4_cheapestFor_4 : decode cX4_cheapestFor 4 = .ok (.iload_n 3, 1) := dgrp_at dg_b_17 4 rfl
theorem dX4_cheapestFor_5 : decode cX4_cheapestFor 5 = .ok (.aload_n 0, 1) := dgrp_at dg_b_17 5 rfl
theorem dX4_cheapestFor_6 : decode cX4_cheapestFor 6 = .ok (.getfield 12, 3) := dgrp_at dg_b_17 6 rfl
theorem dX4_cheapestFor_9 : decode cX4_cheapestFor 9 = .ok (.invokevirtual 153, 3) := dgrp_at dg_b_17 7 rfl
theorem dX4_cheapestFor_12 : decode cX4_cheapestFor 12 = .ok (.if_icmp .ge 58, 3) := dgrp_at dg_b_17 8 rfl
theorem dX4_cheapestFor_15 : decode cX4_cheapestFor 15 = .ok (.iload_n 2, 1) := dgrp_at dg_b_17 9 rfl
theorem dX4_cheapestFor_16 : decode cX4_cheapestFor 16 = .ok (.ifCond .lt 12, 3) := dgrp_at dg_b_17 10 rfl
theorem dX4_cheapestFor_19 : decode cX4_cheapestFor 19 = .ok (.aload_n 0, 1) := dgrp_at dg_b_17 11 rfl
theorem dX4_cheapestFor_20 : decode cX4_cheapestFor 20 = .ok (.iload_n 3, 1) := dgrp_at dg_b_17 12 rfl
theorem dX4_cheapestFor_21 : decode cX4_cheapestFor 21 = .ok (.iload_n 2, 1) := dgrp_at dg_b_17 13 rfl
theorem dX4_cheapestFor_22 : decode cX4_cheapestFor 22 = .ok (.invokevirtual 239, 3) := dgrp_at dg_b_17 14 rfl
theorem dX4_cheapestFor_25 : decode cX4_cheapestFor 25 = .ok (.ifCond .eq 7, 3) := dgrp_at dg_b_17 15 rfl
theorem dX4_cheapestFor_28 : decode cX4_cheapestFor 28 = .ok (.iconst 1, 1) := dgrp_at dg_b_17 16 rfl
theorem dX4_cheapestFor_29 : decode cX4_cheapestFor 29 = .ok (.goto 4, 3) := dgrp_at dg_b_17 17 rfl
theorem dX4_cheapestFor_32 : decode cX4_cheapestFor 32 = .ok (.iconst 0, 1) := dgrp_at dg_b_17 18 rfl
theorem dX4_cheapestFor_33 : decode cX4_cheapestFor 33 = .ok (.istore 4, 2) := dgrp_at dg_b_17 19 rfl
theorem dX4_cheapestFor_35 : decode cX4_cheapestFor 35 = .ok (.iload 4, 2) := dgrp_at dg_b_17 20 rfl
theorem dX4_cheapestFor_37 : decode cX4_cheapestFor 37 = .ok (.ifCond .eq 27, 3) := dgrp_at dg_b_17 21 rfl
theorem dX4_cheapestFor_40 : decode cX4_cheapestFor 40 = .ok (.aload_n 0, 1) := dgrp_at dg_b_17 22 rfl
theorem dX4_cheapestFor_41 : decode cX4_cheapestFor 41 = .ok (.getfield 12, 3) := dgrp_at dg_b_17 23 rfl
theorem dX4_cheapestFor_44 : decode cX4_cheapestFor 44 = .ok (.iload_n 3, 1) := dgrp_at dg_b_17 24 rfl
theorem dX4_cheapestFor_45 : decode cX4_cheapestFor 45 = .ok (.aload_n 0, 1) := dgrp_at dg_b_17 25 rfl
theorem dX4_cheapestFor_46 : decode cX4_cheapestFor 46 = .ok (.getfield 12, 3) := dgrp_at dg_b_17 26 rfl
theorem dX4_cheapestFor_49 : decode cX4_cheapestFor 49 = .ok (.invokevirtual 156, 3) := dgrp_at dg_b_17 27 rfl
theorem dX4_cheapestFor_52 : decode cX4_cheapestFor 52 = .ok (.invokevirtual 169, 3) := dgrp_at dg_b_17 28 rfl
theorem dX4_cheapestFor_55 : decode cX4_cheapestFor 55 = .ok (.invokestatic 118, 3) := dgrp_at dg_b_17 29 rfl
theorem dX4_cheapestFor_58 : decode cX4_cheapestFor 58 = .ok (.iload_n 1, 1) := dgrp_at dg_b_17 30 rfl
theorem dX4_cheapestFor_59 : decode cX4_cheapestFor 59 = .ok (.if_icmp .lt 5, 3) := dgrp_at dg_b_17 31 rfl
def dl_b_18 : List (Nat × Instr × Nat) := [(62, .iload_n 3, 1), (63, .istore_n 2, 1), (64, .iinc 3 1, 3), (67, .goto (-63), 3), (70, .iload_n 2, 1), (71, .ireturn, 1)]
theorem dg_b_18 : dgrp cX4_cheapestFor dl_b_18 = true := by decide +kernel
theorem dX4_cheapestFor_62 : decode cX4_cheapestFor 62 = .ok (.iload_n 3, 1) := dgrp_at dg_b_18 0 rfl
theorem dX4_cheapestFor_63 : decode cX4_cheapestFor 63 = .ok (.istore_n 2, 1) := dgrp_at dg_b_18 1 rfl
theorem dX4_cheapestFor_64 : decode cX4_cheapestFor 64 = .ok (.iinc 3 1, 3) := dgrp_at dg_b_18 2 rfl
theorem dX4_cheapestFor_67 : decode cX4_cheapestFor 67 = .ok (.goto (-63), 3) := dgrp_at dg_b_18 3 rfl
theorem dX4_cheapestFor_70 : decode cX4_cheapestFor 70 = .ok (.iload_n 2, 1) := dgrp_at dg_b_18 4 rfl
theorem dX4_cheapestFor_71 : decode cX4_cheapestFor 71 = .ok (.ireturn, 1) := dgrp_at dg_b_18 5 rfl
def dl_b_19 : List (Nat × Instr × Nat) := [(0, .aload_n 0, 1), (1, .getfield 12, 3), (4, .iload_n 1, 1), (5, .invokevirtual 126, 3), (8, .istore_n 3, 1), (9, .aload_n 0, 1), (10, .getfield 12, 3), (13, .iload_n 2, 1), (14, .invokevirtual 126, 3), (17, .istore 4, 2), (19, .iload_n 3, 1), (20, .iload 4, 2), (22, .if_icmp .lt 20, 3), (25, .iload_n 3, 1), (26, .iload 4, 2), (28, .if_icmp .ne 18, 3), (31, .iload_n 1, 1), (32, .invokestatic 118, 3), (35, .iload_n 2, 1), (36, .invokestatic 118, 3), (39, .if_icmp .ge 7, 3), (42, .iconst 1, 1), (43, .goto 4, 3), (46, .iconst 0, 1), (47, .ireturn, 1)]
theorem dg_b_19 : dgrp cX4_isCheaper dl_b_19 = true := by decide +kernel
theorem dX4_isCheaper_0 : decode cX4_isCheaper 0 = .ok (.aload_n 0, 1) := dgrp_at dg_b_19 0 rfl
theorem dX4_isCheaper_1 : decode cX4_isCheaper 1 = .ok (.getfield 12, 3) := dgrp_at dg_b_19 1 rfl
theorem dX4_isCheaper_4 : decode cX4_isCheaper 4 = .ok (.iload_n 1, 1) := dgrp_at dg_b_19 2 rfl
theorem dX4_isCheaper_5 : decode cX4_isCheaper 5 = .ok (.invokevirtual 126, 3) := dgrp_at dg_b_19 3 rfl
theorem dX4_isCheaper_8 : decode cX4_isCheaper 8 = .ok (.istore_n 3, 1) := dgrp_at dg_b_19 4 rfl
theorem dX4_isCheaper_9 : decode cX4_isCheaper 9 = .ok (.aload_n 0, 1) := dgrp_at dg_b_19 5 rfl
theorem dX4_isCheaper_10 : decode cX4_isCheaper 10 = .ok (.getfield 12, 3) := dgrp_at dg_b_19 6 rfl
theorem dX4_isCheaper_13 : decode cX4_isCheaper 13 = .ok (.iload_n 2, 1) := dgrp_at dg_b_19 7 rfl
theorem dX4_isCheaper_14 : decode cX4_isCheaper 14 = .ok (.invokevirtual 126, 3) := dgrp_at dg_b_19 8 rfl
theorem dX4_isCheaper_17 : decode cX4_isCheaper 17 = .ok (.istore 4, 2) := dgrp_at dg_b_19 9 rfl
theorem dX4_isCheaper_19 : decode cX4_isCheaper 19 = .ok (.iload_n 3, 1) := dgrp_at dg_b_19 10 rfl
theorem dX4_isCheaper_20 : decode cX4_isCheaper 20 = .ok (.iload 4, 2) := dgrp_at dg_b_19 11 rfl
theorem dX4_isCheaper_22 : decode cX4_isCheaper 22 = .ok (.if_icmp .lt 20, 3) := dgrp_at dg_b_19 12 rfl
theorem dX4_isCheaper_25 : decode cX4_isCheaper 25 = .ok (.iload_n 3, 1) := dgrp_at dg_b_19 13 rfl
theorem dX4_isCheaper_26 : decode cX4_isCheaper 26 = .ok (.iload 4, 2) := dgrp_at dg_b_19 14 rfl
theorem dX4_isCheaper_28 : decode cX4_isCheaper 28 = .ok (.if_icmp .ne 18, 3) := dgrp_at dg_b_19 15 rfl
theorem dX4_isCheaper_31 : decode cX4_isCheaper 31 = .ok (.iload_n 1, 1) := dgrp_at dg_b_19 16 rfl
theorem dX4_isCheaper_32 : decode cX4_isCheaper 32 = .ok (.invokestatic 118, 3) := dgrp_at dg_b_19 17 rfl
theorem dX4_isCheaper_35 : decode cX4_isCheaper 35 = .ok (.iload_n 2, 1) := dgrp_at dg_b_19 18 rfl
theorem dX4_isCheaper_36 : decode cX4_isCheaper 36 = .ok (.invokestatic 118, 3) := dgrp_at dg_b_19 19 rfl
theorem dX4_isCheaper_39 : decode cX4_isCheaper 39 = .ok (.if_icmp .ge 7, 3) := dgrp_at dg_b_19 20 rfl
theorem dX4_isCheaper_42 : decode cX4_isCheaper 42 = .ok (.iconst 1, 1) := dgrp_at dg_b_19 21 rfl
theorem dX4_isCheaper_43 : decode cX4_isCheaper 43 = .ok (.goto 4, 3) := dgrp_at dg_b_19 22 rfl
theorem dX4_isCheaper_46 : decode cX4_isCheaper 46 = .ok (.iconst 0, 1) := dgrp_at dg_b_19 23 rfl
theorem dX4_isCheaper_47 : decode cX4_isCheaper 47 = .ok (.ireturn, 1) := dgrp_at dg_b_19 24 rfl
def dl_b_20 : List (Nat × Instr × Nat) := [(0, .aload_n 0, 1), (1, .getfield 12, 3), (4, .iconst 0, 1), (5, .iload_n 1, 1), (6, .invokevirtual 169, 3), (9, .istore 4, 2), (11, .iload 4, 2), (13, .invokestatic 118, 3), (16, .istore 5, 2), (18, .iload 5, 2), (20, .iload_n 2, 1), (21, .if_icmp .lt 29, 3), (24, .iload 5, 2), (26, .iload_n 3, 1), (27, .if_icmp .gt 23, 3), (30, .aload_n 0, 1), (31, .getfield 12, 3), (34, .iload 4, 2), (36, .invokevirtual 77, 3), (39, .iload_n 1, 1), (40, .iand, 1), (41, .iload 4, 2), (43, .if_icmp .ne 7, 3), (46, .iconst 1, 1), (47, .goto 4, 3), (50, .iconst 0, 1), (51, .ireturn, 1)]
theorem dg_b_20 : dgrp cX4_isWellAsked dl_b_20 = true := by decide +kernel
theorem dX4_isWellAsked_0 : decode cX4_isWellAsked 0 = .ok (.aload_n 0, 1) := dgrp_at dg_b_20 0 rfl
theorem dX4_isWellAsked_1 : decode cX4_isWellAsked 1 = .ok (.getfield 12, 3) := dgrp_at dg_b_20 1 rfl
theorem dX4_isWellAsked_4 : decode cX4_isWellAsked 4 = .ok (.iconst 0, 1) := dgrp_at dg_b_20 2 rfl
theorem dX4_isWellAsked_5 : decode cX4_isWellAsked 5 = .ok (.iload_n 1, 1) := dgrp_at dg_b_20 3 rfl
theorem dX4_isWellAsked_6 : decode cX4_isWellAsked 6 = .ok (.invokevirtual 169, 3) := dgrp_at dg_b_20 4 rfl
theorem dX4_isWellAsked_9 : decode cX4_isWellAsked 9 = .ok (.istore 4, 2) := dgrp_at dg_b_20 5 rfl
theorem dX4_isWellAsked_11 : decode cX4_isWellAsked 11 = .ok (.iload 4, 2) := dgrp_at dg_b_20 6 rfl
theorem dX4_isWellAsked_13 : decode cX4_isWellAsked 13 = .ok (.invokestatic 118, 3) := dgrp_at dg_b_20 7 rfl
theorem dX4_isWellAsked_16 : decode cX4_isWellAsked 16 = .ok (.istore 5, 2) := dgrp_at dg_b_20 8 rfl
theorem dX4_isWellAsked_18 : decode cX4_isWellAsked 18 = .ok (.iload 5, 2) := dgrp_at dg_b_20 9 rfl
theorem dX4_isWellAsked_20 : decode cX4_isWellAsked 20 = .ok (.iload_n 2, 1) := dgrp_at dg_b_20 10 rfl
theorem dX4_isWellAsked_21 : decode cX4_isWellAsked 21 = .ok (.if_icmp .lt 29, 3) := dgrp_at dg_b_20 11 rfl
theorem dX4_isWellAsked_24 : decode cX4_isWellAsked 24 = .ok (.iload 5, 2) := dgrp_at dg_b_20 12 rfl
theorem dX4_isWellAsked_26 : decode cX4_isWellAsked 26 = .ok (.iload_n 3, 1) := dgrp_at dg_b_20 13 rfl
theorem dX4_isWellAsked_27 : decode cX4_isWellAsked 27 = .ok (.if_icmp .gt 23, 3) := dgrp_at dg_b_20 14 rfl
theorem dX4_isWellAsked_30 : decode cX4_isWellAsked 30 = .ok (.aload_n 0, 1) := dgrp_at dg_b_20 15 rfl
theorem dX4_isWellAsked_31 : decode cX4_isWellAsked 31 = .ok (.getfield 12, 3) := dgrp_at dg_b_20 16 rfl
theorem dX4_isWellAsked_34 : decode cX4_isWellAsked 34 = .ok (.iload 4, 2) := dgrp_at dg_b_20 17 rfl
theorem dX4_isWellAsked_36 : decode cX4_isWellAsked 36 = .ok (.invokevirtual 77, 3) := dgrp_at dg_b_20 18 rfl
theorem dX4_isWellAsked_39 : decode cX4_isWellAsked 39 = .ok (.iload_n 1, 1) := dgrp_at dg_b_20 19 rfl
theorem dX4_isWellAsked_40 : decode cX4_isWellAsked 40 = .ok (.iand, 1) := dgrp_at dg_b_20 20 rfl
theorem dX4_isWellAsked_41 : decode cX4_isWellAsked 41 = .ok (.iload 4, 2) := dgrp_at dg_b_20 21 rfl
theorem dX4_isWellAsked_43 : decode cX4_isWellAsked 43 = .ok (.if_icmp .ne 7, 3) := dgrp_at dg_b_20 22 rfl
theorem dX4_isWellAsked_46 : decode cX4_isWellAsked 46 = .ok (.iconst 1, 1) := dgrp_at dg_b_20 23 rfl
theorem dX4_isWellAsked_47 : decode cX4_isWellAsked 47 = .ok (.goto 4, 3) := dgrp_at dg_b_20 24 rfl
theorem dX4_isWellAsked_50 : decode cX4_isWellAsked 50 = .ok (.iconst 0, 1) := dgrp_at dg_b_20 25 rfl
theorem dX4_isWellAsked_51 : decode cX4_isWellAsked 51 = .ok (.ireturn, 1) := dgrp_at dg_b_20 26 rfl
def dl_b_21 : List (Nat × Instr × Nat) := [(0, .iconst 1, 1), (1, .istore 4, 2), (3, .iload 4, 2), (5, .aload_n 1, 1), (6, .getfield 195, 3), (9, .if_icmp .ge 37, 3), (12, .aload_n 0, 1), (13, .getfield 12, 3), (16, .iload_n 2, 1), (17, .iload_n 3, 1), (18, .aload_n 1, 1), (19, .iload 4, 2), (21, .iconst 1, 1), (22, .isub, 1), (23, .invokevirtual 242, 3), (26, .invokevirtual 245, 3), (29, .aload_n 1, 1), (30, .iload 4, 2), (32, .invokevirtual 242, 3), (35, .if_icmp .eq 5, 3), (38, .iconst 0, 1), (39, .ireturn, 1), (40, .iinc 4 1, 3), (43, .goto (-40), 3), (46, .iconst 1, 1), (47, .ireturn, 1)]
theorem dg_b_21 : dgrp cX4_explains dl_b_21 = true := by decide +kernel
theorem dX4_explains_0 : decode cX4_explains 0 = .ok (.iconst 1, 1) := dgrp_at dg_b_21 0 rfl
theorem dX4_explains_1 : decode cX4_explains 1 = .ok (.istore 4, 2) := dgrp_at dg_b_21 1 rfl
theorem dX4_explains_3 : decode cX4_explains 3 = .ok (.iload 4, 2) := dgrp_at dg_b_21 2 rfl
theorem dX4_explains_5 : decode cX4_explains 5 = .ok (.aload_n 1, 1) := dgrp_at dg_b_21 3 rfl
theorem dX4_explains_6 : decode cX4_explains 6 = .ok (.getfield 195, 3) := dgrp_at dg_b_21 4 rfl
theorem dX4_explains_9 : decode cX4_explains 9 = .ok (.if_icmp .ge 37, 3) := dgrp_at dg_b_21 5 rfl
theorem dX4_explains_12 : decode cX4_explains 12 = .ok (.aload_n 0, 1) := dgrp_at dg_b_21 6 rfl
theorem dX4_explains_13 : decode cX4_explains 13 = .ok (.getfield 12, 3) := dgrp_at dg_b_21 7 rfl
theorem dX4_explains_16 : decode cX4_explains 16 = .ok (.iload_n 2, 1) := dgrp_at dg_b_21 8 rfl
theorem dX4_explains_17 : decode cX4_explains 17 = .ok (.iload_n 3, 1) := dgrp_at dg_b_21 9 rfl
theorem dX4_explains_18 : decode cX4_explains 18 = .ok (.aload_n 1, 1) := dgrp_at dg_b_21 10 rfl
theorem dX4_explains_19 : decode cX4_explains 19 = .ok (.iload 4, 2) := dgrp_at dg_b_21 11 rfl
theorem dX4_explains_21 : decode cX4_explains 21 = .ok (.iconst 1, 1) := dgrp_at dg_b_21 12 rfl
theorem dX4_explains_22 : decode cX4_explains 22 = .ok (.isub, 1) := dgrp_at dg_b_21 13 rfl
theorem dX4_explains_23 : decode cX4_explains 23 = .ok (.invokevirtual 242, 3) := dgrp_at dg_b_21 14 rfl
theorem dX4_explains_26 : decode cX4_explains 26 = .ok (.invokevirtual 245, 3) := dgrp_at dg_b_21 15 rfl
theorem dX4_explains_29 : decode cX4_explains 29 = .ok (.aload_n 1, 1) := dgrp_at dg_b_21 16 rfl
theorem dX4_explains_30 : decode cX4_explains 30 = .ok (.iload 4, 2) := dgrp_at dg_b_21 17 rfl
theorem dX4_explains_32 : decode cX4_explains 32 = .ok (.invokevirtual 242, 3) := dgrp_at dg_b_21 18 rfl
theorem dX4_explains_35 : decode cX4_explains 35 = .ok (.if_icmp .eq 5, 3) := dgrp_at dg_b_21 19 rfl
theorem dX4_explains_38 : decode cX4_explains 38 = .ok (.iconst 0, 1) := dgrp_at dg_b_21 20 rfl
theorem dX4_explains_39 : decode cX4_explains 39 = .ok (.ireturn, 1) := dgrp_at dg_b_21 21 rfl
theorem dX4_explains_40 : decode cX4_explains 40 = .ok (.iinc 4 1, 3) := dgrp_at dg_b_21 22 rfl
theorem dX4_explains_43 : decode cX4_explains 43 = .ok (.goto (-40), 3) := dgrp_at dg_b_21 23 rfl
theorem dX4_explains_46 : decode cX4_explains 46 = .ok (.iconst 1, 1) := dgrp_at dg_b_21 24 rfl
theorem dX4_explains_47 : decode cX4_explains 47 = .ok (.ireturn, 1) := dgrp_at dg_b_21 25 rfl
def dl_b_22 : List (Nat × Instr × Nat) := [(0, .iload_n 0, 1), (1, .ifCond .lt 13, 3), (4, .iload_n 0, 1), (5, .bipush 6, 2), (7, .if_icmp .ge 7, 3), (10, .iconst 1, 1), (11, .goto 4, 3), (14, .iconst 0, 1), (15, .ireturn, 1)]
theorem dg_b_22 : dgrp cX4_isKind dl_b_22 = true := by decide +kernel
theorem dX4_isKind_0 : decode cX4_isKind 0 = .ok (.iload_n 0, 1) := dgrp_at dg_b_22 0 rfl
theorem dX4_isKind_1 : decode cX4_isKind 1 = .ok (.ifCond .lt 13, 3) := dgrp_at dg_b_22 1 rfl
theorem dX4_isKind_4 : decode cX4_isKind 4 = .ok (.iload_n 0, 1) := dgrp_at dg_b_22 2 rfl
theorem dX4_isKind_5 : decode cX4_isKind 5 = .ok (.bipush 6, 2) := dgrp_at dg_b_22 3 rfl
theorem dX4_isKind_7 : decode cX4_isKind 7 = .ok (.if_icmp .ge 7, 3) := dgrp_at dg_b_22 4 rfl
theorem dX4_isKind_10 : decode cX4_isKind 10 = .ok (.iconst 1, 1) := dgrp_at dg_b_22 5 rfl
theorem dX4_isKind_11 : decode cX4_isKind 11 = .ok (.goto 4, 3) := dgrp_at dg_b_22 6 rfl
theorem dX4_isKind_14 : decode cX4_isKind 14 = .ok (.iconst 0, 1) := dgrp_at dg_b_22 7 rfl
theorem dX4_isKind_15 : decode cX4_isKind 15 = .ok (.ireturn, 1) := dgrp_at dg_b_22 8 rfl
def dl_b_23 : List (Nat × Instr × Nat) := [(0, .iload_n 0, 1), (1, .ifCond .lt 13, 3), (4, .iload_n 0, 1), (5, .bipush 99, 2), (7, .if_icmp .gt 7, 3), (10, .iconst 1, 1), (11, .goto 4, 3), (14, .iconst 0, 1), (15, .ireturn, 1)]
theorem dg_b_23 : dgrp cX4_isCost dl_b_23 = true := by decide +kernel
theorem dX4_isCost_0 : decode cX4_isCost 0 = .ok (.iload_n 0, 1) := dgrp_at dg_b_23 0 rfl
theorem dX4_isCost_1 : decode cX4_isCost 1 = .ok (.ifCond .lt 13, 3) := dgrp_at dg_b_23 1 rfl
theorem dX4_isCost_4 : decode cX4_isCost 4 = .ok (.iload_n 0, 1) := dgrp_at dg_b_23 2 rfl
theorem dX4_isCost_5 : decode cX4_isCost 5 = .ok (.bipush 99, 2) := dgrp_at dg_b_23 3 rfl
theorem dX4_isCost_7 : decode cX4_isCost 7 = .ok (.if_icmp .gt 7, 3) := dgrp_at dg_b_23 4 rfl
theorem dX4_isCost_10 : decode cX4_isCost 10 = .ok (.iconst 1, 1) := dgrp_at dg_b_23 5 rfl
theorem dX4_isCost_11 : decode cX4_isCost 11 = .ok (.goto 4, 3) := dgrp_at dg_b_23 6 rfl
theorem dX4_isCost_14 : decode cX4_isCost 14 = .ok (.iconst 0, 1) := dgrp_at dg_b_23 7 rfl
theorem dX4_isCost_15 : decode cX4_isCost 15 = .ok (.ireturn, 1) := dgrp_at dg_b_23 8 rfl
def dl_b_24 : List (Nat × Instr × Nat) := [(0, .iload_n 0, 1), (1, .ifCond .lt 12, 3), (4, .iload_n 0, 1), (5, .iconst 4, 1), (6, .if_icmp .ge 7, 3), (9, .iconst 1, 1), (10, .goto 4, 3), (13, .iconst 0, 1), (14, .ireturn, 1)]
theorem dg_b_24 : dgrp cX4_isSheet dl_b_24 = true := by decide +kernel
theorem dX4_isSheet_0 : decode cX4_isSheet 0 = .ok (.iload_n 0, 1) := dgrp_at dg_b_24 0 rfl
theorem dX4_isSheet_1 : decode cX4_isSheet 1 = .ok (.ifCond .lt 12, 3) := dgrp_at dg_b_24 1 rfl
theorem dX4_isSheet_4 : decode cX4_isSheet 4 = .ok (.iload_n 0, 1) := dgrp_at dg_b_24 2 rfl
theorem dX4_isSheet_5 : decode cX4_isSheet 5 = .ok (.iconst 4, 1) := dgrp_at dg_b_24 3 rfl
theorem dX4_isSheet_6 : decode cX4_isSheet 6 = .ok (.if_icmp .ge 7, 3) := dgrp_at dg_b_24 4 rfl
theorem dX4_isSheet_9 : decode cX4_isSheet 9 = .ok (.iconst 1, 1) := dgrp_at dg_b_24 5 rfl
theorem dX4_isSheet_10 : decode cX4_isSheet 10 = .ok (.goto 4, 3) := dgrp_at dg_b_24 6 rfl
theorem dX4_isSheet_13 : decode cX4_isSheet 13 = .ok (.iconst 0, 1) := dgrp_at dg_b_24 7 rfl
theorem dX4_isSheet_14 : decode cX4_isSheet 14 = .ok (.ireturn, 1) := dgrp_at dg_b_24 8 rfl
def dl_b_25 : List (Nat × Instr × Nat) := [(0, .iload_n 0, 1), (1, .iload_n 1, 1), (2, .if_icmp .eq 27, 3), (5, .iload_n 1, 1), (6, .ifCond .eq 23, 3), (9, .iload_n 0, 1), (10, .iconst 4, 1), (11, .if_icmp .ne 8, 3), (14, .iload_n 1, 1), (15, .iconst 1, 1), (16, .if_icmp .eq 13, 3), (19, .iload_n 0, 1), (20, .iconst 5, 1), (21, .if_icmp .ne 12, 3), (24, .iload_n 1, 1), (25, .iconst 2, 1), (26, .if_icmp .ne 7, 3), (29, .iconst 1, 1), (30, .goto 4, 3), (33, .iconst 0, 1), (34, .ireturn, 1)]
theorem dg_b_25 : dgrp cX4_isUnder dl_b_25 = true := by decide +kernel
theorem dX4_isUnder_0 : decode cX4_isUnder 0 = .ok (.iload_n 0, 1) := dgrp_at dg_b_25 0 rfl
theorem dX4_isUnder_1 : decode cX4_isUnder 1 = .ok (.iload_n 1, 1) := dgrp_at dg_b_25 1 rfl
theorem dX4_isUnder_2 : decode cX4_isUnder 2 = .ok (.if_icmp .eq 27, 3) := dgrp_at dg_b_25 2 rfl
theorem dX4_isUnder_5 : decode cX4_isUnder 5 = .ok (.iload_n 1, 1) := dgrp_at dg_b_25 3 rfl
theorem dX4_isUnder_6 : decode cX4_isUnder 6 = .ok (.ifCond .eq 23, 3) := dgrp_at dg_b_25 4 rfl
theorem dX4_isUnder_9 : decode cX4_isUnder 9 = .ok (.iload_n 0, 1) := dgrp_at dg_b_25 5 rfl
theorem dX4_isUnder_10 : decode cX4_isUnder 10 = .ok (.iconst 4, 1) := dgrp_at dg_b_25 6 rfl
theorem dX4_isUnder_11 : decode cX4_isUnder 11 = .ok (.if_icmp .ne 8, 3) := dgrp_at dg_b_25 7 rfl
theorem dX4_isUnder_14 : decode cX4_isUnder 14 = .ok (.iload_n 1, 1) := dgrp_at dg_b_25 8 rfl
theorem dX4_isUnder_15 : decode cX4_isUnder 15 = .ok (.iconst 1, 1) := dgrp_at dg_b_25 9 rfl
theorem dX4_isUnder_16 : decode cX4_isUnder 16 = .ok (.if_icmp .eq 13, 3) := dgrp_at dg_b_25 10 rfl
theorem dX4_isUnder_19 : decode cX4_isUnder 19 = .ok (.iload_n 0, 1) := dgrp_at dg_b_25 11 rfl
theorem dX4_isUnder_20 : decode cX4_isUnder 20 = .ok (.iconst 5, 1) := dgrp_at dg_b_25 12 rfl
theorem dX4_isUnder_21 : decode cX4_isUnder 21 = .ok (.if_icmp .ne 12, 3) := dgrp_at dg_b_25 13 rfl
theorem dX4_isUnder_24 : decode cX4_isUnder 24 = .ok (.iload_n 1, 1) := dgrp_at dg_b_25 14 rfl
theorem dX4_isUnder_25 : decode cX4_isUnder 25 = .ok (.iconst 2, 1) := dgrp_at dg_b_25 15 rfl
theorem dX4_isUnder_26 : decode cX4_isUnder 26 = .ok (.if_icmp .ne 7, 3) := dgrp_at dg_b_25 16 rfl
theorem dX4_isUnder_29 : decode cX4_isUnder 29 = .ok (.iconst 1, 1) := dgrp_at dg_b_25 17 rfl
theorem dX4_isUnder_30 : decode cX4_isUnder 30 = .ok (.goto 4, 3) := dgrp_at dg_b_25 18 rfl
theorem dX4_isUnder_33 : decode cX4_isUnder 33 = .ok (.iconst 0, 1) := dgrp_at dg_b_25 19 rfl
theorem dX4_isUnder_34 : decode cX4_isUnder 34 = .ok (.ireturn, 1) := dgrp_at dg_b_25 20 rfl
def dl_b_26 : List (Nat × Instr × Nat) := [(0, .iload_n 1, 1), (1, .iload_n 0, 1), (2, .ishr, 1), (3, .iconst 1, 1), (4, .iand, 1), (5, .ifCond .eq 7, 3), (8, .iconst 1, 1), (9, .goto 4, 3), (12, .iconst 0, 1), (13, .ireturn, 1)]
theorem dg_b_26 : dgrp cX4_isOn dl_b_26 = true := by decide +kernel
theorem dX4_isOn_0 : decode cX4_isOn 0 = .ok (.iload_n 1, 1) := dgrp_at dg_b_26 0 rfl
theorem dX4_isOn_1 : decode cX4_isOn 1 = .ok (.iload_n 0, 1) := dgrp_at dg_b_26 1 rfl
theorem dX4_isOn_2 : decode cX4_isOn 2 = .ok (.ishr, 1) := dgrp_at dg_b_26 2 rfl
theorem dX4_isOn_3 : decode cX4_isOn 3 = .ok (.iconst 1, 1) := dgrp_at dg_b_26 3 rfl
theorem dX4_isOn_4 : decode cX4_isOn 4 = .ok (.iand, 1) := dgrp_at dg_b_26 4 rfl
theorem dX4_isOn_5 : decode cX4_isOn 5 = .ok (.ifCond .eq 7, 3) := dgrp_at dg_b_26 5 rfl
theorem dX4_isOn_8 : decode cX4_isOn 8 = .ok (.iconst 1, 1) := dgrp_at dg_b_26 6 rfl
theorem dX4_isOn_9 : decode cX4_isOn 9 = .ok (.goto 4, 3) := dgrp_at dg_b_26 7 rfl
theorem dX4_isOn_12 : decode cX4_isOn 12 = .ok (.iconst 0, 1) := dgrp_at dg_b_26 8 rfl
theorem dX4_isOn_13 : decode cX4_isOn 13 = .ok (.ireturn, 1) := dgrp_at dg_b_26 9 rfl
def dl_b_27 : List (Nat × Instr × Nat) := [(0, .iload_n 1, 1), (1, .iconst 1, 1), (2, .iload_n 0, 1), (3, .ishl, 1), (4, .iconst (-1), 1), (5, .ixor, 1), (6, .iand, 1), (7, .invokestatic 118, 3), (10, .ireturn, 1)]
theorem dg_b_27 : dgrp cX4_othersOn dl_b_27 = true := by decide +kernel
theorem dX4_othersOn_0 : decode cX4_othersOn 0 = .ok (.iload_n 1, 1) := dgrp_at dg_b_27 0 rfl
theorem dX4_othersOn_1 : decode cX4_othersOn 1 = .ok (.iconst 1, 1) := dgrp_at dg_b_27 1 rfl
theorem dX4_othersOn_2 : decode cX4_othersOn 2 = .ok (.iload_n 0, 1) := dgrp_at dg_b_27 2 rfl
theorem dX4_othersOn_3 : decode cX4_othersOn 3 = .ok (.ishl, 1) := dgrp_at dg_b_27 3 rfl
theorem dX4_othersOn_4 : decode cX4_othersOn 4 = .ok (.iconst (-1), 1) := dgrp_at dg_b_27 4 rfl
theorem dX4_othersOn_5 : decode cX4_othersOn 5 = .ok (.ixor, 1) := dgrp_at dg_b_27 5 rfl
theorem dX4_othersOn_6 : decode cX4_othersOn 6 = .ok (.iand, 1) := dgrp_at dg_b_27 6 rfl
theorem dX4_othersOn_7 : decode cX4_othersOn 7 = .ok (.invokestatic 118, 3) := dgrp_at dg_b_27 7 rfl
theorem dX4_othersOn_10 : decode cX4_othersOn 10 = .ok (.ireturn, 1) := dgrp_at dg_b_27 8 rfl
def dl_b_28 : List (Nat × Instr × Nat) := [(0, .iload_n 0, 1), (1, .ifCond .eq 7, 3), (4, .iconst 1, 1), (5, .goto 4, 3), (8, .iconst 0, 1), (9, .ireturn, 1)]
theorem dg_b_28 : dgrp cX4_oneIf dl_b_28 = true := by decide +kernel
theorem dX4_oneIf_0 : decode cX4_oneIf 0 = .ok (.iload_n 0, 1) := dgrp_at dg_b_28 0 rfl
theorem dX4_oneIf_1 : decode cX4_oneIf 1 = .ok (.ifCond .eq 7, 3) := dgrp_at dg_b_28 1 rfl
theorem dX4_oneIf_4 : decode cX4_oneIf 4 = .ok (.iconst 1, 1) := dgrp_at dg_b_28 2 rfl
theorem dX4_oneIf_5 : decode cX4_oneIf 5 = .ok (.goto 4, 3) := dgrp_at dg_b_28 3 rfl
theorem dX4_oneIf_8 : decode cX4_oneIf 8 = .ok (.iconst 0, 1) := dgrp_at dg_b_28 4 rfl
theorem dX4_oneIf_9 : decode cX4_oneIf 9 = .ok (.ireturn, 1) := dgrp_at dg_b_28 5 rfl
def dl_b_29 : List (Nat × Instr × Nat) := [(0, .aload_n 0, 1), (1, .invokespecial 1, 3), (4, .aload_n 0, 1), (5, .sipush 538, 3), (10, .putfield 7, 3), (13, .aload_n 0, 1), (14, .sipush 538, 3), (19, .putfield 13, 3), (22, .aload_n 0, 1), (23, .bipush 7, 2), (27, .putfield 16, 3), (30, .aload_n 0, 1), (31, .bipush 64, 2), (35, .putfield 19, 3), (38, .aload_n 0, 1), (39, .bipush 60, 2), (43, .putfield 23, 3), (46, .aload_n 0, 1), (47, .bipush 64, 2), (51, .putfield 26, 3), (54, .aload_n 0, 1), (55, .sipush 256, 3), (60, .putfield 29, 3), (63, .aload_n 0, 1), (64, .sipush 256, 3), (69, .putfield 32, 3), (72, .aload_n 0, 1), (73, .iconst 4, 1), (76, .putfield 35, 3), (79, .aload_n 0, 1), (80, .iconst 4, 1), (83, .putfield 38, 3)]
theorem dg_b_29 : dgrp cX5_init dl_b_29 = true := by decide +kernel
theorem dX5_init_0 : decode cX5_init 0 = .ok (.aload_n 0, 1) := dgrp_at dg_b_29 0 rfl
theorem dX5_init_1 : decode cX5_init 1 = .ok (.invokespecial 1, 3) := dgrp_at dg_b_29 1 rfl
theorem dX5_init_4 : decode cX5_init 4 = .ok (.aload_n 0, 1) := dgrp_at dg_b_29 2 rfl
theorem dX5_init_5 : decode cX5_init 5 = .ok (.sipush 538, 3) := dgrp_at dg_b_29 3 rfl
theorem dX5_init_10 : decode cX5_init 10 = .ok (.putfield 7, 3) := dgrp_at dg_b_29 4 rfl
theorem dX5_init_13 : decode cX5_init 13 = .ok (.aload_n 0, 1) := dgrp_at dg_b_29 5 rfl
theorem dX5_init_14 : decode cX5_init 14 = .ok (.sipush 538, 3) := dgrp_at dg_b_29 6 rfl
theorem dX5_init_19 : decode cX5_init 19 = .ok (.putfield 13, 3) := dgrp_at dg_b_29 7 rfl
theorem dX5_init_22 : decode cX5_init 22 = .ok (.aload_n 0, 1) := dgrp_at dg_b_29 8 rfl
theorem dX5_init_23 : decode cX5_init 23 = .ok (.bipush 7, 2) := dgrp_at dg_b_29 9 rfl
theorem dX5_init_27 : decode cX5_init 27 = .ok (.putfield 16, 3) := dgrp_at dg_b_29 10 rfl
theorem dX5_init_30 : decode cX5_init 30 = .ok (.aload_n 0, 1) := dgrp_at dg_b_29 11 rfl
theorem dX5_init_31 : decode cX5_init 31 = .ok (.bipush 64, 2) := dgrp_at dg_b_29 12 rfl
theorem dX5_init_35 : decode cX5_init 35 = .ok (.putfield 19, 3) := dgrp_at dg_b_29 13 rfl
theorem dX5_init_38 : decode cX5_init 38 = .ok (.aload_n 0, 1) := dgrp_at dg_b_29 14 rfl
theorem dX5_init_39 : decode cX5_init 39 = .ok (.bipush 60, 2) := dgrp_at dg_b_29 15 rfl
theorem dX5_init_43 : decode cX5_init 43 = .ok (.putfield 23, 3) := dgrp_at dg_b_29 16 rfl
theorem dX5_init_46 : decode cX5_init 46 = .ok (.aload_n 0, 1) := dgrp_at dg_b_29 17 rfl
theorem dX5_init_47 : decode cX5_init 47 = .ok (.bipush 64, 2) := dgrp_at dg_b_29 18 rfl
theorem dX5_init_51 : decode cX5_init 51 = .ok (.putfield 26, 3) := dgrp_at dg_b_29 19 rfl
theorem dX5_init_54 : decode cX5_init 54 = .ok (.aload_n 0, 1) := dgrp_at dg_b_29 20 rfl
theorem dX5_init_55 : decode cX5_init 55 = .ok (.sipush 256, 3) := dgrp_at dg_b_29 21 rfl
theorem dX5_init_60 : decode cX5_init 60 = .ok (.putfield 29, 3) := dgrp_at dg_b_29 22 rfl
theorem dX5_init_63 : decode cX5_init 63 = .ok (.aload_n 0, 1) := dgrp_at dg_b_29 23 rfl
theorem dX5_init_64 : decode cX5_init 64 = .ok (.sipush 256, 3) := dgrp_at dg_b_29 24 rfl
theorem dX5_init_69 : decode cX5_init 69 = .ok (.putfield 32, 3) := dgrp_at dg_b_29 25 rfl
theorem dX5_init_72 : decode cX5_init 72 = .ok (.aload_n 0, 1) := dgrp_at dg_b_29 26 rfl
theorem dX5_init_73 : decode cX5_init 73 = .ok (.iconst 4, 1) := dgrp_at dg_b_29 27 rfl
theorem dX5_init_76 : decode cX5_init 76 = .ok (.putfield 35, 3) := dgrp_at dg_b_29 28 rfl
theorem dX5_init_79 : decode cX5_init 79 = .ok (.aload_n 0, 1) := dgrp_at dg_b_29 29 rfl
theorem dX5_init_80 : decode cX5_init 80 = .ok (.iconst 4, 1) := dgrp_at dg_b_29 30 rfl
theorem dX5_init_83 : decode cX5_init 83 = .ok (.putfield 38, 3) := dgrp_at dg_b_29 31 rfl
def dl_b_30 : List (Nat × Instr × Nat) := [(86, .aload_n 0, 1), (87, .sipush 160, 3), (92, .putfield 41, 3), (95, .aload_n 0, 1), (96, .bipush 40, 2), (100, .putfield 45, 3), (103, .return_, 1)]
theorem dg_b_30 : dgrp cX5_init dl_b_30 = true := by decide +kernel
theorem dX5_init_86 : decode cX5_init 86 = .ok (.aload_n 0, 1) := dgrp_at dg_b_30 0 rfl
theorem dX5_init_87 : decode cX5_init 87 = .ok (.sipush 160, 3) := dgrp_at dg_b_30 1 rfl
theorem dX5_init_92 : decode cX5_init 92 = .ok (.putfield 41, 3) := dgrp_at dg_b_30 2 rfl
theorem dX5_init_95 : decode cX5_init 95 = .ok (.aload_n 0, 1) := dgrp_at dg_b_30 3 rfl
theorem dX5_init_96 : decode cX5_init 96 = .ok (.bipush 40, 2) := dgrp_at dg_b_30 4 rfl
theorem dX5_init_100 : decode cX5_init 100 = .ok (.putfield 45, 3) := dgrp_at dg_b_30 5 rfl
theorem dX5_init_103 : decode cX5_init 103 = .ok (.return_, 1) := dgrp_at dg_b_30 6 rfl
def dl_b_31 : List (Nat × Instr × Nat) := [(0, .lload_n 0, 1), (1, .lload_n 2, 1), (2, .lcmp, 1), (3, .ifCond .lt 14, 3), (6, .lload_n 0, 1), (7, .lload 4, 2), (9, .lcmp, 1), (10, .ifCond .gt 7, 3), (13, .iconst 1, 1), (14, .goto 4, 3), (17, .iconst 0, 1), (18, .ireturn, 1)]
theorem dg_b_31 : dgrp cX5_in dl_b_31 = true := by decide +kernel
theorem dX5_in_0 : decode cX5_in 0 = .ok (.lload_n 0, 1) := dgrp_at dg_b_31 0 rfl
theorem dX5_in_1 : decode cX5_in 1 = .ok (.lload_n 2, 1) := dgrp_at dg_b_31 1 rfl
theorem dX5_in_2 : decode cX5_in 2 = .ok (.lcmp, 1) := dgrp_at dg_b_31 2 rfl
theorem dX5_in_3 : decode cX5_in 3 = .ok (.ifCond .lt 14, 3) := dgrp_at dg_b_31 3 rfl
theorem dX5_in_6 : decode cX5_in 6 = .ok (.lload_n 0, 1) := dgrp_at dg_b_31 4 rfl
theorem dX5_in_7 : decode cX5_in 7 = .ok (.lload 4, 2) := dgrp_at dg_b_31 5 rfl
theorem dX5_in_9 : decode cX5_in 9 = .ok (.lcmp, 1) := dgrp_at dg_b_31 6 rfl
theorem dX5_in_10 : decode cX5_in 10 = .ok (.ifCond .gt 7, 3) := dgrp_at dg_b_31 7 rfl
theorem dX5_in_13 : decode cX5_in 13 = .ok (.iconst 1, 1) := dgrp_at dg_b_31 8 rfl
theorem dX5_in_14 : decode cX5_in 14 = .ok (.goto 4, 3) := dgrp_at dg_b_31 9 rfl
theorem dX5_in_17 : decode cX5_in 17 = .ok (.iconst 0, 1) := dgrp_at dg_b_31 10 rfl
theorem dX5_in_18 : decode cX5_in 18 = .ok (.ireturn, 1) := dgrp_at dg_b_31 11 rfl
def dl_b_32 : List (Nat × Instr × Nat) := [(0, .aload_n 0, 1), (1, .getfield 16, 3), (4, .ldc 48, 2), (6, .iload_n 1, 1), (7, .isub, 1), (8, .dup2, 1), (9, .iaload, 1), (10, .iconst 1, 1), (11, .iadd, 1), (12, .iastore, 1), (13, .iload_n 1, 1), (14, .ireturn, 1)]
theorem dg_b_32 : dgrp cX5_finds dl_b_32 = true := by decide +kernel
theorem dX5_finds_0 : decode cX5_finds 0 = .ok (.aload_n 0, 1) := dgrp_at dg_b_32 0 rfl
theorem dX5_finds_1 : decode cX5_finds 1 = .ok (.getfield 16, 3) := dgrp_at dg_b_32 1 rfl
theorem dX5_finds_4 : decode cX5_finds 4 = .ok (.ldc 48, 2) := dgrp_at dg_b_32 2 rfl
theorem dX5_finds_6 : decode cX5_finds 6 = .ok (.iload_n 1, 1) := dgrp_at dg_b_32 3 rfl
theorem dX5_finds_7 : decode cX5_finds 7 = .ok (.isub, 1) := dgrp_at dg_b_32 4 rfl
theorem dX5_finds_8 : decode cX5_finds 8 = .ok (.dup2, 1) := dgrp_at dg_b_32 5 rfl
theorem dX5_finds_9 : decode cX5_finds 9 = .ok (.iaload, 1) := dgrp_at dg_b_32 6 rfl
theorem dX5_finds_10 : decode cX5_finds 10 = .ok (.iconst 1, 1) := dgrp_at dg_b_32 7 rfl
theorem dX5_finds_11 : decode cX5_finds 11 = .ok (.iadd, 1) := dgrp_at dg_b_32 8 rfl
theorem dX5_finds_12 : decode cX5_finds 12 = .ok (.iastore, 1) := dgrp_at dg_b_32 9 rfl
theorem dX5_finds_13 : decode cX5_finds 13 = .ok (.iload_n 1, 1) := dgrp_at dg_b_32 10 rfl
theorem dX5_finds_14 : decode cX5_finds 14 = .ok (.ireturn, 1) := dgrp_at dg_b_32 11 rfl
def dl_b_33 : List (Nat × Instr × Nat) := [(0, .iload_n 1, 1), (1, .ifCond .ge 12, 3), (4, .aload_n 0, 1), (5, .ldc 49, 2), (7, .invokevirtual 50, 3), (10, .goto 4, 3), (13, .iload_n 1, 1), (14, .ireturn, 1)]
theorem dg_b_33 : dgrp cX5_orNone dl_b_33 = true := by decide +kernel
theorem dX5_orNone_0 : decode cX5_orNone 0 = .ok (.iload_n 1, 1) := dgrp_at dg_b_33 0 rfl
theorem dX5_orNone_1 : decode cX5_orNone 1 = .ok (.ifCond .ge 12, 3) := dgrp_at dg_b_33 1 rfl
theorem dX5_orNone_4 : decode cX5_orNone 4 = .ok (.aload_n 0, 1) := dgrp_at dg_b_33 2 rfl
theorem dX5_orNone_5 : decode cX5_orNone 5 = .ok (.ldc 49, 2) := dgrp_at dg_b_33 3 rfl
theorem dX5_orNone_7 : decode cX5_orNone 7 = .ok (.invokevirtual 50, 3) := dgrp_at dg_b_33 4 rfl
theorem dX5_orNone_10 : decode cX5_orNone 10 = .ok (.goto 4, 3) := dgrp_at dg_b_33 5 rfl
theorem dX5_orNone_13 : decode cX5_orNone 13 = .ok (.iload_n 1, 1) := dgrp_at dg_b_33 6 rfl
theorem dX5_orNone_14 : decode cX5_orNone 14 = .ok (.ireturn, 1) := dgrp_at dg_b_33 7 rfl
def dl_b_34 : List (Nat × Instr × Nat) := [(0, .iload_n 0, 1), (1, .iload_n 1, 1), (2, .ishr, 1), (3, .iconst 1, 1), (4, .iand, 1), (5, .iconst 1, 1), (6, .if_icmp .ne 7, 3), (9, .iconst 1, 1), (10, .goto 4, 3), (13, .iconst 0, 1), (14, .ireturn, 1)]
theorem dg_b_34 : dgrp cX5_has dl_b_34 = true := by decide +kernel
theorem dX5_has_0 : decode cX5_has 0 = .ok (.iload_n 0, 1) := dgrp_at dg_b_34 0 rfl
theorem dX5_has_1 : decode cX5_has 1 = .ok (.iload_n 1, 1) := dgrp_at dg_b_34 1 rfl
theorem dX5_has_2 : decode cX5_has 2 = .ok (.ishr, 1) := dgrp_at dg_b_34 2 rfl
theorem dX5_has_3 : decode cX5_has 3 = .ok (.iconst 1, 1) := dgrp_at dg_b_34 3 rfl
theorem dX5_has_4 : decode cX5_has 4 = .ok (.iand, 1) := dgrp_at dg_b_34 4 rfl
theorem dX5_has_5 : decode cX5_has 5 = .ok (.iconst 1, 1) := dgrp_at dg_b_34 5 rfl
theorem dX5_has_6 : decode cX5_has 6 = .ok (.if_icmp .ne 7, 3) := dgrp_at dg_b_34 6 rfl
theorem dX5_has_9 : decode cX5_has 9 = .ok (.iconst 1, 1) := dgrp_at dg_b_34 7 rfl
theorem dX5_has_10 : decode cX5_has 10 = .ok (.goto 4, 3) := dgrp_at dg_b_34 8 rfl
theorem dX5_has_13 : decode cX5_has 13 = .ok (.iconst 0, 1) := dgrp_at dg_b_34 9 rfl
theorem dX5_has_14 : decode cX5_has 14 = .ok (.ireturn, 1) := dgrp_at dg_b_34 10 rfl
def dl_b_35 : List (Nat × Instr × Nat) := [(0, .iconst 0, 1), (1, .istore_n 1, 1), (2, .iload_n 0, 1), (3, .istore_n 2, 1), (4, .iload_n 2, 1), (5, .ifCond .eq 15, 3), (8, .iinc 1 1, 3), (11, .iload_n 2, 1), (12, .iload_n 2, 1), (13, .iconst 1, 1), (14, .isub, 1), (15, .iand, 1), (16, .istore_n 2, 1), (17, .goto (-13), 3), (20, .iload_n 1, 1), (21, .ireturn, 1)]
theorem dg_b_35 : dgrp cX5_ones dl_b_35 = true := by decide +kernel
theorem dX5_ones_0 : decode cX5_ones 0 = .ok (.iconst 0, 1) := dgrp_at dg_b_35 0 rfl
theorem dX5_ones_1 : decode cX5_ones 1 = .ok (.istore_n 1, 1) := dgrp_at dg_b_35 1 rfl
theorem dX5_ones_2 : decode cX5_ones 2 = .ok (.iload_n 0, 1) := dgrp_at dg_b_35 2 rfl
theorem dX5_ones_3 : decode cX5_ones 3 = .ok (.istore_n 2, 1) := dgrp_at dg_b_35 3 rfl
theorem dX5_ones_4 : decode cX5_ones 4 = .ok (.iload_n 2, 1) := dgrp_at dg_b_35 4 rfl
theorem dX5_ones_5 : decode cX5_ones 5 = .ok (.ifCond .eq 15, 3) := dgrp_at dg_b_35 5 rfl
theorem dX5_ones_8 : decode cX5_ones 8 = .ok (.iinc 1 1, 3) := dgrp_at dg_b_35 6 rfl
theorem dX5_ones_11 : decode cX5_ones 11 = .ok (.iload_n 2, 1) := dgrp_at dg_b_35 7 rfl
theorem dX5_ones_12 : decode cX5_ones 12 = .ok (.iload_n 2, 1) := dgrp_at dg_b_35 8 rfl
theorem dX5_ones_13 : decode cX5_ones 13 = .ok (.iconst 1, 1) := dgrp_at dg_b_35 9 rfl
theorem dX5_ones_14 : decode cX5_ones 14 = .ok (.isub, 1) := dgrp_at dg_b_35 10 rfl
theorem dX5_ones_15 : decode cX5_ones 15 = .ok (.iand, 1) := dgrp_at dg_b_35 11 rfl
theorem dX5_ones_16 : decode cX5_ones 16 = .ok (.istore_n 2, 1) := dgrp_at dg_b_35 12 rfl
theorem dX5_ones_17 : decode cX5_ones 17 = .ok (.goto (-13), 3) := dgrp_at dg_b_35 13 rfl
theorem dX5_ones_20 : decode cX5_ones 20 = .ok (.iload_n 1, 1) := dgrp_at dg_b_35 14 rfl
theorem dX5_ones_21 : decode cX5_ones 21 = .ok (.ireturn, 1) := dgrp_at dg_b_35 15 rfl
def dl_b_36 : List (Nat × Instr × Nat) := [(0, .iload_n 1, 1), (1, .i2l, 1), (2, .lconst 0, 1), (3, .aload_n 0, 1), (4, .getfield 7, 3), (7, .iconst 0, 1), (8, .iaload, 1), (9, .iconst 1, 1), (10, .isub, 1), (11, .i2l, 1), (12, .invokestatic 54, 3), (15, .ireturn, 1)]
theorem dg_b_36 : dgrp cX5_isGuest dl_b_36 = true := by decide +kernel
theorem dX5_isGuest_0 : decode cX5_isGuest 0 = .ok (.iload_n 1, 1) := dgrp_at dg_b_36 0 rfl
theorem dX5_isGuest_1 : decode cX5_isGuest 1 = .ok (.i2l, 1) := dgrp_at dg_b_36 1 rfl
theorem dX5_isGuest_2 : decode cX5_isGuest 2 = .ok (.lconst 0, 1) := dgrp_at dg_b_36 2 rfl
theorem dX5_isGuest_3 : decode cX5_isGuest 3 = .ok (.aload_n 0, 1) := dgrp_at dg_b_36 3 rfl
theorem dX5_isGuest_4 : decode cX5_isGuest 4 = .ok (.getfield 7, 3) := dgrp_at dg_b_36 4 rfl
theorem dX5_isGuest_7 : decode cX5_isGuest 7 = .ok (.iconst 0, 1) := dgrp_at dg_b_36 5 rfl
theorem dX5_isGuest_8 : decode cX5_isGuest 8 = .ok (.iaload, 1) := dgrp_at dg_b_36 6 rfl
theorem dX5_isGuest_9 : decode cX5_isGuest 9 = .ok (.iconst 1, 1) := dgrp_at dg_b_36 7 rfl
theorem dX5_isGuest_10 : decode cX5_isGuest 10 = .ok (.isub, 1) := dgrp_at dg_b_36 8 rfl
theorem dX5_isGuest_11 : decode cX5_isGuest 11 = .ok (.i2l, 1) := dgrp_at dg_b_36 9 rfl
theorem dX5_isGuest_12 : decode cX5_isGuest 12 = .ok (.invokestatic 54, 3) := dgrp_at dg_b_36 10 rfl
theorem dX5_isGuest_15 : decode cX5_isGuest 15 = .ok (.ireturn, 1) := dgrp_at dg_b_36 11 rfl
def dl_b_37 : List (Nat × Instr × Nat) := [(0, .aload_n 0, 1), (1, .getfield 7, 3), (4, .iconst 2, 1), (5, .iconst 3, 1), (6, .iload_n 1, 1), (7, .imul, 1), (8, .iadd, 1), (9, .iload_n 2, 1), (10, .iadd, 1), (11, .iaload, 1), (12, .ireturn, 1)]
theorem dg_b_37 : dgrp cX5_its dl_b_37 = true := by decide +kernel
theorem dX5_its_0 : decode cX5_its 0 = .ok (.aload_n 0, 1) := dgrp_at dg_b_37 0 rfl
theorem dX5_its_1 : decode cX5_its 1 = .ok (.getfield 7, 3) := dgrp_at dg_b_37 1 rfl
theorem dX5_its_4 : decode cX5_its 4 = .ok (.iconst 2, 1) := dgrp_at dg_b_37 2 rfl
theorem dX5_its_5 : decode cX5_its 5 = .ok (.iconst 3, 1) := dgrp_at dg_b_37 3 rfl
theorem dX5_its_6 : decode cX5_its 6 = .ok (.iload_n 1, 1) := dgrp_at dg_b_37 4 rfl
theorem dX5_its_7 : decode cX5_its 7 = .ok (.imul, 1) := dgrp_at dg_b_37 5 rfl
theorem dX5_its_8 : decode cX5_its 8 = .ok (.iadd, 1) := dgrp_at dg_b_37 6 rfl
theorem dX5_its_9 : decode cX5_its 9 = .ok (.iload_n 2, 1) := dgrp_at dg_b_37 7 rfl
theorem dX5_its_10 : decode cX5_its 10 = .ok (.iadd, 1) := dgrp_at dg_b_37 8 rfl
theorem dX5_its_11 : decode cX5_its 11 = .ok (.iaload, 1) := dgrp_at dg_b_37 9 rfl
theorem dX5_its_12 : decode cX5_its 12 = .ok (.ireturn, 1) := dgrp_at dg_b_37 10 rfl
def dl_b_38 : List (Nat × Instr × Nat) := [(0, .iconst 1, 1), (1, .aload_n 0, 1), (2, .getfield 7, 3), (5, .iconst 0, 1), (6, .iaload, 1), (7, .ishl, 1), (8, .ireturn, 1)]
theorem dg_b_38 : dgrp cX5_lists dl_b_38 = true := by decide +kernel
theorem dX5_lists_0 : decode cX5_lists 0 = .ok (.iconst 1, 1) := dgrp_at dg_b_38 0 rfl
theorem dX5_lists_1 : decode cX5_lists 1 = .ok (.aload_n 0, 1) := dgrp_at dg_b_38 1 rfl
theorem dX5_lists_2 : decode cX5_lists 2 = .ok (.getfield 7, 3) := dgrp_at dg_b_38 2 rfl
theorem dX5_lists_5 : decode cX5_lists 5 = .ok (.iconst 0, 1) := dgrp_at dg_b_38 3 rfl
theorem dX5_lists_6 : decode cX5_lists 6 = .ok (.iaload, 1) := dgrp_at dg_b_38 4 rfl
theorem dX5_lists_7 : decode cX5_lists 7 = .ok (.ishl, 1) := dgrp_at dg_b_38 5 rfl
theorem dX5_lists_8 : decode cX5_lists 8 = .ok (.ireturn, 1) := dgrp_at dg_b_38 6 rfl
def dl_b_39 : List (Nat × Instr × Nat) := [(0, .lload_n 1, 1), (1, .lconst 0, 1), (2, .aload_n 0, 1), (3, .invokevirtual 58, 3), (6, .iconst 1, 1), (7, .isub, 1), (8, .i2l, 1), (9, .invokestatic 54, 3), (12, .ireturn, 1)]
theorem dg_b_39 : dgrp cX5_isList dl_b_39 = true := by decide +kernel
theorem dX5_isList_0 : decode cX5_isList 0 = .ok (.lload_n 1, 1) := dgrp_at dg_b_39 0 rfl
theorem dX5_isList_1 : decode cX5_isList 1 = .ok (.lconst 0, 1) := dgrp_at dg_b_39 1 rfl
theorem dX5_isList_2 : decode cX5_isList 2 = .ok (.aload_n 0, 1) := dgrp_at dg_b_39 2 rfl
theorem dX5_isList_3 : decode cX5_isList 3 = .ok (.invokevirtual 58, 3) := dgrp_at dg_b_39 3 rfl
theorem dX5_isList_6 : decode cX5_isList 6 = .ok (.iconst 1, 1) := dgrp_at dg_b_39 4 rfl
theorem dX5_isList_7 : decode cX5_isList 7 = .ok (.isub, 1) := dgrp_at dg_b_39 5 rfl
theorem dX5_isList_8 : decode cX5_isList 8 = .ok (.i2l, 1) := dgrp_at dg_b_39 6 rfl
theorem dX5_isList_9 : decode cX5_isList 9 = .ok (.invokestatic 54, 3) := dgrp_at dg_b_39 7 rfl
theorem dX5_isList_12 : decode cX5_isList 12 = .ok (.ireturn, 1) := dgrp_at dg_b_39 8 rfl
def dl_b_40 : List (Nat × Instr × Nat) := [(0, .iload_n 1, 1), (1, .i2l, 1), (2, .lconst 0, 1), (3, .ldc2_w 62, 3), (6, .invokestatic 54, 3), (9, .ifCond .eq 15, 3), (12, .iload_n 2, 1), (13, .i2l, 1), (14, .lconst 0, 1), (15, .ldc2_w 64, 3), (18, .invokestatic 54, 3), (21, .ifCond .ne 10, 3), (24, .aload_n 0, 1), (25, .ldc 48, 2), (27, .invokevirtual 50, 3), (30, .ireturn, 1), (31, .aload_n 0, 1), (32, .getfield 7, 3), (35, .iconst 0, 1), (36, .iaload, 1), (37, .bipush 8, 2), (39, .if_icmp .ne 10, 3), (42, .aload_n 0, 1), (43, .ldc 66, 2), (45, .invokevirtual 50, 3), (48, .ireturn, 1), (49, .iconst 2, 1), (50, .iconst 3, 1), (51, .aload_n 0, 1), (52, .getfield 7, 3), (55, .iconst 0, 1), (56, .iaload, 1)]
theorem dg_b_40 : dgrp cX5_guest dl_b_40 = true := by decide +kernel
theorem dX5_guest_0 : decode cX5_guest 0 = .ok (.iload_n 1, 1) := dgrp_at dg_b_40 0 rfl
theorem dX5_guest_1 : decode cX5_guest 1 = .ok (.i2l, 1) := dgrp_at dg_b_40 1 rfl
theorem dX5_guest_2 : decode cX5_guest 2 = .ok (.lconst 0, 1) := dgrp_at dg_b_40 2 rfl
theorem dX5_guest_3 : decode cX5_guest 3 = .ok (.ldc2_w 62, 3) := dgrp_at dg_b_40 3 rfl
theorem dX5_guest_6 : decode cX5_guest 6 = .ok (.invokestatic 54, 3) := dgrp_at dg_b_40 4 rfl
theorem dX5_guest_9 : decode cX5_guest 9 = .ok (.ifCond .eq 15, 3) := dgrp_at dg_b_40 5 rfl
theorem dX5_guest_12 : decode cX5_guest 12 = .ok (.iload_n 2, 1) := dgrp_at dg_b_40 6 rfl
theorem dX5_guest_13 : decode cX5_guest 13 = .ok (.i2l, 1) := dgrp_at dg_b_40 7 rfl
theorem dX5_guest_14 : decode cX5_guest 14 = .ok (.lconst 0, 1) := dgrp_at dg_b_40 8 rfl
theorem dX5_guest_15 : decode cX5_guest 15 = .ok (.ldc2_w 64, 3) := dgrp_at dg_b_40 9 rfl
theorem dX5_guest_18 : decode cX5_guest 18 = .ok (.invokestatic 54, 3) := dgrp_at dg_b_40 10 rfl
theorem dX5_guest_21 : decode cX5_guest 21 = .ok (.ifCond .ne 10, 3) := dgrp_at dg_b_40 11 rfl
theorem dX5_guest_24 : decode cX5_guest 24 = .ok (.aload_n 0, 1) := dgrp_at dg_b_40 12 rfl
theorem dX5_guest_25 : decode cX5_guest 25 = .ok (.ldc 48, 2) := dgrp_at dg_b_40 13 rfl
theorem dX5_guest_27 : decode cX5_guest 27 = .ok (.invokevirtual 50, 3) := dgrp_at dg_b_40 14 rfl
theorem dX5_guest_30 : decode cX5_guest 30 = .ok (.ireturn, 1) := dgrp_at dg_b_40 15 rfl
theorem dX5_guest_31 : decode cX5_guest 31 = .ok (.aload_n 0, 1) := dgrp_at dg_b_40 16 rfl
theorem dX5_guest_32 : decode cX5_guest 32 = .ok (.getfield 7, 3) := dgrp_at dg_b_40 17 rfl
theorem dX5_guest_35 : decode cX5_guest 35 = .ok (.iconst 0, 1) := dgrp_at dg_b_40 18 rfl
theorem dX5_guest_36 : decode cX5_guest 36 = .ok (.iaload, 1) := dgrp_at dg_b_40 19 rfl
theorem dX5_guest_37 : decode cX5_guest 37 = .ok (.bipush 8, 2) := dgrp_at dg_b_40 20 rfl
theorem dX5_guest_39 : decode cX5_guest 39 = .ok (.if_icmp .ne 10, 3) := dgrp_at dg_b_40 21 rfl
theorem dX5_guest_42 : decode cX5_guest 42 = .ok (.aload_n 0, 1) := dgrp_at dg_b_40 22 rfl
theorem dX5_guest_43 : decode cX5_guest 43 = .ok (.ldc 66, 2) := dgrp_at dg_b_40 23 rfl
theorem dX5_guest_45 : decode cX5_guest 45 = .ok (.invokevirtual 50, 3) := dgrp_at dg_b_40 24 rfl
theorem dX5_guest_48 : decode cX5_guest 48 = .ok (.ireturn, 1) := dgrp_at dg_b_40 25 rfl
theorem dX5_guest_49 : decode cX5_guest 49 = .ok (.iconst 2, 1) := dgrp_at dg_b_40 26 rfl
theorem dX5_guest_50 : decode cX5_guest 50 = .ok (.iconst 3, 1) := dgrp_at dg_b_40 27 rfl
theorem dX5_guest_51 : decode cX5_guest 51 = .ok (.aload_n 0, 1) := dgrp_at dg_b_40 28 rfl
theorem dX5_guest_52 : decode cX5_guest 52 = .ok (.getfield 7, 3) := dgrp_at dg_b_40 29 rfl
theorem dX5_guest_55 : decode cX5_guest 55 = .ok (.iconst 0, 1) := dgrp_at dg_b_40 30 rfl
theorem dX5_guest_56 : decode cX5_guest 56 = .ok (.iaload, 1) := dgrp_at dg_b_40 31 rfl
def dl_b_41 : List (Nat × Instr × Nat) := [(57, .imul, 1), (58, .iadd, 1), (59, .istore_n 3, 1), (60, .aload_n 0, 1), (61, .getfield 7, 3), (64, .iload_n 3, 1), (65, .iload_n 1, 1), (66, .iastore, 1), (67, .aload_n 0, 1), (68, .getfield 7, 3), (71, .iload_n 3, 1), (72, .iconst 1, 1), (73, .iadd, 1), (74, .iload_n 2, 1), (75, .iastore, 1), (76, .aload_n 0, 1), (77, .getfield 7, 3), (80, .iload_n 3, 1), (81, .iconst 2, 1), (82, .iadd, 1), (83, .iconst 0, 1), (84, .iastore, 1), (85, .aload_n 0, 1), (86, .getfield 7, 3), (89, .iconst 0, 1), (90, .dup2, 1), (91, .iaload, 1), (92, .iconst 1, 1), (93, .iadd, 1), (94, .iastore, 1), (95, .aload_n 0, 1), (96, .getfield 7, 3)]
theorem dg_b_41 : dgrp cX5_guest dl_b_41 = true := by decide +kernel
theorem dX5_guest_57 : decode cX5_guest 57 = .ok (.imul, 1) := dgrp_at dg_b_41 0 rfl
theorem dX5_guest_58 : decode cX5_guest 58 = .ok (.iadd, 1) := dgrp_at dg_b_41 1 rfl
theorem dX5_guest_59 : decode cX5_guest 59 = .ok (.istore_n 3, 1) := dgrp_at dg_b_41 2 rfl
theorem dX5_guest_60 : decode cX5_guest 60 = .ok (.aload_n 0, 1) := dgrp_at dg_b_41 3 rfl
theorem dX5_guest_61 : decode cX5_guest 61 = .ok (.getfield 7, 3) := dgrp_at dg_b_41 4 rfl
theorem dX5_guest_64 : decode cX5_guest 64 = .ok (.iload_n 3, 1) := dgrp_at dg_b_41 5 rfl
theorem dX5_guest_65 : decode cX5_guest 65 = .ok (.iload_n 1, 1) := dgrp_at dg_b_41 6 rfl
theorem dX5_guest_66 : decode cX5_guest 66 = .ok (.iastore, 1) := dgrp_at dg_b_41 7 rfl
theorem dX5_guest_67 : decode cX5_guest 67 = .ok (.aload_n 0, 1) := dgrp_at dg_b_41 8 rfl
theorem dX5_guest_68 : decode cX5_guest 68 = .ok (.getfield 7, 3) := dgrp_at dg_b_41 9 rfl
theorem dX5_guest_71 : decode cX5_guest 71 = .ok (.iload_n 3, 1) := dgrp_at dg_b_41 10 rfl
theorem dX5_guest_72 : decode cX5_guest 72 = .ok (.iconst 1, 1) := dgrp_at dg_b_41 11 rfl
theorem dX5_guest_73 : decode cX5_guest 73 = .ok (.iadd, 1) := dgrp_at dg_b_41 12 rfl
theorem dX5_guest_74 : decode cX5_guest 74 = .ok (.iload_n 2, 1) := dgrp_at dg_b_41 13 rfl
theorem dX5_guest_75 : decode cX5_guest 75 = .ok (.iastore, 1) := dgrp_at dg_b_41 14 rfl
theorem dX5_guest_76 : decode cX5_guest 76 = .ok (.aload_n 0, 1) := dgrp_at dg_b_41 15 rfl
theorem dX5_guest_77 : decode cX5_guest 77 = .ok (.getfield 7, 3) := dgrp_at dg_b_41 16 rfl
theorem dX5_guest_80 : decode cX5_guest 80 = .ok (.iload_n 3, 1) := dgrp_at dg_b_41 17 rfl
theorem dX5_guest_81 : decode cX5_guest 81 = .ok (.iconst 2, 1) := dgrp_at dg_b_41 18 rfl
theorem dX5_guest_82 : decode cX5_guest 82 = .ok (.iadd, 1) := dgrp_at dg_b_41 19 rfl
theorem dX5_guest_83 : decode cX5_guest 83 = .ok (.iconst 0, 1) := dgrp_at dg_b_41 20 rfl
theorem dX5_guest_84 : decode cX5_guest 84 = .ok (.iastore, 1) := dgrp_at dg_b_41 21 rfl
theorem dX5_guest_85 : decode cX5_guest 85 = .ok (.aload_n 0, 1) := dgrp_at dg_b_41 22 rfl
theorem dX5_guest_86 : decode cX5_guest 86 = .ok (.getfield 7, 3) := dgrp_at dg_b_41 23 rfl
theorem dX5_guest_89 : decode cX5_guest 89 = .ok (.iconst 0, 1) := dgrp_at dg_b_41 24 rfl
theorem dX5_guest_90 : decode cX5_guest 90 = .ok (.dup2, 1) := dgrp_at dg_b_41 25 rfl
theorem dX5_guest_91 : decode cX5_guest 91 = .ok (.iaload, 1) := dgrp_at dg_b_41 26 rfl
theorem dX5_guest_92 : decode cX5_guest 92 = .ok (.iconst 1, 1) := dgrp_at dg_b_41 27 rfl
theorem dX5_guest_93 : decode cX5_guest 93 = .ok (.iadd, 1) := dgrp_at dg_b_41 28 rfl
theorem dX5_guest_94 : decode cX5_guest 94 = .ok (.iastore, 1) := dgrp_at dg_b_41 29 rfl
theorem dX5_guest_95 : decode cX5_guest 95 = .ok (.aload_n 0, 1) := dgrp_at dg_b_41 30 rfl
theorem dX5_guest_96 : decode cX5_guest 96 = .ok (.getfield 7, 3) := dgrp_at dg_b_41 31 rfl
def dl_b_42 : List (Nat × Instr × Nat) := [(99, .iconst 0, 1), (100, .iaload, 1), (101, .iconst 1, 1), (102, .isub, 1), (103, .ireturn, 1)]
theorem dg_b_42 : dgrp cX5_guest dl_b_42 = true := by decide +kernel
theorem dX5_guest_99 : decode cX5_guest 99 = .ok (.iconst 0, 1) := dgrp_at dg_b_42 0 rfl
theorem dX5_guest_100 : decode cX5_guest 100 = .ok (.iaload, 1) := dgrp_at dg_b_42 1 rfl
theorem dX5_guest_101 : decode cX5_guest 101 = .ok (.iconst 1, 1) := dgrp_at dg_b_42 2 rfl
theorem dX5_guest_102 : decode cX5_guest 102 = .ok (.isub, 1) := dgrp_at dg_b_42 3 rfl
theorem dX5_guest_103 : decode cX5_guest 103 = .ok (.ireturn, 1) := dgrp_at dg_b_42 4 rfl
def dl_b_43 : List (Nat × Instr × Nat) := [(0, .iload_n 1, 1), (1, .iconst 1, 1), (2, .iload_n 0, 1), (3, .ishl, 1), (4, .iconst (-1), 1), (5, .ixor, 1), (6, .iand, 1), (7, .invokestatic 67, 3), (10, .ireturn, 1)]
theorem dg_b_43 : dgrp cX5_others dl_b_43 = true := by decide +kernel
theorem dX5_others_0 : decode cX5_others 0 = .ok (.iload_n 1, 1) := dgrp_at dg_b_43 0 rfl
theorem dX5_others_1 : decode cX5_others 1 = .ok (.iconst 1, 1) := dgrp_at dg_b_43 1 rfl
theorem dX5_others_2 : decode cX5_others 2 = .ok (.iload_n 0, 1) := dgrp_at dg_b_43 2 rfl
theorem dX5_others_3 : decode cX5_others 3 = .ok (.ishl, 1) := dgrp_at dg_b_43 3 rfl
theorem dX5_others_4 : decode cX5_others 4 = .ok (.iconst (-1), 1) := dgrp_at dg_b_43 4 rfl
theorem dX5_others_5 : decode cX5_others 5 = .ok (.ixor, 1) := dgrp_at dg_b_43 5 rfl
theorem dX5_others_6 : decode cX5_others 6 = .ok (.iand, 1) := dgrp_at dg_b_43 6 rfl
theorem dX5_others_7 : decode cX5_others 7 = .ok (.invokestatic 67, 3) := dgrp_at dg_b_43 7 rfl
theorem dX5_others_10 : decode cX5_others 10 = .ok (.ireturn, 1) := dgrp_at dg_b_43 8 rfl
def dl_b_44 : List (Nat × Instr × Nat) := [(0, .aload_n 0, 1), (1, .iload_n 1, 1), (2, .iconst 2, 1), (3, .invokevirtual 70, 3), (6, .istore_n 3, 1), (7, .iconst 0, 1), (8, .istore 4, 2), (10, .iconst 0, 1), (11, .istore 5, 2), (13, .iload 5, 2), (15, .iload_n 3, 1), (16, .if_icmp .ge 284, 3), (19, .aload_n 0, 1), (20, .getfield 7, 3), (23, .bipush 26, 2), (25, .bipush 64, 2), (27, .iload_n 1, 1), (28, .imul, 1), (29, .iadd, 1), (30, .iload 5, 2), (32, .iadd, 1), (33, .iaload, 1), (34, .istore 6, 2), (36, .iload 6, 2), (38, .bipush 8, 2), (40, .if_icmp .ge 22, 3), (43, .aload_n 0, 1), (44, .getfield 19, 3), (47, .iload 4, 2), (49, .iload_n 2, 1), (50, .iload 6, 2), (52, .invokestatic 74, 3)]
theorem dg_b_44 : dgrp cX5_holds dl_b_44 = true := by decide +kernel
theorem dX5_holds_0 : decode cX5_holds 0 = .ok (.aload_n 0, 1) := dgrp_at dg_b_44 0 rfl
theorem dX5_holds_1 : decode cX5_holds 1 = .ok (.iload_n 1, 1) := dgrp_at dg_b_44 1 rfl
theorem dX5_holds_2 : decode cX5_holds 2 = .ok (.iconst 2, 1) := dgrp_at dg_b_44 2 rfl
theorem dX5_holds_3 : decode cX5_holds 3 = .ok (.invokevirtual 70, 3) := dgrp_at dg_b_44 3 rfl
theorem dX5_holds_6 : decode cX5_holds 6 = .ok (.istore_n 3, 1) := dgrp_at dg_b_44 4 rfl
theorem dX5_holds_7 : decode cX5_holds 7 = .ok (.iconst 0, 1) := dgrp_at dg_b_44 5 rfl
theorem dX5_holds_8 : decode cX5_holds 8 = .ok (.istore 4, 2) := dgrp_at dg_b_44 6 rfl
theorem dX5_holds_10 : decode cX5_holds 10 = .ok (.iconst 0, 1) := dgrp_at dg_b_44 7 rfl
theorem dX5_holds_11 : decode cX5_holds 11 = .ok (.istore 5, 2) := dgrp_at dg_b_44 8 rfl
theorem dX5_holds_13 : decode cX5_holds 13 = .ok (.iload 5, 2) := dgrp_at dg_b_44 9 rfl
theorem dX5_holds_15 : decode cX5_holds 15 = .ok (.iload_n 3, 1) := dgrp_at dg_b_44 10 rfl
theorem dX5_holds_16 : decode cX5_holds 16 = .ok (.if_icmp .ge 284, 3) := dgrp_at dg_b_44 11 rfl
theorem dX5_holds_19 : decode cX5_holds 19 = .ok (.aload_n 0, 1) := dgrp_at dg_b_44 12 rfl
theorem dX5_holds_20 : decode cX5_holds 20 = .ok (.getfield 7, 3) := dgrp_at dg_b_44 13 rfl
theorem dX5_holds_23 : decode cX5_holds 23 = .ok (.bipush 26, 2) := dgrp_at dg_b_44 14 rfl
theorem dX5_holds_25 : decode cX5_holds 25 = .ok (.bipush 64, 2) := dgrp_at dg_b_44 15 rfl
theorem dX5_holds_27 : decode cX5_holds 27 = .ok (.iload_n 1, 1) := dgrp_at dg_b_44 16 rfl
theorem dX5_holds_28 : decode cX5_holds 28 = .ok (.imul, 1) := dgrp_at dg_b_44 17 rfl
theorem dX5_holds_29 : decode cX5_holds 29 = .ok (.iadd, 1) := dgrp_at dg_b_44 18 rfl
theorem dX5_holds_30 : decode cX5_holds 30 = .ok (.iload 5, 2) := dgrp_at dg_b_44 19 rfl
theorem dX5_holds_32 : decode cX5_holds 32 = .ok (.iadd, 1) := dgrp_at dg_b_44 20 rfl
theorem dX5_holds_33 : decode cX5_holds 33 = .ok (.iaload, 1) := dgrp_at dg_b_44 21 rfl
theorem dX5_holds_34 : decode cX5_holds 34 = .ok (.istore 6, 2) := dgrp_at dg_b_44 22 rfl
theorem dX5_holds_36 : decode cX5_holds 36 = .ok (.iload 6, 2) := dgrp_at dg_b_44 23 rfl
theorem dX5_holds_38 : decode cX5_holds 38 = .ok (.bipush 8, 2) := dgrp_at dg_b_44 24 rfl
theorem dX5_holds_40 : decode cX5_holds 40 = .ok (.if_icmp .ge 22, 3) := dgrp_at dg_b_44 25 rfl
theorem dX5_holds_43 : decode cX5_holds 43 = .ok (.aload_n 0, 1) := dgrp_at dg_b_44 26 rfl
theorem dX5_holds_44 : decode cX5_holds 44 = .ok (.getfield 19, 3) := dgrp_at dg_b_44 27 rfl
theorem dX5_holds_47 : decode cX5_holds 47 = .ok (.iload 4, 2) := dgrp_at dg_b_44 28 rfl
theorem dX5_holds_49 : decode cX5_holds 49 = .ok (.iload_n 2, 1) := dgrp_at dg_b_44 29 rfl
theorem dX5_holds_50 : decode cX5_holds 50 = .ok (.iload 6, 2) := dgrp_at dg_b_44 30 rfl
theorem dX5_holds_52 : decode cX5_holds 52 = .ok (.invokestatic 74, 3) := dgrp_at dg_b_44 31 rfl
def dl_b_45 : List (Nat × Instr × Nat) := [(55, .bastore, 1), (56, .iinc 4 1, 3), (59, .goto 235, 3), (62, .iload 6, 2), (64, .sipush 130, 3), (67, .if_icmp .ge 79, 3), (70, .iload_n 1, 1), (71, .iload_n 2, 1), (72, .invokestatic 78, 3), (75, .iload 6, 2), (77, .bipush 10, 2), (79, .irem, 1), (80, .isub, 1), (81, .istore 7, 2), (83, .aload_n 0, 1), (84, .getfield 19, 3), (87, .iload 4, 2), (89, .iload 6, 2), (91, .bipush 110, 2), (93, .if_icmp .ge 16, 3), (96, .iload 7, 2), (98, .ifCond .ge 7, 3), (101, .iconst 1, 1), (102, .goto 37, 3), (105, .iconst 0, 1), (106, .goto 33, 3), (109, .iload 6, 2), (111, .bipush 120, 2), (113, .if_icmp .ge 16, 3), (116, .iload 7, 2), (118, .ifCond .ne 7, 3), (121, .iconst 1, 1)]
theorem dg_b_45 : dgrp cX5_holds dl_b_45 = true := by decide +kernel
theorem dX5_holds_55 : decode cX5_holds 55 = .ok (.bastore, 1) := dgrp_at dg_b_45 0 rfl
theorem dX5_holds_56 : decode cX5_holds 56 = .ok (.iinc 4 1, 3) := dgrp_at dg_b_45 1 rfl
theorem dX5_holds_59 : decode cX5_holds 59 = .ok (.goto 235, 3) := dgrp_at dg_b_45 2 rfl
theorem dX5_holds_62 : decode cX5_holds 62 = .ok (.iload 6, 2) := dgrp_at dg_b_45 3 rfl
theorem dX5_holds_64 : decode cX5_holds 64 = .ok (.sipush 130, 3) := dgrp_at dg_b_45 4 rfl
theorem dX5_holds_67 : decode cX5_holds 67 = .ok (.if_icmp .ge 79, 3) := dgrp_at dg_b_45 5 rfl
theorem dX5_holds_70 : decode cX5_holds 70 = .ok (.iload_n 1, 1) := dgrp_at dg_b_45 6 rfl
theorem dX5_holds_71 : decode cX5_holds 71 = .ok (.iload_n 2, 1) := dgrp_at dg_b_45 7 rfl
theorem dX5_holds_72 : decode cX5_holds 72 = .ok (.invokestatic 78, 3) := dgrp_at dg_b_45 8 rfl
theorem dX5_holds_75 : decode cX5_holds 75 = .ok (.iload 6, 2) := dgrp_at dg_b_45 9 rfl
theorem dX5_holds_77 : decode cX5_holds 77 = .ok (.bipush 10, 2) := dgrp_at dg_b_45 10 rfl
theorem dX5_holds_79 : decode cX5_holds 79 = .ok (.irem, 1) := dgrp_at dg_b_45 11 rfl
theorem dX5_holds_80 : decode cX5_holds 80 = .ok (.isub, 1) := dgrp_at dg_b_45 12 rfl
theorem dX5_holds_81 : decode cX5_holds 81 = .ok (.istore 7, 2) := dgrp_at dg_b_45 13 rfl
theorem dX5_holds_83 : decode cX5_holds 83 = .ok (.aload_n 0, 1) := dgrp_at dg_b_45 14 rfl
theorem dX5_holds_84 : decode cX5_holds 84 = .ok (.getfield 19, 3) := dgrp_at dg_b_45 15 rfl
theorem dX5_holds_87 : decode cX5_holds 87 = .ok (.iload 4, 2) := dgrp_at dg_b_45 16 rfl
theorem dX5_holds_89 : decode cX5_holds 89 = .ok (.iload 6, 2) := dgrp_at dg_b_45 17 rfl
theorem dX5_holds_91 : decode cX5_holds 91 = .ok (.bipush 110, 2) := dgrp_at dg_b_45 18 rfl
theorem dX5_holds_93 : decode cX5_holds 93 = .ok (.if_icmp .ge 16, 3) := dgrp_at dg_b_45 19 rfl
theorem dX5_holds_96 : decode cX5_holds 96 = .ok (.iload 7, 2) := dgrp_at dg_b_45 20 rfl
theorem dX5_holds_98 : decode cX5_holds 98 = .ok (.ifCond .ge 7, 3) := dgrp_at dg_b_45 21 rfl
theorem dX5_holds_101 : decode cX5_holds 101 = .ok (.iconst 1, 1) := dgrp_at dg_b_45 22 rfl
theorem dX5_holds_102 : decode cX5_holds 102 = .ok (.goto 37, 3) := dgrp_at dg_b_45 23 rfl
theorem dX5_holds_105 : decode cX5_holds 105 = .ok (.iconst 0, 1) := dgrp_at dg_b_45 24 rfl
theorem dX5_holds_106 : decode cX5_holds 106 = .ok (.goto 33, 3) := dgrp_at dg_b_45 25 rfl
theorem dX5_holds_109 : decode cX5_holds 109 = .ok (.iload 6, 2) := dgrp_at dg_b_45 26 rfl
theorem dX5_holds_111 : decode cX5_holds 111 = .ok (.bipush 120, 2) := dgrp_at dg_b_45 27 rfl
theorem dX5_holds_113 : decode cX5_holds 113 = .ok (.if_icmp .ge 16, 3) := dgrp_at dg_b_45 28 rfl
theorem dX5_holds_116 : decode cX5_holds 116 = .ok (.iload 7, 2) := dgrp_at dg_b_45 29 rfl
theorem dX5_holds_118 : decode cX5_holds 118 = .ok (.ifCond .ne 7, 3) := dgrp_at dg_b_45 30 rfl
theorem dX5_holds_121 : decode cX5_holds 121 = .ok (.iconst 1, 1) := dgrp_at dg_b_45 31 rfl
def dl_b_46 : List (Nat × Instr × Nat) := [(122, .goto 17, 3), (125, .iconst 0, 1), (126, .goto 13, 3), (129, .iload 7, 2), (131, .ifCond .le 7, 3), (134, .iconst 1, 1), (135, .goto 4, 3), (138, .iconst 0, 1), (139, .bastore, 1), (140, .iinc 4 1, 3), (143, .goto 151, 3), (146, .iload 6, 2), (148, .sipush 140, 3), (151, .if_icmp .ge 29, 3), (154, .aload_n 0, 1), (155, .getfield 19, 3), (158, .iload 4, 2), (160, .iload 6, 2), (162, .sipush 130, 3), (165, .if_icmp .ne 7, 3), (168, .iconst 1, 1), (169, .goto 4, 3), (172, .iconst 0, 1), (173, .bastore, 1), (174, .iinc 4 1, 3), (177, .goto 117, 3), (180, .iload 6, 2), (182, .sipush 140, 3), (185, .if_icmp .ne 32, 3), (188, .aload_n 0, 1), (189, .getfield 19, 3), (192, .iload 4, 2)]
theorem dg_b_46 : dgrp cX5_holds dl_b_46 = true := by decide +kernel
theorem dX5_holds_122 : decode cX5_holds 122 = .ok (.goto 17, 3) := dgrp_at dg_b_46 0 rfl
theorem dX5_holds_125 : decode cX5_holds 125 = .ok (.iconst 0, 1) := dgrp_at dg_b_46 1 rfl
theorem dX5_holds_126 : decode cX5_holds 126 = .ok (.goto 13, 3) := dgrp_at dg_b_46 2 rfl
theorem dX5_holds_129 : decode cX5_holds 129 = .ok (.iload 7, 2) := dgrp_at dg_b_46 3 rfl
theorem dX5_holds_131 : decode cX5_holds 131 = .ok (.ifCond .le 7, 3) := dgrp_at dg_b_46 4 rfl
theorem dX5_holds_134 : decode cX5_holds 134 = .ok (.iconst 1, 1) := dgrp_at dg_b_46 5 rfl
theorem dX5_holds_135 : decode cX5_holds 135 = .ok (.goto 4, 3) := dgrp_at dg_b_46 6 rfl
theorem dX5_holds_138 : decode cX5_holds 138 = .ok (.iconst 0, 1) := dgrp_at dg_b_46 7 rfl
theorem dX5_holds_139 : decode cX5_holds 139 = .ok (.bastore, 1) := dgrp_at dg_b_46 8 rfl
theorem dX5_holds_140 : decode cX5_holds 140 = .ok (.iinc 4 1, 3) := dgrp_at dg_b_46 9 rfl
theorem dX5_holds_143 : decode cX5_holds 143 = .ok (.goto 151, 3) := dgrp_at dg_b_46 10 rfl
theorem dX5_holds_146 : decode cX5_holds 146 = .ok (.iload 6, 2) := dgrp_at dg_b_46 11 rfl
theorem dX5_holds_148 : decode cX5_holds 148 = .ok (.sipush 140, 3) := dgrp_at dg_b_46 12 rfl
theorem dX5_holds_151 : decode cX5_holds 151 = .ok (.if_icmp .ge 29, 3) := dgrp_at dg_b_46 13 rfl
theorem dX5_holds_154 : decode cX5_holds 154 = .ok (.aload_n 0, 1) := dgrp_at dg_b_46 14 rfl
theorem dX5_holds_155 : decode cX5_holds 155 = .ok (.getfield 19, 3) := dgrp_at dg_b_46 15 rfl
theorem dX5_holds_158 : decode cX5_holds 158 = .ok (.iload 4, 2) := dgrp_at dg_b_46 16 rfl
theorem dX5_holds_160 : decode cX5_holds 160 = .ok (.iload 6, 2) := dgrp_at dg_b_46 17 rfl
theorem dX5_holds_162 : decode cX5_holds 162 = .ok (.sipush 130, 3) := dgrp_at dg_b_46 18 rfl
theorem dX5_holds_165 : decode cX5_holds 165 = .ok (.if_icmp .ne 7, 3) := dgrp_at dg_b_46 19 rfl
theorem dX5_holds_168 : decode cX5_holds 168 = .ok (.iconst 1, 1) := dgrp_at dg_b_46 20 rfl
theorem dX5_holds_169 : decode cX5_holds 169 = .ok (.goto 4, 3) := dgrp_at dg_b_46 21 rfl
theorem dX5_holds_172 : decode cX5_holds 172 = .ok (.iconst 0, 1) := dgrp_at dg_b_46 22 rfl
theorem dX5_holds_173 : decode cX5_holds 173 = .ok (.bastore, 1) := dgrp_at dg_b_46 23 rfl
theorem dX5_holds_174 : decode cX5_holds 174 = .ok (.iinc 4 1, 3) := dgrp_at dg_b_46 24 rfl
theorem dX5_holds_177 : decode cX5_holds 177 = .ok (.goto 117, 3) := dgrp_at dg_b_46 25 rfl
theorem dX5_holds_180 : decode cX5_holds 180 = .ok (.iload 6, 2) := dgrp_at dg_b_46 26 rfl
theorem dX5_holds_182 : decode cX5_holds 182 = .ok (.sipush 140, 3) := dgrp_at dg_b_46 27 rfl
theorem dX5_holds_185 : decode cX5_holds 185 = .ok (.if_icmp .ne 32, 3) := dgrp_at dg_b_46 28 rfl
theorem dX5_holds_188 : decode cX5_holds 188 = .ok (.aload_n 0, 1) := dgrp_at dg_b_46 29 rfl
theorem dX5_holds_189 : decode cX5_holds 189 = .ok (.getfield 19, 3) := dgrp_at dg_b_46 30 rfl
theorem dX5_holds_192 : decode cX5_holds 192 = .ok (.iload 4, 2) := dgrp_at dg_b_46 31 rfl
def dl_b_47 : List (Nat × Instr × Nat) := [(194, .iconst 1, 1), (195, .isub, 1), (196, .aload_n 0, 1), (197, .getfield 19, 3), (200, .iload 4, 2), (202, .iconst 1, 1), (203, .isub, 1), (204, .baload, 1), (205, .ifCond .ne 7, 3), (208, .iconst 1, 1), (209, .goto 4, 3), (212, .iconst 0, 1), (213, .bastore, 1), (214, .goto 80, 3), (217, .iinc 4 (-1), 3), (220, .aload_n 0, 1), (221, .getfield 19, 3), (224, .iload 4, 2), (226, .iconst 1, 1), (227, .isub, 1), (228, .iload 6, 2), (230, .sipush 141, 3), (233, .if_icmp .ne 33, 3), (236, .aload_n 0, 1), (237, .getfield 19, 3), (240, .iload 4, 2), (242, .iconst 1, 1), (243, .isub, 1), (244, .baload, 1), (245, .ifCond .eq 17, 3), (248, .aload_n 0, 1), (249, .getfield 19, 3)]
theorem dg_b_47 : dgrp cX5_holds dl_b_47 = true := by decide +kernel
theorem dX5_holds_194 : decode cX5_holds 194 = .ok (.iconst 1, 1) := dgrp_at dg_b_47 0 rfl
theorem dX5_holds_195 : decode cX5_holds 195 = .ok (.isub, 1) := dgrp_at dg_b_47 1 rfl
theorem dX5_holds_196 : decode cX5_holds 196 = .ok (.aload_n 0, 1) := dgrp_at dg_b_47 2 rfl
theorem dX5_holds_197 : decode cX5_holds 197 = .ok (.getfield 19, 3) := dgrp_at dg_b_47 3 rfl
theorem dX5_holds_200 : decode cX5_holds 200 = .ok (.iload 4, 2) := dgrp_at dg_b_47 4 rfl
theorem dX5_holds_202 : decode cX5_holds 202 = .ok (.iconst 1, 1) := dgrp_at dg_b_47 5 rfl
theorem dX5_holds_203 : decode cX5_holds 203 = .ok (.isub, 1) := dgrp_at dg_b_47 6 rfl
theorem dX5_holds_204 : decode cX5_holds 204 = .ok (.baload, 1) := dgrp_at dg_b_47 7 rfl
theorem dX5_holds_205 : decode cX5_holds 205 = .ok (.ifCond .ne 7, 3) := dgrp_at dg_b_47 8 rfl
theorem dX5_holds_208 : decode cX5_holds 208 = .ok (.iconst 1, 1) := dgrp_at dg_b_47 9 rfl
theorem dX5_holds_209 : decode cX5_holds 209 = .ok (.goto 4, 3) := dgrp_at dg_b_47 10 rfl
theorem dX5_holds_212 : decode cX5_holds 212 = .ok (.iconst 0, 1) := dgrp_at dg_b_47 11 rfl
theorem dX5_holds_213 : decode cX5_holds 213 = .ok (.bastore, 1) := dgrp_at dg_b_47 12 rfl
theorem dX5_holds_214 : decode cX5_holds 214 = .ok (.goto 80, 3) := dgrp_at dg_b_47 13 rfl
theorem dX5_holds_217 : decode cX5_holds 217 = .ok (.iinc 4 (-1), 3) := dgrp_at dg_b_47 14 rfl
theorem dX5_holds_220 : decode cX5_holds 220 = .ok (.aload_n 0, 1) := dgrp_at dg_b_47 15 rfl
theorem dX5_holds_221 : decode cX5_holds 221 = .ok (.getfield 19, 3) := dgrp_at dg_b_47 16 rfl
theorem dX5_holds_224 : decode cX5_holds 224 = .ok (.iload 4, 2) := dgrp_at dg_b_47 17 rfl
theorem dX5_holds_226 : decode cX5_holds 226 = .ok (.iconst 1, 1) := dgrp_at dg_b_47 18 rfl
theorem dX5_holds_227 : decode cX5_holds 227 = .ok (.isub, 1) := dgrp_at dg_b_47 19 rfl
theorem dX5_holds_228 : decode cX5_holds 228 = .ok (.iload 6, 2) := dgrp_at dg_b_47 20 rfl
theorem dX5_holds_230 : decode cX5_holds 230 = .ok (.sipush 141, 3) := dgrp_at dg_b_47 21 rfl
theorem dX5_holds_233 : decode cX5_holds 233 = .ok (.if_icmp .ne 33, 3) := dgrp_at dg_b_47 22 rfl
theorem dX5_holds_236 : decode cX5_holds 236 = .ok (.aload_n 0, 1) := dgrp_at dg_b_47 23 rfl
theorem dX5_holds_237 : decode cX5_holds 237 = .ok (.getfield 19, 3) := dgrp_at dg_b_47 24 rfl
theorem dX5_holds_240 : decode cX5_holds 240 = .ok (.iload 4, 2) := dgrp_at dg_b_47 25 rfl
theorem dX5_holds_242 : decode cX5_holds 242 = .ok (.iconst 1, 1) := dgrp_at dg_b_47 26 rfl
theorem dX5_holds_243 : decode cX5_holds 243 = .ok (.isub, 1) := dgrp_at dg_b_47 27 rfl
theorem dX5_holds_244 : decode cX5_holds 244 = .ok (.baload, 1) := dgrp_at dg_b_47 28 rfl
theorem dX5_holds_245 : decode cX5_holds 245 = .ok (.ifCond .eq 17, 3) := dgrp_at dg_b_47 29 rfl
theorem dX5_holds_248 : decode cX5_holds 248 = .ok (.aload_n 0, 1) := dgrp_at dg_b_47 30 rfl
theorem dX5_holds_249 : decode cX5_holds 249 = .ok (.getfield 19, 3) := dgrp_at dg_b_47 31 rfl
def dl_b_48 : List (Nat × Instr × Nat) := [(252, .iload 4, 2), (254, .baload, 1), (255, .ifCond .eq 7, 3), (258, .iconst 1, 1), (259, .goto 34, 3), (262, .iconst 0, 1), (263, .goto 30, 3), (266, .aload_n 0, 1), (267, .getfield 19, 3), (270, .iload 4, 2), (272, .iconst 1, 1), (273, .isub, 1), (274, .baload, 1), (275, .ifCond .ne 13, 3), (278, .aload_n 0, 1), (279, .getfield 19, 3), (282, .iload 4, 2), (284, .baload, 1), (285, .ifCond .eq 7, 3), (288, .iconst 1, 1), (289, .goto 4, 3), (292, .iconst 0, 1), (293, .bastore, 1), (294, .iinc 5 1, 3), (297, .goto (-284), 3), (300, .iload_n 3, 1), (301, .ifCond .eq 12, 3), (304, .aload_n 0, 1), (305, .getfield 19, 3), (308, .iconst 0, 1), (309, .baload, 1), (310, .ifCond .eq 7, 3)]
theorem dg_b_48 : dgrp cX5_holds dl_b_48 = true := by decide +kernel
theorem dX5_holds_252 : decode cX5_holds 252 = .ok (.iload 4, 2) := dgrp_at dg_b_48 0 rfl
theorem dX5_holds_254 : decode cX5_holds 254 = .ok (.baload, 1) := dgrp_at dg_b_48 1 rfl
theorem dX5_holds_255 : decode cX5_holds 255 = .ok (.ifCond .eq 7, 3) := dgrp_at dg_b_48 2 rfl
theorem dX5_holds_258 : decode cX5_holds 258 = .ok (.iconst 1, 1) := dgrp_at dg_b_48 3 rfl
theorem dX5_holds_259 : decode cX5_holds 259 = .ok (.goto 34, 3) := dgrp_at dg_b_48 4 rfl
theorem dX5_holds_262 : decode cX5_holds 262 = .ok (.iconst 0, 1) := dgrp_at dg_b_48 5 rfl
theorem dX5_holds_263 : decode cX5_holds 263 = .ok (.goto 30, 3) := dgrp_at dg_b_48 6 rfl
theorem dX5_holds_266 : decode cX5_holds 266 = .ok (.aload_n 0, 1) := dgrp_at dg_b_48 7 rfl
theorem dX5_holds_267 : decode cX5_holds 267 = .ok (.getfield 19, 3) := dgrp_at dg_b_48 8 rfl
theorem dX5_holds_270 : decode cX5_holds 270 = .ok (.iload 4, 2) := dgrp_at dg_b_48 9 rfl
theorem dX5_holds_272 : decode cX5_holds 272 = .ok (.iconst 1, 1) := dgrp_at dg_b_48 10 rfl
theorem dX5_holds_273 : decode cX5_holds 273 = .ok (.isub, 1) := dgrp_at dg_b_48 11 rfl
theorem dX5_holds_274 : decode cX5_holds 274 = .ok (.baload, 1) := dgrp_at dg_b_48 12 rfl
theorem dX5_holds_275 : decode cX5_holds 275 = .ok (.ifCond .ne 13, 3) := dgrp_at dg_b_48 13 rfl
theorem dX5_holds_278 : decode cX5_holds 278 = .ok (.aload_n 0, 1) := dgrp_at dg_b_48 14 rfl
theorem dX5_holds_279 : decode cX5_holds 279 = .ok (.getfield 19, 3) := dgrp_at dg_b_48 15 rfl
theorem dX5_holds_282 : decode cX5_holds 282 = .ok (.iload 4, 2) := dgrp_at dg_b_48 16 rfl
theorem dX5_holds_284 : decode cX5_holds 284 = .ok (.baload, 1) := dgrp_at dg_b_48 17 rfl
theorem dX5_holds_285 : decode cX5_holds 285 = .ok (.ifCond .eq 7, 3) := dgrp_at dg_b_48 18 rfl
theorem dX5_holds_288 : decode cX5_holds 288 = .ok (.iconst 1, 1) := dgrp_at dg_b_48 19 rfl
theorem dX5_holds_289 : decode cX5_holds 289 = .ok (.goto 4, 3) := dgrp_at dg_b_48 20 rfl
theorem dX5_holds_292 : decode cX5_holds 292 = .ok (.iconst 0, 1) := dgrp_at dg_b_48 21 rfl
theorem dX5_holds_293 : decode cX5_holds 293 = .ok (.bastore, 1) := dgrp_at dg_b_48 22 rfl
theorem dX5_holds_294 : decode cX5_holds 294 = .ok (.iinc 5 1, 3) := dgrp_at dg_b_48 23 rfl
theorem dX5_holds_297 : decode cX5_holds 297 = .ok (.goto (-284), 3) := dgrp_at dg_b_48 24 rfl
theorem dX5_holds_300 : decode cX5_holds 300 = .ok (.iload_n 3, 1) := dgrp_at dg_b_48 25 rfl
theorem dX5_holds_301 : decode cX5_holds 301 = .ok (.ifCond .eq 12, 3) := dgrp_at dg_b_48 26 rfl
theorem dX5_holds_304 : decode cX5_holds 304 = .ok (.aload_n 0, 1) := dgrp_at dg_b_48 27 rfl
theorem dX5_holds_305 : decode cX5_holds 305 = .ok (.getfield 19, 3) := dgrp_at dg_b_48 28 rfl
theorem dX5_holds_308 : decode cX5_holds 308 = .ok (.iconst 0, 1) := dgrp_at dg_b_48 29 rfl
theorem dX5_holds_309 : decode cX5_holds 309 = .ok (.baload, 1) := dgrp_at dg_b_48 30 rfl
theorem dX5_holds_310 : decode cX5_holds 310 = .ok (.ifCond .eq 7, 3) := dgrp_at dg_b_48 31 rfl
def dl_b_49 : List (Nat × Instr × Nat) := [(313, .iconst 1, 1), (314, .goto 4, 3), (317, .iconst 0, 1), (318, .ireturn, 1)]
theorem dg_b_49 : dgrp cX5_holds dl_b_49 = true := by decide +kernel
theorem dX5_holds_313 : decode cX5_holds 313 = .ok (.iconst 1, 1) := dgrp_at dg_b_49 0 rfl
theorem dX5_holds_314 : decode cX5_holds 314 = .ok (.goto 4, 3) := dgrp_at dg_b_49 1 rfl
theorem dX5_holds_317 : decode cX5_holds 317 = .ok (.iconst 0, 1) := dgrp_at dg_b_49 2 rfl
theorem dX5_holds_318 : decode cX5_holds 318 = .ok (.ireturn, 1) := dgrp_at dg_b_49 3 rfl
def dl_b_50 : List (Nat × Instr × Nat) := [(0, .iload_n 1, 1), (1, .iload_n 2, 1), (2, .invokestatic 78, 3), (5, .istore_n 3, 1), (6, .aload_n 0, 1), (7, .iload_n 1, 1), (8, .iconst 0, 1), (9, .invokevirtual 70, 3), (48, .iload_n 3, 1), (49, .iconst 3, 1), (50, .if_icmp .gt 12, 3), (53, .aload_n 0, 1), (54, .iload_n 1, 1), (55, .iload_n 2, 1), (56, .invokevirtual 81, 3), (59, .ifCond .eq 7, 3), (62, .iconst 1, 1), (63, .goto 4, 3), (66, .iconst 0, 1), (67, .ireturn, 1), (68, .iload_n 3, 1), (69, .iconst 5, 1), (70, .if_icmp .ge 16, 3), (73, .aload_n 0, 1), (74, .iload_n 1, 1), (75, .iload_n 2, 1), (76, .invokevirtual 81, 3), (79, .ifCond .eq 7, 3), (82, .iconst 1, 1), (83, .goto 4, 3), (86, .iconst 0, 1), (87, .ireturn, 1)]
theorem dg_b_50 : dgrp cX5_comesBy dl_b_50 = true := by decide +kernel
theorem dX5_comesBy_0 : decode cX5_comesBy 0 = .ok (.iload_n 1, 1) := dgrp_at dg_b_50 0 rfl
theorem dX5_comesBy_1 : decode cX5_comesBy 1 = .ok (.iload_n 2, 1) := dgrp_at dg_b_50 1 rfl
theorem dX5_comesBy_2 : decode cX5_comesBy 2 = .ok (.invokestatic 78, 3) := dgrp_at dg_b_50 2 rfl
theorem dX5_comesBy_5 : decode cX5_comesBy 5 = .ok (.istore_n 3, 1) := dgrp_at dg_b_50 3 rfl
theorem dX5_comesBy_6 : decode cX5_comesBy 6 = .ok (.aload_n 0, 1) := dgrp_at dg_b_50 4 rfl
theorem dX5_comesBy_7 : decode cX5_comesBy 7 = .ok (.iload_n 1, 1) := dgrp_at dg_b_50 5 rfl
theorem dX5_comesBy_8 : decode cX5_comesBy 8 = .ok (.iconst 0, 1) := dgrp_at dg_b_50 6 rfl
theorem dX5_comesBy_9 : decode cX5_comesBy 9 = .ok (.invokevirtual 70, 3) := dgrp_at dg_b_50 7 rfl
theorem dX5_comesBy_48 : decode cX5_comesBy 48 = .ok (.iload_n 3, 1) := dgrp_at dg_b_50 8 rfl
theorem dX5_comesBy_49 : decode cX5_comesBy 49 = .ok (.iconst 3, 1) := dgrp_at dg_b_50 9 rfl
theorem dX5_comesBy_50 : decode cX5_comesBy 50 = .ok (.if_icmp .gt 12, 3) := dgrp_at dg_b_50 10 rfl
theorem dX5_comesBy_53 : decode cX5_comesBy 53 = .ok (.aload_n 0, 1) := dgrp_at dg_b_50 11 rfl
theorem dX5_comesBy_54 : decode cX5_comesBy 54 = .ok (.iload_n 1, 1) := dgrp_at dg_b_50 12 rfl
theorem dX5_comesBy_55 : decode cX5_comesBy 55 = .ok (.iload_n 2, 1) := dgrp_at dg_b_50 13 rfl
theorem dX5_comesBy_56 : decode cX5_comesBy 56 = .ok (.invokevirtual 81, 3) := dgrp_at dg_b_50 14 rfl
theorem dX5_comesBy_59 : decode cX5_comesBy 59 = .ok (.ifCond .eq 7, 3) := dgrp_at dg_b_50 15 rfl
theorem dX5_comesBy_62 : decode cX5_comesBy 62 = .ok (.iconst 1, 1) := dgrp_at dg_b_50 16 rfl
theorem dX5_comesBy_63 : decode cX5_comesBy 63 = .ok (.goto 4, 3) := dgrp_at dg_b_50 17 rfl
theorem dX5_comesBy_66 : decode cX5_comesBy 66 = .ok (.iconst 0, 1) := dgrp_at dg_b_50 18 rfl
theorem dX5_comesBy_67 : decode cX5_comesBy 67 = .ok (.ireturn, 1) := dgrp_at dg_b_50 19 rfl
theorem dX5_comesBy_68 : decode cX5_comesBy 68 = .ok (.iload_n 3, 1) := dgrp_at dg_b_50 20 rfl
theorem dX5_comesBy_69 : decode cX5_comesBy 69 = .ok (.iconst 5, 1) := dgrp_at dg_b_50 21 rfl
theorem dX5_comesBy_70 : decode cX5_comesBy 70 = .ok (.if_icmp .ge 16, 3) := dgrp_at dg_b_50 22 rfl
theorem dX5_comesBy_73 : decode cX5_comesBy 73 = .ok (.aload_n 0, 1) := dgrp_at dg_b_50 23 rfl
theorem dX5_comesBy_74 : decode cX5_comesBy 74 = .ok (.iload_n 1, 1) := dgrp_at dg_b_50 24 rfl
theorem dX5_comesBy_75 : decode cX5_comesBy 75 = .ok (.iload_n 2, 1) := dgrp_at dg_b_50 25 rfl
theorem dX5_comesBy_76 : decode cX5_comesBy 76 = .ok (.invokevirtual 81, 3) := dgrp_at dg_b_50 26 rfl
theorem dX5_comesBy_79 : decode cX5_comesBy 79 = .ok (.ifCond .eq 7, 3) := dgrp_at dg_b_50 27 rfl
theorem dX5_comesBy_82 : decode cX5_comesBy 82 = .ok (.iconst 1, 1) := dgrp_at dg_b_50 28 rfl
theorem dX5_comesBy_83 : decode cX5_comesBy 83 = .ok (.goto 4, 3) := dgrp_at dg_b_50 29 rfl
theorem dX5_comesBy_86 : decode cX5_comesBy 86 = .ok (.iconst 0, 1) := dgrp_at dg_b_50 30 rfl
theorem dX5_comesBy_87 : decode cX5_comesBy 87 = .ok (.ireturn, 1) := dgrp_at dg_b_50 31 rfl
def dl_b_51 : List (Nat × Instr × Nat) := [(88, .iconst 0, 1), (89, .ireturn, 1), (90, .iload_n 3, 1), (91, .iconst 3, 1), (92, .if_icmp .gt 16, 3), (95, .iload_n 3, 1), (96, .ifCond .eq 12, 3), (99, .aload_n 0, 1), (100, .iload_n 1, 1), (101, .iload_n 2, 1), (102, .invokevirtual 81, 3), (105, .ifCond .eq 7, 3), (108, .iconst 1, 1), (109, .goto 4, 3), (112, .iconst 0, 1), (113, .ireturn, 1), (114, .iload_n 3, 1), (115, .iconst 4, 1), (116, .if_icmp .gt 12, 3), (119, .aload_n 0, 1), (120, .iload_n 1, 1), (121, .iload_n 2, 1), (122, .invokevirtual 81, 3), (125, .ifCond .ne 7, 3), (128, .iconst 1, 1), (129, .goto 4, 3), (132, .iconst 0, 1), (133, .ireturn, 1), (134, .aload_n 0, 1), (135, .iload_n 1, 1), (136, .iload_n 2, 1), (137, .invokevirtual 81, 3)]
theorem dg_b_51 : dgrp cX5_comesBy dl_b_51 = true := by decide +kernel
theorem dX5_comesBy_88 : decode cX5_comesBy 88 = .ok (.iconst 0, 1) := dgrp_at dg_b_51 0 rfl
theorem dX5_comesBy_89 : decode cX5_comesBy 89 = .ok (.ireturn, 1) := dgrp_at dg_b_51 1 rfl
theorem dX5_comesBy_90 : decode cX5_comesBy 90 = .ok (.iload_n 3, 1) := dgrp_at dg_b_51 2 rfl
theorem dX5_comesBy_91 : decode cX5_comesBy 91 = .ok (.iconst 3, 1) := dgrp_at dg_b_51 3 rfl
theorem dX5_comesBy_92 : decode cX5_comesBy 92 = .ok (.if_icmp .gt 16, 3) := dgrp_at dg_b_51 4 rfl
theorem dX5_comesBy_95 : decode cX5_comesBy 95 = .ok (.iload_n 3, 1) := dgrp_at dg_b_51 5 rfl
theorem dX5_comesBy_96 : decode cX5_comesBy 96 = .ok (.ifCond .eq 12, 3) := dgrp_at dg_b_51 6 rfl
theorem dX5_comesBy_99 : decode cX5_comesBy 99 = .ok (.aload_n 0, 1) := dgrp_at dg_b_51 7 rfl
theorem dX5_comesBy_100 : decode cX5_comesBy 100 = .ok (.iload_n 1, 1) := dgrp_at dg_b_51 8 rfl
theorem dX5_comesBy_101 : decode cX5_comesBy 101 = .ok (.iload_n 2, 1) := dgrp_at dg_b_51 9 rfl
theorem dX5_comesBy_102 : decode cX5_comesBy 102 = .ok (.invokevirtual 81, 3) := dgrp_at dg_b_51 10 rfl
theorem dX5_comesBy_105 : decode cX5_comesBy 105 = .ok (.ifCond .eq 7, 3) := dgrp_at dg_b_51 11 rfl
theorem dX5_comesBy_108 : decode cX5_comesBy 108 = .ok (.iconst 1, 1) := dgrp_at dg_b_51 12 rfl
theorem dX5_comesBy_109 : decode cX5_comesBy 109 = .ok (.goto 4, 3) := dgrp_at dg_b_51 13 rfl
theorem dX5_comesBy_112 : decode cX5_comesBy 112 = .ok (.iconst 0, 1) := dgrp_at dg_b_51 14 rfl
theorem dX5_comesBy_113 : decode cX5_comesBy 113 = .ok (.ireturn, 1) := dgrp_at dg_b_51 15 rfl
theorem dX5_comesBy_114 : decode cX5_comesBy 114 = .ok (.iload_n 3, 1) := dgrp_at dg_b_51 16 rfl
theorem dX5_comesBy_115 : decode cX5_comesBy 115 = .ok (.iconst 4, 1) := dgrp_at dg_b_51 17 rfl
theorem dX5_comesBy_116 : decode cX5_comesBy 116 = .ok (.if_icmp .gt 12, 3) := dgrp_at dg_b_51 18 rfl
theorem dX5_comesBy_119 : decode cX5_comesBy 119 = .ok (.aload_n 0, 1) := dgrp_at dg_b_51 19 rfl
theorem dX5_comesBy_120 : decode cX5_comesBy 120 = .ok (.iload_n 1, 1) := dgrp_at dg_b_51 20 rfl
theorem dX5_comesBy_121 : decode cX5_comesBy 121 = .ok (.iload_n 2, 1) := dgrp_at dg_b_51 21 rfl
theorem dX5_comesBy_122 : decode cX5_comesBy 122 = .ok (.invokevirtual 81, 3) := dgrp_at dg_b_51 22 rfl
theorem dX5_comesBy_125 : decode cX5_comesBy 125 = .ok (.ifCond .ne 7, 3) := dgrp_at dg_b_51 23 rfl
theorem dX5_comesBy_128 : decode cX5_comesBy 128 = .ok (.iconst 1, 1) := dgrp_at dg_b_51 24 rfl
theorem dX5_comesBy_129 : decode cX5_comesBy 129 = .ok (.goto 4, 3) := dgrp_at dg_b_51 25 rfl
theorem dX5_comesBy_132 : decode cX5_comesBy 132 = .ok (.iconst 0, 1) := dgrp_at dg_b_51 26 rfl
theorem dX5_comesBy_133 : decode cX5_comesBy 133 = .ok (.ireturn, 1) := dgrp_at dg_b_51 27 rfl
theorem dX5_comesBy_134 : decode cX5_comesBy 134 = .ok (.aload_n 0, 1) := dgrp_at dg_b_51 28 rfl
theorem dX5_comesBy_135 : decode cX5_comesBy 135 = .ok (.iload_n 1, 1) := dgrp_at dg_b_51 29 rfl
theorem dX5_comesBy_136 : decode cX5_comesBy 136 = .ok (.iload_n 2, 1) := dgrp_at dg_b_51 30 rfl
theorem dX5_comesBy_137 : decode cX5_comesBy 137 = .ok (.invokevirtual 81, 3) := dgrp_at dg_b_51 31 rfl
def dl_b_52 : List (Nat × Instr × Nat) := [(140, .ireturn, 1)]
theorem dg_b_52 : dgrp cX5_comesBy dl_b_52 = true := by decide +kernel
theorem dX5_comesBy_140 : decode cX5_comesBy 140 = .ok (.ireturn, 1) := dgrp_at dg_b_52 0 rfl
def dl_b_53 : List (Nat × Instr × Nat) := [(0, .iconst 0, 1), (1, .istore_n 2, 1), (2, .iconst 0, 1), (3, .istore_n 3, 1), (4, .iload_n 3, 1), (5, .aload_n 0, 1), (6, .getfield 7, 3), (9, .iconst 0, 1), (10, .iaload, 1), (11, .if_icmp .ge 28, 3), (14, .iload_n 2, 1), (15, .aload_n 0, 1), (16, .iload_n 3, 1), (17, .iload_n 1, 1), (18, .invokevirtual 84, 3), (21, .ifCond .eq 9, 3), (24, .iconst 1, 1), (25, .iload_n 3, 1), (26, .ishl, 1), (27, .goto 4, 3), (30, .iconst 0, 1), (31, .ior, 1), (32, .istore_n 2, 1), (33, .iinc 3 1, 3), (36, .goto (-32), 3), (39, .iload_n 2, 1), (40, .ireturn, 1)]
theorem dg_b_53 : dgrp cX5_would dl_b_53 = true := by decide +kernel
theorem dX5_would_0 : decode cX5_would 0 = .ok (.iconst 0, 1) := dgrp_at dg_b_53 0 rfl
theorem dX5_would_1 : decode cX5_would 1 = .ok (.istore_n 2, 1) := dgrp_at dg_b_53 1 rfl
theorem dX5_would_2 : decode cX5_would 2 = .ok (.iconst 0, 1) := dgrp_at dg_b_53 2 rfl
theorem dX5_would_3 : decode cX5_would 3 = .ok (.istore_n 3, 1) := dgrp_at dg_b_53 3 rfl
theorem dX5_would_4 : decode cX5_would 4 = .ok (.iload_n 3, 1) := dgrp_at dg_b_53 4 rfl
theorem dX5_would_5 : decode cX5_would 5 = .ok (.aload_n 0, 1) := dgrp_at dg_b_53 5 rfl
theorem dX5_would_6 : decode cX5_would 6 = .ok (.getfield 7, 3) := dgrp_at dg_b_53 6 rfl
theorem dX5_would_9 : decode cX5_would 9 = .ok (.iconst 0, 1) := dgrp_at dg_b_53 7 rfl
theorem dX5_would_10 : decode cX5_would 10 = .ok (.iaload, 1) := dgrp_at dg_b_53 8 rfl
theorem dX5_would_11 : decode cX5_would 11 = .ok (.if_icmp .ge 28, 3) := dgrp_at dg_b_53 9 rfl
theorem dX5_would_14 : decode cX5_would 14 = .ok (.iload_n 2, 1) := dgrp_at dg_b_53 10 rfl
theorem dX5_would_15 : decode cX5_would 15 = .ok (.aload_n 0, 1) := dgrp_at dg_b_53 11 rfl
theorem dX5_would_16 : decode cX5_would 16 = .ok (.iload_n 3, 1) := dgrp_at dg_b_53 12 rfl
theorem dX5_would_17 : decode cX5_would 17 = .ok (.iload_n 1, 1) := dgrp_at dg_b_53 13 rfl
theorem dX5_would_18 : decode cX5_would 18 = .ok (.invokevirtual 84, 3) := dgrp_at dg_b_53 14 rfl
theorem dX5_would_21 : decode cX5_would 21 = .ok (.ifCond .eq 9, 3) := dgrp_at dg_b_53 15 rfl
theorem dX5_would_24 : decode cX5_would 24 = .ok (.iconst 1, 1) := dgrp_at dg_b_53 16 rfl
theorem dX5_would_25 : decode cX5_would 25 = .ok (.iload_n 3, 1) := dgrp_at dg_b_53 17 rfl
theorem dX5_would_26 : decode cX5_would 26 = .ok (.ishl, 1) := dgrp_at dg_b_53 18 rfl
theorem dX5_would_27 : decode cX5_would 27 = .ok (.goto 4, 3) := dgrp_at dg_b_53 19 rfl
theorem dX5_would_30 : decode cX5_would 30 = .ok (.iconst 0, 1) := dgrp_at dg_b_53 20 rfl
theorem dX5_would_31 : decode cX5_would 31 = .ok (.ior, 1) := dgrp_at dg_b_53 21 rfl
theorem dX5_would_32 : decode cX5_would 32 = .ok (.istore_n 2, 1) := dgrp_at dg_b_53 22 rfl
theorem dX5_would_33 : decode cX5_would 33 = .ok (.iinc 3 1, 3) := dgrp_at dg_b_53 23 rfl
theorem dX5_would_36 : decode cX5_would 36 = .ok (.goto (-32), 3) := dgrp_at dg_b_53 24 rfl
theorem dX5_would_39 : decode cX5_would 39 = .ok (.iload_n 2, 1) := dgrp_at dg_b_53 25 rfl
theorem dX5_would_40 : decode cX5_would 40 = .ok (.ireturn, 1) := dgrp_at dg_b_53 26 rfl
def dl_b_54 : List (Nat × Instr × Nat) := [(0, .aload_n 0, 1), (1, .iload_n 1, 1), (2, .invokevirtual 87, 3), (5, .ifCond .eq 15, 3), (8, .iload_n 2, 1), (9, .i2l, 1), (10, .lconst 0, 1), (11, .ldc2_w 62, 3), (14, .invokestatic 54, 3), (17, .ifCond .ne 10, 3), (20, .aload_n 0, 1), (21, .ldc 48, 2), (23, .invokevirtual 50, 3), (26, .ireturn, 1), (27, .iload_n 2, 1), (60, .aload_n 0, 1), (61, .getfield 7, 3), (64, .iconst 1, 1), (65, .iaload, 1), (66, .iload_n 1, 1), (67, .ishr, 1), (68, .iconst 1, 1), (69, .iand, 1), (70, .ireturn, 1), (71, .aload_n 0, 1), (72, .iload_n 1, 1), (73, .aload_n 0, 1), (74, .getfield 7, 3), (77, .iconst 1, 1), (78, .iaload, 1), (79, .invokevirtual 84, 3), (82, .ifCond .eq 7, 3)]
theorem dg_b_54 : dgrp cX5_of dl_b_54 = true := by decide +kernel
theorem dX5_of_0 : decode cX5_of 0 = .ok (.aload_n 0, 1) := dgrp_at dg_b_54 0 rfl
theorem dX5_of_1 : decode cX5_of 1 = .ok (.iload_n 1, 1) := dgrp_at dg_b_54 1 rfl
theorem dX5_of_2 : decode cX5_of 2 = .ok (.invokevirtual 87, 3) := dgrp_at dg_b_54 2 rfl
theorem dX5_of_5 : decode cX5_of 5 = .ok (.ifCond .eq 15, 3) := dgrp_at dg_b_54 3 rfl
theorem dX5_of_8 : decode cX5_of 8 = .ok (.iload_n 2, 1) := dgrp_at dg_b_54 4 rfl
theorem dX5_of_9 : decode cX5_of 9 = .ok (.i2l, 1) := dgrp_at dg_b_54 5 rfl
theorem dX5_of_10 : decode cX5_of 10 = .ok (.lconst 0, 1) := dgrp_at dg_b_54 6 rfl
theorem dX5_of_11 : decode cX5_of 11 = .ok (.ldc2_w 62, 3) := dgrp_at dg_b_54 7 rfl
theorem dX5_of_14 : decode cX5_of 14 = .ok (.invokestatic 54, 3) := dgrp_at dg_b_54 8 rfl
theorem dX5_of_17 : decode cX5_of 17 = .ok (.ifCond .ne 10, 3) := dgrp_at dg_b_54 9 rfl
theorem dX5_of_20 : decode cX5_of 20 = .ok (.aload_n 0, 1) := dgrp_at dg_b_54 10 rfl
theorem dX5_of_21 : decode cX5_of 21 = .ok (.ldc 48, 2) := dgrp_at dg_b_54 11 rfl
theorem dX5_of_23 : decode cX5_of 23 = .ok (.invokevirtual 50, 3) := dgrp_at dg_b_54 12 rfl
theorem dX5_of_26 : decode cX5_of 26 = .ok (.ireturn, 1) := dgrp_at dg_b_54 13 rfl
theorem dX5_of_27 : decode cX5_of 27 = .ok (.iload_n 2, 1) := dgrp_at dg_b_54 14 rfl
theorem dX5_of_60 : decode cX5_of 60 = .ok (.aload_n 0, 1) := dgrp_at dg_b_54 15 rfl
theorem dX5_of_61 : decode cX5_of 61 = .ok (.getfield 7, 3) := dgrp_at dg_b_54 16 rfl
theorem dX5_of_64 : decode cX5_of 64 = .ok (.iconst 1, 1) := dgrp_at dg_b_54 17 rfl
theorem dX5_of_65 : decode cX5_of 65 = .ok (.iaload, 1) := dgrp_at dg_b_54 18 rfl
theorem dX5_of_66 : decode cX5_of 66 = .ok (.iload_n 1, 1) := dgrp_at dg_b_54 19 rfl
theorem dX5_of_67 : decode cX5_of 67 = .ok (.ishr, 1) := dgrp_at dg_b_54 20 rfl
theorem dX5_of_68 : decode cX5_of 68 = .ok (.iconst 1, 1) := dgrp_at dg_b_54 21 rfl
theorem dX5_of_69 : decode cX5_of 69 = .ok (.iand, 1) := dgrp_at dg_b_54 22 rfl
theorem dX5_of_70 : decode cX5_of 70 = .ok (.ireturn, 1) := dgrp_at dg_b_54 23 rfl
theorem dX5_of_71 : decode cX5_of 71 = .ok (.aload_n 0, 1) := dgrp_at dg_b_54 24 rfl
theorem dX5_of_72 : decode cX5_of 72 = .ok (.iload_n 1, 1) := dgrp_at dg_b_54 25 rfl
theorem dX5_of_73 : decode cX5_of 73 = .ok (.aload_n 0, 1) := dgrp_at dg_b_54 26 rfl
theorem dX5_of_74 : decode cX5_of 74 = .ok (.getfield 7, 3) := dgrp_at dg_b_54 27 rfl
theorem dX5_of_77 : decode cX5_of 77 = .ok (.iconst 1, 1) := dgrp_at dg_b_54 28 rfl
theorem dX5_of_78 : decode cX5_of 78 = .ok (.iaload, 1) := dgrp_at dg_b_54 29 rfl
theorem dX5_of_79 : decode cX5_of 79 = .ok (.invokevirtual 84, 3) := dgrp_at dg_b_54 30 rfl
theorem dX5_of_82 : decode cX5_of 82 = .ok (.ifCond .eq 7, 3) := dgrp_at dg_b_54 31 rfl
def dl_b_55 : List (Nat × Instr × Nat) := [(85, .iconst 1, 1), (86, .goto 4, 3), (89, .iconst 0, 1), (90, .ireturn, 1), (91, .aload_n 0, 1), (92, .iload_n 1, 1), (93, .aload_n 0, 1), (94, .getfield 7, 3), (97, .iconst 1, 1), (98, .iaload, 1), (99, .invokevirtual 81, 3), (102, .ifCond .eq 7, 3), (105, .iconst 1, 1), (106, .goto 4, 3), (109, .iconst 0, 1), (110, .ireturn, 1), (111, .iload_n 1, 1), (112, .aload_n 0, 1), (113, .getfield 7, 3), (116, .iconst 1, 1), (117, .iaload, 1), (118, .invokestatic 78, 3), (121, .ireturn, 1), (122, .aload_n 0, 1), (123, .iload_n 1, 1), (124, .iload_n 2, 1), (125, .invokevirtual 70, 3), (128, .ireturn, 1)]
theorem dg_b_55 : dgrp cX5_of dl_b_55 = true := by decide +kernel
theorem dX5_of_85 : decode cX5_of 85 = .ok (.iconst 1, 1) := dgrp_at dg_b_55 0 rfl
theorem dX5_of_86 : decode cX5_of 86 = .ok (.goto 4, 3) := dgrp_at dg_b_55 1 rfl
theorem dX5_of_89 : decode cX5_of 89 = .ok (.iconst 0, 1) := dgrp_at dg_b_55 2 rfl
theorem dX5_of_90 : decode cX5_of 90 = .ok (.ireturn, 1) := dgrp_at dg_b_55 3 rfl
theorem dX5_of_91 : decode cX5_of 91 = .ok (.aload_n 0, 1) := dgrp_at dg_b_55 4 rfl
theorem dX5_of_92 : decode cX5_of 92 = .ok (.iload_n 1, 1) := dgrp_at dg_b_55 5 rfl
theorem dX5_of_93 : decode cX5_of 93 = .ok (.aload_n 0, 1) := dgrp_at dg_b_55 6 rfl
theorem dX5_of_94 : decode cX5_of 94 = .ok (.getfield 7, 3) := dgrp_at dg_b_55 7 rfl
theorem dX5_of_97 : decode cX5_of 97 = .ok (.iconst 1, 1) := dgrp_at dg_b_55 8 rfl
theorem dX5_of_98 : decode cX5_of 98 = .ok (.iaload, 1) := dgrp_at dg_b_55 9 rfl
theorem dX5_of_99 : decode cX5_of 99 = .ok (.invokevirtual 81, 3) := dgrp_at dg_b_55 10 rfl
theorem dX5_of_102 : decode cX5_of 102 = .ok (.ifCond .eq 7, 3) := dgrp_at dg_b_55 11 rfl
theorem dX5_of_105 : decode cX5_of 105 = .ok (.iconst 1, 1) := dgrp_at dg_b_55 12 rfl
theorem dX5_of_106 : decode cX5_of 106 = .ok (.goto 4, 3) := dgrp_at dg_b_55 13 rfl
theorem dX5_of_109 : decode cX5_of 109 = .ok (.iconst 0, 1) := dgrp_at dg_b_55 14 rfl
theorem dX5_of_110 : decode cX5_of 110 = .ok (.ireturn, 1) := dgrp_at dg_b_55 15 rfl
theorem dX5_of_111 : decode cX5_of 111 = .ok (.iload_n 1, 1) := dgrp_at dg_b_55 16 rfl
theorem dX5_of_112 : decode cX5_of 112 = .ok (.aload_n 0, 1) := dgrp_at dg_b_55 17 rfl
theorem dX5_of_113 : decode cX5_of 113 = .ok (.getfield 7, 3) := dgrp_at dg_b_55 18 rfl
theorem dX5_of_116 : decode cX5_of 116 = .ok (.iconst 1, 1) := dgrp_at dg_b_55 19 rfl
theorem dX5_of_117 : decode cX5_of 117 = .ok (.iaload, 1) := dgrp_at dg_b_55 20 rfl
theorem dX5_of_118 : decode cX5_of 118 = .ok (.invokestatic 78, 3) := dgrp_at dg_b_55 21 rfl
theorem dX5_of_121 : decode cX5_of 121 = .ok (.ireturn, 1) := dgrp_at dg_b_55 22 rfl
theorem dX5_of_122 : decode cX5_of 122 = .ok (.aload_n 0, 1) := dgrp_at dg_b_55 23 rfl
theorem dX5_of_123 : decode cX5_of 123 = .ok (.iload_n 1, 1) := dgrp_at dg_b_55 24 rfl
theorem dX5_of_124 : decode cX5_of 124 = .ok (.iload_n 2, 1) := dgrp_at dg_b_55 25 rfl
theorem dX5_of_125 : decode cX5_of 125 = .ok (.invokevirtual 70, 3) := dgrp_at dg_b_55 26 rfl
theorem dX5_of_128 : decode cX5_of 128 = .ok (.ireturn, 1) := dgrp_at dg_b_55 27 rfl
def dl_b_56 : List (Nat × Instr × Nat) := [(0, .aload_n 0, 1), (1, .getfield 7, 3), (4, .iload_n 1, 1), (5, .iaload, 1), (6, .istore_n 3, 1), (7, .aload_n 0, 1), (8, .getfield 7, 3), (11, .iload_n 1, 1), (12, .iload_n 2, 1), (13, .iastore, 1), (14, .iload_n 3, 1), (15, .ireturn, 1)]
theorem dg_b_56 : dgrp cX5_becomes dl_b_56 = true := by decide +kernel
theorem dX5_becomes_0 : decode cX5_becomes 0 = .ok (.aload_n 0, 1) := dgrp_at dg_b_56 0 rfl
theorem dX5_becomes_1 : decode cX5_becomes 1 = .ok (.getfield 7, 3) := dgrp_at dg_b_56 1 rfl
theorem dX5_becomes_4 : decode cX5_becomes 4 = .ok (.iload_n 1, 1) := dgrp_at dg_b_56 2 rfl
theorem dX5_becomes_5 : decode cX5_becomes 5 = .ok (.iaload, 1) := dgrp_at dg_b_56 3 rfl
theorem dX5_becomes_6 : decode cX5_becomes 6 = .ok (.istore_n 3, 1) := dgrp_at dg_b_56 4 rfl
theorem dX5_becomes_7 : decode cX5_becomes 7 = .ok (.aload_n 0, 1) := dgrp_at dg_b_56 5 rfl
theorem dX5_becomes_8 : decode cX5_becomes 8 = .ok (.getfield 7, 3) := dgrp_at dg_b_56 6 rfl
theorem dX5_becomes_11 : decode cX5_becomes 11 = .ok (.iload_n 1, 1) := dgrp_at dg_b_56 7 rfl
theorem dX5_becomes_12 : decode cX5_becomes 12 = .ok (.iload_n 2, 1) := dgrp_at dg_b_56 8 rfl
theorem dX5_becomes_13 : decode cX5_becomes 13 = .ok (.iastore, 1) := dgrp_at dg_b_56 9 rfl
theorem dX5_becomes_14 : decode cX5_becomes 14 = .ok (.iload_n 3, 1) := dgrp_at dg_b_56 10 rfl
theorem dX5_becomes_15 : decode cX5_becomes 15 = .ok (.ireturn, 1) := dgrp_at dg_b_56 11 rfl
def dl_b_57 : List (Nat × Instr × Nat) := [(0, .aload_n 0, 1), (1, .iload_n 1, 1), (2, .invokevirtual 87, 3), (5, .ifCond .eq 30, 3), (8, .iload_n 2, 1), (9, .i2l, 1), (10, .lconst 0, 1), (11, .ldc2_w 64, 3), (14, .invokestatic 54, 3), (17, .ifCond .eq 18, 3), (20, .aload_n 0, 1), (21, .iconst 2, 1), (22, .iconst 3, 1), (23, .iload_n 1, 1), (24, .imul, 1), (25, .iadd, 1), (26, .iconst 1, 1), (27, .iadd, 1), (28, .iload_n 2, 1), (29, .invokevirtual 91, 3), (32, .goto 9, 3), (35, .aload_n 0, 1), (36, .ldc 48, 2), (38, .invokevirtual 50, 3), (41, .ireturn, 1)]
theorem dg_b_57 : dgrp cX5_cost dl_b_57 = true := by decide +kernel
theorem dX5_cost_0 : decode cX5_cost 0 = .ok (.aload_n 0, 1) := dgrp_at dg_b_57 0 rfl
theorem dX5_cost_1 : decode cX5_cost 1 = .ok (.iload_n 1, 1) := dgrp_at dg_b_57 1 rfl
theorem dX5_cost_2 : decode cX5_cost 2 = .ok (.invokevirtual 87, 3) := dgrp_at dg_b_57 2 rfl
theorem dX5_cost_5 : decode cX5_cost 5 = .ok (.ifCond .eq 30, 3) := dgrp_at dg_b_57 3 rfl
theorem dX5_cost_8 : decode cX5_cost 8 = .ok (.iload_n 2, 1) := dgrp_at dg_b_57 4 rfl
theorem dX5_cost_9 : decode cX5_cost 9 = .ok (.i2l, 1) := dgrp_at dg_b_57 5 rfl
theorem dX5_cost_10 : decode cX5_cost 10 = .ok (.lconst 0, 1) := dgrp_at dg_b_57 6 rfl
theorem dX5_cost_11 : decode cX5_cost 11 = .ok (.ldc2_w 64, 3) := dgrp_at dg_b_57 7 rfl
theorem dX5_cost_14 : decode cX5_cost 14 = .ok (.invokestatic 54, 3) := dgrp_at dg_b_57 8 rfl
theorem dX5_cost_17 : decode cX5_cost 17 = .ok (.ifCond .eq 18, 3) := dgrp_at dg_b_57 9 rfl
theorem dX5_cost_20 : decode cX5_cost 20 = .ok (.aload_n 0, 1) := dgrp_at dg_b_57 10 rfl
theorem dX5_cost_21 : decode cX5_cost 21 = .ok (.iconst 2, 1) := dgrp_at dg_b_57 11 rfl
theorem dX5_cost_22 : decode cX5_cost 22 = .ok (.iconst 3, 1) := dgrp_at dg_b_57 12 rfl
theorem dX5_cost_23 : decode cX5_cost 23 = .ok (.iload_n 1, 1) := dgrp_at dg_b_57 13 rfl
theorem dX5_cost_24 : decode cX5_cost 24 = .ok (.imul, 1) := dgrp_at dg_b_57 14 rfl
theorem dX5_cost_25 : decode cX5_cost 25 = .ok (.iadd, 1) := dgrp_at dg_b_57 15 rfl
theorem dX5_cost_26 : decode cX5_cost 26 = .ok (.iconst 1, 1) := dgrp_at dg_b_57 16 rfl
theorem dX5_cost_27 : decode cX5_cost 27 = .ok (.iadd, 1) := dgrp_at dg_b_57 17 rfl
theorem dX5_cost_28 : decode cX5_cost 28 = .ok (.iload_n 2, 1) := dgrp_at dg_b_57 18 rfl
theorem dX5_cost_29 : decode cX5_cost 29 = .ok (.invokevirtual 91, 3) := dgrp_at dg_b_57 19 rfl
theorem dX5_cost_32 : decode cX5_cost 32 = .ok (.goto 9, 3) := dgrp_at dg_b_57 20 rfl
theorem dX5_cost_35 : decode cX5_cost 35 = .ok (.aload_n 0, 1) := dgrp_at dg_b_57 21 rfl
theorem dX5_cost_36 : decode cX5_cost 36 = .ok (.ldc 48, 2) := dgrp_at dg_b_57 22 rfl
theorem dX5_cost_38 : decode cX5_cost 38 = .ok (.invokevirtual 50, 3) := dgrp_at dg_b_57 23 rfl
theorem dX5_cost_41 : decode cX5_cost 41 = .ok (.ireturn, 1) := dgrp_at dg_b_57 24 rfl
def dl_b_58 : List (Nat × Instr × Nat) := [(0, .aload_n 0, 1), (1, .iload_n 1, 1), (2, .invokevirtual 87, 3), (5, .ifCond .eq 28, 3), (8, .iload_n 2, 1), (9, .i2l, 1), (10, .lconst 0, 1), (11, .ldc2_w 62, 3), (14, .invokestatic 54, 3), (17, .ifCond .eq 16, 3), (20, .aload_n 0, 1), (21, .iconst 2, 1), (22, .iconst 3, 1), (23, .iload_n 1, 1), (24, .imul, 1), (25, .iadd, 1), (26, .iload_n 2, 1), (27, .invokevirtual 91, 3), (30, .goto 9, 3), (33, .aload_n 0, 1), (34, .ldc 48, 2), (36, .invokevirtual 50, 3), (39, .ireturn, 1)]
theorem dg_b_58 : dgrp cX5_turn dl_b_58 = true := by decide +kernel
theorem dX5_turn_0 : decode cX5_turn 0 = .ok (.aload_n 0, 1) := dgrp_at dg_b_58 0 rfl
theorem dX5_turn_1 : decode cX5_turn 1 = .ok (.iload_n 1, 1) := dgrp_at dg_b_58 1 rfl
theorem dX5_turn_2 : decode cX5_turn 2 = .ok (.invokevirtual 87, 3) := dgrp_at dg_b_58 2 rfl
theorem dX5_turn_5 : decode cX5_turn 5 = .ok (.ifCond .eq 28, 3) := dgrp_at dg_b_58 3 rfl
theorem dX5_turn_8 : decode cX5_turn 8 = .ok (.iload_n 2, 1) := dgrp_at dg_b_58 4 rfl
theorem dX5_turn_9 : decode cX5_turn 9 = .ok (.i2l, 1) := dgrp_at dg_b_58 5 rfl
theorem dX5_turn_10 : decode cX5_turn 10 = .ok (.lconst 0, 1) := dgrp_at dg_b_58 6 rfl
theorem dX5_turn_11 : decode cX5_turn 11 = .ok (.ldc2_w 62, 3) := dgrp_at dg_b_58 7 rfl
theorem dX5_turn_14 : decode cX5_turn 14 = .ok (.invokestatic 54, 3) := dgrp_at dg_b_58 8 rfl
theorem dX5_turn_17 : decode cX5_turn 17 = .ok (.ifCond .eq 16, 3) := dgrp_at dg_b_58 9 rfl
theorem dX5_turn_20 : decode cX5_turn 20 = .ok (.aload_n 0, 1) := dgrp_at dg_b_58 10 rfl
theorem dX5_turn_21 : decode cX5_turn 21 = .ok (.iconst 2, 1) := dgrp_at dg_b_58 11 rfl
theorem dX5_turn_22 : decode cX5_turn 22 = .ok (.iconst 3, 1) := dgrp_at dg_b_58 12 rfl
theorem dX5_turn_23 : decode cX5_turn 23 = .ok (.iload_n 1, 1) := dgrp_at dg_b_58 13 rfl
theorem dX5_turn_24 : decode cX5_turn 24 = .ok (.imul, 1) := dgrp_at dg_b_58 14 rfl
theorem dX5_turn_25 : decode cX5_turn 25 = .ok (.iadd, 1) := dgrp_at dg_b_58 15 rfl
theorem dX5_turn_26 : decode cX5_turn 26 = .ok (.iload_n 2, 1) := dgrp_at dg_b_58 16 rfl
theorem dX5_turn_27 : decode cX5_turn 27 = .ok (.invokevirtual 91, 3) := dgrp_at dg_b_58 17 rfl
theorem dX5_turn_30 : decode cX5_turn 30 = .ok (.goto 9, 3) := dgrp_at dg_b_58 18 rfl
theorem dX5_turn_33 : decode cX5_turn 33 = .ok (.aload_n 0, 1) := dgrp_at dg_b_58 19 rfl
theorem dX5_turn_34 : decode cX5_turn 34 = .ok (.ldc 48, 2) := dgrp_at dg_b_58 20 rfl
theorem dX5_turn_36 : decode cX5_turn 36 = .ok (.invokevirtual 50, 3) := dgrp_at dg_b_58 21 rfl
theorem dX5_turn_39 : decode cX5_turn 39 = .ok (.ireturn, 1) := dgrp_at dg_b_58 22 rfl
def dl_b_59 : List (Nat × Instr × Nat) := [(0, .aload_n 0, 1), (1, .iload_n 1, 1), (2, .invokevirtual 87, 3), (5, .ifCond .eq 15, 3), (8, .iload_n 2, 1), (9, .i2l, 1), (10, .lconst 0, 1), (11, .ldc2_w 62, 3), (14, .invokestatic 54, 3), (17, .ifCond .ne 10, 3), (20, .aload_n 0, 1), (21, .ldc 48, 2), (23, .invokevirtual 50, 3), (26, .ireturn, 1), (27, .aload_n 0, 1), (28, .iload_n 1, 1), (29, .iconst 0, 1), (30, .invokevirtual 70, 3), (33, .istore_n 3, 1), (34, .iload_n 2, 1), (35, .ifCond .eq 28, 3), (38, .iload_n 3, 1), (39, .iload_n 2, 1), (40, .if_icmp .eq 23, 3), (43, .iload_n 2, 1), (44, .iconst 1, 1), (45, .if_icmp .ne 8, 3), (48, .iload_n 3, 1), (49, .iconst 4, 1), (50, .if_icmp .eq 13, 3), (53, .iload_n 2, 1), (54, .iconst 2, 1)]
theorem dg_b_59 : dgrp cX5_as dl_b_59 = true := by decide +kernel
theorem dX5_as_0 : decode cX5_as 0 = .ok (.aload_n 0, 1) := dgrp_at dg_b_59 0 rfl
theorem dX5_as_1 : decode cX5_as 1 = .ok (.iload_n 1, 1) := dgrp_at dg_b_59 1 rfl
theorem dX5_as_2 : decode cX5_as 2 = .ok (.invokevirtual 87, 3) := dgrp_at dg_b_59 2 rfl
theorem dX5_as_5 : decode cX5_as 5 = .ok (.ifCond .eq 15, 3) := dgrp_at dg_b_59 3 rfl
theorem dX5_as_8 : decode cX5_as 8 = .ok (.iload_n 2, 1) := dgrp_at dg_b_59 4 rfl
theorem dX5_as_9 : decode cX5_as 9 = .ok (.i2l, 1) := dgrp_at dg_b_59 5 rfl
theorem dX5_as_10 : decode cX5_as 10 = .ok (.lconst 0, 1) := dgrp_at dg_b_59 6 rfl
theorem dX5_as_11 : decode cX5_as 11 = .ok (.ldc2_w 62, 3) := dgrp_at dg_b_59 7 rfl
theorem dX5_as_14 : decode cX5_as 14 = .ok (.invokestatic 54, 3) := dgrp_at dg_b_59 8 rfl
theorem dX5_as_17 : decode cX5_as 17 = .ok (.ifCond .ne 10, 3) := dgrp_at dg_b_59 9 rfl
theorem dX5_as_20 : decode cX5_as 20 = .ok (.aload_n 0, 1) := dgrp_at dg_b_59 10 rfl
theorem dX5_as_21 : decode cX5_as 21 = .ok (.ldc 48, 2) := dgrp_at dg_b_59 11 rfl
theorem dX5_as_23 : decode cX5_as 23 = .ok (.invokevirtual 50, 3) := dgrp_at dg_b_59 12 rfl
theorem dX5_as_26 : decode cX5_as 26 = .ok (.ireturn, 1) := dgrp_at dg_b_59 13 rfl
theorem dX5_as_27 : decode cX5_as 27 = .ok (.aload_n 0, 1) := dgrp_at dg_b_59 14 rfl
theorem dX5_as_28 : decode cX5_as 28 = .ok (.iload_n 1, 1) := dgrp_at dg_b_59 15 rfl
theorem dX5_as_29 : decode cX5_as 29 = .ok (.iconst 0, 1) := dgrp_at dg_b_59 16 rfl
theorem dX5_as_30 : decode cX5_as 30 = .ok (.invokevirtual 70, 3) := dgrp_at dg_b_59 17 rfl
theorem dX5_as_33 : decode cX5_as 33 = .ok (.istore_n 3, 1) := dgrp_at dg_b_59 18 rfl
theorem dX5_as_34 : decode cX5_as 34 = .ok (.iload_n 2, 1) := dgrp_at dg_b_59 19 rfl
theorem dX5_as_35 : decode cX5_as 35 = .ok (.ifCond .eq 28, 3) := dgrp_at dg_b_59 20 rfl
theorem dX5_as_38 : decode cX5_as 38 = .ok (.iload_n 3, 1) := dgrp_at dg_b_59 21 rfl
theorem dX5_as_39 : decode cX5_as 39 = .ok (.iload_n 2, 1) := dgrp_at dg_b_59 22 rfl
theorem dX5_as_40 : decode cX5_as 40 = .ok (.if_icmp .eq 23, 3) := dgrp_at dg_b_59 23 rfl
theorem dX5_as_43 : decode cX5_as 43 = .ok (.iload_n 2, 1) := dgrp_at dg_b_59 24 rfl
theorem dX5_as_44 : decode cX5_as 44 = .ok (.iconst 1, 1) := dgrp_at dg_b_59 25 rfl
theorem dX5_as_45 : decode cX5_as 45 = .ok (.if_icmp .ne 8, 3) := dgrp_at dg_b_59 26 rfl
theorem dX5_as_48 : decode cX5_as 48 = .ok (.iload_n 3, 1) := dgrp_at dg_b_59 27 rfl
theorem dX5_as_49 : decode cX5_as 49 = .ok (.iconst 4, 1) := dgrp_at dg_b_59 28 rfl
theorem dX5_as_50 : decode cX5_as 50 = .ok (.if_icmp .eq 13, 3) := dgrp_at dg_b_59 29 rfl
theorem dX5_as_53 : decode cX5_as 53 = .ok (.iload_n 2, 1) := dgrp_at dg_b_59 30 rfl
theorem dX5_as_54 : decode cX5_as 54 = .ok (.iconst 2, 1) := dgrp_at dg_b_59 31 rfl
def dl_b_60 : List (Nat × Instr × Nat) := [(55, .if_icmp .ne 12, 3), (58, .iload_n 3, 1), (59, .iconst 5, 1), (60, .if_icmp .ne 7, 3), (63, .iconst 1, 1), (64, .goto 4, 3), (67, .iconst 0, 1), (68, .istore 4, 2), (70, .iload 4, 2), (72, .ifCond .eq 12, 3), (75, .aload_n 0, 1), (76, .iload_n 1, 1), (77, .iconst 1, 1), (78, .invokevirtual 70, 3), (81, .goto 9, 3), (84, .aload_n 0, 1), (85, .ldc 94, 2), (87, .invokevirtual 50, 3), (90, .ireturn, 1)]
theorem dg_b_60 : dgrp cX5_as dl_b_60 = true := by decide +kernel
theorem dX5_as_55 : decode cX5_as 55 = .ok (.if_icmp .ne 12, 3) := dgrp_at dg_b_60 0 rfl
theorem dX5_as_58 : decode cX5_as 58 = .ok (.iload_n 3, 1) := dgrp_at dg_b_60 1 rfl
theorem dX5_as_59 : decode cX5_as 59 = .ok (.iconst 5, 1) := dgrp_at dg_b_60 2 rfl
theorem dX5_as_60 : decode cX5_as 60 = .ok (.if_icmp .ne 7, 3) := dgrp_at dg_b_60 3 rfl
theorem dX5_as_63 : decode cX5_as 63 = .ok (.iconst 1, 1) := dgrp_at dg_b_60 4 rfl
theorem dX5_as_64 : decode cX5_as 64 = .ok (.goto 4, 3) := dgrp_at dg_b_60 5 rfl
theorem dX5_as_67 : decode cX5_as 67 = .ok (.iconst 0, 1) := dgrp_at dg_b_60 6 rfl
theorem dX5_as_68 : decode cX5_as 68 = .ok (.istore 4, 2) := dgrp_at dg_b_60 7 rfl
theorem dX5_as_70 : decode cX5_as 70 = .ok (.iload 4, 2) := dgrp_at dg_b_60 8 rfl
theorem dX5_as_72 : decode cX5_as 72 = .ok (.ifCond .eq 12, 3) := dgrp_at dg_b_60 9 rfl
theorem dX5_as_75 : decode cX5_as 75 = .ok (.aload_n 0, 1) := dgrp_at dg_b_60 10 rfl
theorem dX5_as_76 : decode cX5_as 76 = .ok (.iload_n 1, 1) := dgrp_at dg_b_60 11 rfl
theorem dX5_as_77 : decode cX5_as 77 = .ok (.iconst 1, 1) := dgrp_at dg_b_60 12 rfl
theorem dX5_as_78 : decode cX5_as 78 = .ok (.invokevirtual 70, 3) := dgrp_at dg_b_60 13 rfl
theorem dX5_as_81 : decode cX5_as 81 = .ok (.goto 9, 3) := dgrp_at dg_b_60 14 rfl
theorem dX5_as_84 : decode cX5_as 84 = .ok (.aload_n 0, 1) := dgrp_at dg_b_60 15 rfl
theorem dX5_as_85 : decode cX5_as 85 = .ok (.ldc 94, 2) := dgrp_at dg_b_60 16 rfl
theorem dX5_as_87 : decode cX5_as 87 = .ok (.invokevirtual 50, 3) := dgrp_at dg_b_60 17 rfl
theorem dX5_as_90 : decode cX5_as 90 = .ok (.ireturn, 1) := dgrp_at dg_b_60 18 rfl
def dl_b_61 : List (Nat × Instr × Nat) := [(0, .aload_n 0, 1), (1, .getfield 95, 3), (4, .aload_n 0, 1), (5, .getfield 99, 3), (8, .if_icmp .ge 15, 3), (11, .aload_n 0, 1), (12, .getfield 23, 3), (15, .aload_n 0, 1), (16, .getfield 95, 3), (19, .iaload, 1), (20, .goto 4, 3), (23, .iconst (-1), 1), (24, .ireturn, 1)]
theorem dg_b_61 : dgrp cX5_look dl_b_61 = true := by decide +kernel
theorem dX5_look_0 : decode cX5_look 0 = .ok (.aload_n 0, 1) := dgrp_at dg_b_61 0 rfl
theorem dX5_look_1 : decode cX5_look 1 = .ok (.getfield 95, 3) := dgrp_at dg_b_61 1 rfl
theorem dX5_look_4 : decode cX5_look 4 = .ok (.aload_n 0, 1) := dgrp_at dg_b_61 2 rfl
theorem dX5_look_5 : decode cX5_look 5 = .ok (.getfield 99, 3) := dgrp_at dg_b_61 3 rfl
theorem dX5_look_8 : decode cX5_look 8 = .ok (.if_icmp .ge 15, 3) := dgrp_at dg_b_61 4 rfl
theorem dX5_look_11 : decode cX5_look 11 = .ok (.aload_n 0, 1) := dgrp_at dg_b_61 5 rfl
theorem dX5_look_12 : decode cX5_look 12 = .ok (.getfield 23, 3) := dgrp_at dg_b_61 6 rfl
theorem dX5_look_15 : decode cX5_look 15 = .ok (.aload_n 0, 1) := dgrp_at dg_b_61 7 rfl
theorem dX5_look_16 : decode cX5_look 16 = .ok (.getfield 95, 3) := dgrp_at dg_b_61 8 rfl
theorem dX5_look_19 : decode cX5_look 19 = .ok (.iaload, 1) := dgrp_at dg_b_61 9 rfl
theorem dX5_look_20 : decode cX5_look 20 = .ok (.goto 4, 3) := dgrp_at dg_b_61 10 rfl
theorem dX5_look_23 : decode cX5_look 23 = .ok (.iconst (-1), 1) := dgrp_at dg_b_61 11 rfl
theorem dX5_look_24 : decode cX5_look 24 = .ok (.ireturn, 1) := dgrp_at dg_b_61 12 rfl
def dl_b_62 : List (Nat × Instr × Nat) := [(0, .aload_n 0, 1), (1, .aload_n 0, 1), (2, .getfield 102, 3), (5, .ifCond .ge 10, 3), (8, .aload_n 0, 1), (9, .getfield 95, 3), (12, .goto 7, 3), (15, .aload_n 0, 1), (16, .getfield 102, 3), (19, .putfield 102, 3), (22, .return_, 1)]
theorem dg_b_62 : dgrp cX5_faulty dl_b_62 = true := by decide +kernel
theorem dX5_faulty_0 : decode cX5_faulty 0 = .ok (.aload_n 0, 1) := dgrp_at dg_b_62 0 rfl
theorem dX5_faulty_1 : decode cX5_faulty 1 = .ok (.aload_n 0, 1) := dgrp_at dg_b_62 1 rfl
theorem dX5_faulty_2 : decode cX5_faulty 2 = .ok (.getfield 102, 3) := dgrp_at dg_b_62 2 rfl
theorem dX5_faulty_5 : decode cX5_faulty 5 = .ok (.ifCond .ge 10, 3) := dgrp_at dg_b_62 3 rfl
theorem dX5_faulty_8 : decode cX5_faulty 8 = .ok (.aload_n 0, 1) := dgrp_at dg_b_62 4 rfl
theorem dX5_faulty_9 : decode cX5_faulty 9 = .ok (.getfield 95, 3) := dgrp_at dg_b_62 5 rfl
theorem dX5_faulty_12 : decode cX5_faulty 12 = .ok (.goto 7, 3) := dgrp_at dg_b_62 6 rfl
theorem dX5_faulty_15 : decode cX5_faulty 15 = .ok (.aload_n 0, 1) := dgrp_at dg_b_62 7 rfl
theorem dX5_faulty_16 : decode cX5_faulty 16 = .ok (.getfield 102, 3) := dgrp_at dg_b_62 8 rfl
theorem dX5_faulty_19 : decode cX5_faulty 19 = .ok (.putfield 102, 3) := dgrp_at dg_b_62 9 rfl
theorem dX5_faulty_22 : decode cX5_faulty 22 = .ok (.return_, 1) := dgrp_at dg_b_62 10 rfl
def dl_b_63 : List (Nat × Instr × Nat) := [(0, .aload_n 0, 1), (1, .getfield 26, 3), (4, .aload_n 0, 1), (5, .getfield 105, 3), (8, .iload_n 1, 1), (9, .iastore, 1), (10, .aload_n 0, 1), (11, .dup, 1), (12, .getfield 105, 3), (15, .iconst 1, 1), (16, .iadd, 1), (17, .putfield 105, 3), (20, .aload_n 0, 1), (21, .dup, 1), (22, .getfield 95, 3), (25, .iconst 1, 1), (26, .iadd, 1), (27, .putfield 95, 3), (30, .return_, 1)]
theorem dg_b_63 : dgrp cX5_lay dl_b_63 = true := by decide +kernel
theorem dX5_lay_0 : decode cX5_lay 0 = .ok (.aload_n 0, 1) := dgrp_at dg_b_63 0 rfl
theorem dX5_lay_1 : decode cX5_lay 1 = .ok (.getfield 26, 3) := dgrp_at dg_b_63 1 rfl
theorem dX5_lay_4 : decode cX5_lay 4 = .ok (.aload_n 0, 1) := dgrp_at dg_b_63 2 rfl
theorem dX5_lay_5 : decode cX5_lay 5 = .ok (.getfield 105, 3) := dgrp_at dg_b_63 3 rfl
theorem dX5_lay_8 : decode cX5_lay 8 = .ok (.iload_n 1, 1) := dgrp_at dg_b_63 4 rfl
theorem dX5_lay_9 : decode cX5_lay 9 = .ok (.iastore, 1) := dgrp_at dg_b_63 5 rfl
theorem dX5_lay_10 : decode cX5_lay 10 = .ok (.aload_n 0, 1) := dgrp_at dg_b_63 6 rfl
theorem dX5_lay_11 : decode cX5_lay 11 = .ok (.dup, 1) := dgrp_at dg_b_63 7 rfl
theorem dX5_lay_12 : decode cX5_lay 12 = .ok (.getfield 105, 3) := dgrp_at dg_b_63 8 rfl
theorem dX5_lay_15 : decode cX5_lay 15 = .ok (.iconst 1, 1) := dgrp_at dg_b_63 9 rfl
theorem dX5_lay_16 : decode cX5_lay 16 = .ok (.iadd, 1) := dgrp_at dg_b_63 10 rfl
theorem dX5_lay_17 : decode cX5_lay 17 = .ok (.putfield 105, 3) := dgrp_at dg_b_63 11 rfl
theorem dX5_lay_20 : decode cX5_lay 20 = .ok (.aload_n 0, 1) := dgrp_at dg_b_63 12 rfl
theorem dX5_lay_21 : decode cX5_lay 21 = .ok (.dup, 1) := dgrp_at dg_b_63 13 rfl
theorem dX5_lay_22 : decode cX5_lay 22 = .ok (.getfield 95, 3) := dgrp_at dg_b_63 14 rfl
theorem dX5_lay_25 : decode cX5_lay 25 = .ok (.iconst 1, 1) := dgrp_at dg_b_63 15 rfl
theorem dX5_lay_26 : decode cX5_lay 26 = .ok (.iadd, 1) := dgrp_at dg_b_63 16 rfl
theorem dX5_lay_27 : decode cX5_lay 27 = .ok (.putfield 95, 3) := dgrp_at dg_b_63 17 rfl
theorem dX5_lay_30 : decode cX5_lay 30 = .ok (.return_, 1) := dgrp_at dg_b_63 18 rfl
def dl_b_64 : List (Nat × Instr × Nat) := [(0, .aload_n 0, 1), (1, .getfield 108, 3), (4, .bipush 6, 2), (6, .if_icmp .ne 9, 3), (9, .aload_n 0, 1), (10, .invokevirtual 111, 3), (13, .iconst 0, 1), (14, .ireturn, 1), (15, .aload_n 0, 1), (16, .dup, 1), (17, .getfield 108, 3), (20, .iconst 1, 1), (21, .iadd, 1), (22, .putfield 108, 3), (25, .aload_n 0, 1), (26, .dup, 1), (27, .getfield 95, 3), (30, .iconst 1, 1), (31, .iadd, 1), (32, .putfield 95, 3), (35, .iconst 1, 1), (36, .ireturn, 1)]
theorem dg_b_64 : dgrp cX5_opens dl_b_64 = true := by decide +kernel
theorem dX5_opens_0 : decode cX5_opens 0 = .ok (.aload_n 0, 1) := dgrp_at dg_b_64 0 rfl
theorem dX5_opens_1 : decode cX5_opens 1 = .ok (.getfield 108, 3) := dgrp_at dg_b_64 1 rfl
theorem dX5_opens_4 : decode cX5_opens 4 = .ok (.bipush 6, 2) := dgrp_at dg_b_64 2 rfl
theorem dX5_opens_6 : decode cX5_opens 6 = .ok (.if_icmp .ne 9, 3) := dgrp_at dg_b_64 3 rfl
theorem dX5_opens_9 : decode cX5_opens 9 = .ok (.aload_n 0, 1) := dgrp_at dg_b_64 4 rfl
theorem dX5_opens_10 : decode cX5_opens 10 = .ok (.invokevirtual 111, 3) := dgrp_at dg_b_64 5 rfl
theorem dX5_opens_13 : decode cX5_opens 13 = .ok (.iconst 0, 1) := dgrp_at dg_b_64 6 rfl
theorem dX5_opens_14 : decode cX5_opens 14 = .ok (.ireturn, 1) := dgrp_at dg_b_64 7 rfl
theorem dX5_opens_15 : decode cX5_opens 15 = .ok (.aload_n 0, 1) := dgrp_at dg_b_64 8 rfl
theorem dX5_opens_16 : decode cX5_opens 16 = .ok (.dup, 1) := dgrp_at dg_b_64 9 rfl
theorem dX5_opens_17 : decode cX5_opens 17 = .ok (.getfield 108, 3) := dgrp_at dg_b_64 10 rfl
theorem dX5_opens_20 : decode cX5_opens 20 = .ok (.iconst 1, 1) := dgrp_at dg_b_64 11 rfl
theorem dX5_opens_21 : decode cX5_opens 21 = .ok (.iadd, 1) := dgrp_at dg_b_64 12 rfl
theorem dX5_opens_22 : decode cX5_opens 22 = .ok (.putfield 108, 3) := dgrp_at dg_b_64 13 rfl
theorem dX5_opens_25 : decode cX5_opens 25 = .ok (.aload_n 0, 1) := dgrp_at dg_b_64 14 rfl
theorem dX5_opens_26 : decode cX5_opens 26 = .ok (.dup, 1) := dgrp_at dg_b_64 15 rfl
theorem dX5_opens_27 : decode cX5_opens 27 = .ok (.getfield 95, 3) := dgrp_at dg_b_64 16 rfl
theorem dX5_opens_30 : decode cX5_opens 30 = .ok (.iconst 1, 1) := dgrp_at dg_b_64 17 rfl
theorem dX5_opens_31 : decode cX5_opens 31 = .ok (.iadd, 1) := dgrp_at dg_b_64 18 rfl
theorem dX5_opens_32 : decode cX5_opens 32 = .ok (.putfield 95, 3) := dgrp_at dg_b_64 19 rfl
theorem dX5_opens_35 : decode cX5_opens 35 = .ok (.iconst 1, 1) := dgrp_at dg_b_64 20 rfl
theorem dX5_opens_36 : decode cX5_opens 36 = .ok (.ireturn, 1) := dgrp_at dg_b_64 21 rfl
def dl_b_65 : List (Nat × Instr × Nat) := [(0, .aload_n 0, 1), (1, .dup, 1), (2, .getfield 95, 3), (5, .iconst 1, 1), (6, .iadd, 1), (7, .putfield 95, 3), (10, .aload_n 0, 1), (11, .invokevirtual 114, 3), (14, .istore_n 1, 1), (15, .iload_n 1, 1), (16, .bipush 60, 2), (18, .if_icmp .ne 8, 3), (21, .bipush 100, 2), (23, .goto 26, 3), (26, .iload_n 1, 1), (27, .bipush 61, 2), (29, .if_icmp .ne 8, 3), (32, .bipush 110, 2), (34, .goto 15, 3), (37, .iload_n 1, 1), (38, .bipush 62, 2), (40, .if_icmp .ne 8, 3), (43, .bipush 120, 2), (45, .goto 4, 3), (48, .iconst (-1), 1), (49, .istore_n 2, 1), (50, .iload_n 2, 1), (51, .ifCond .ge 8, 3), (54, .aload_n 0, 1), (55, .invokevirtual 111, 3), (58, .return_, 1), (59, .aload_n 0, 1)]
theorem dg_b_65 : dgrp cX5_counted dl_b_65 = true := by decide +kernel
theorem dX5_counted_0 : decode cX5_counted 0 = .ok (.aload_n 0, 1) := dgrp_at dg_b_65 0 rfl
theorem dX5_counted_1 : decode cX5_counted 1 = .ok (.dup, 1) := dgrp_at dg_b_65 1 rfl
theorem dX5_counted_2 : decode cX5_counted 2 = .ok (.getfield 95, 3) := dgrp_at dg_b_65 2 rfl
theorem dX5_counted_5 : decode cX5_counted 5 = .ok (.iconst 1, 1) := dgrp_at dg_b_65 3 rfl
theorem dX5_counted_6 : decode cX5_counted 6 = .ok (.iadd, 1) := dgrp_at dg_b_65 4 rfl
theorem dX5_counted_7 : decode cX5_counted 7 = .ok (.putfield 95, 3) := dgrp_at dg_b_65 5 rfl
theorem dX5_counted_10 : decode cX5_counted 10 = .ok (.aload_n 0, 1) := dgrp_at dg_b_65 6 rfl
theorem dX5_counted_11 : decode cX5_counted 11 = .ok (.invokevirtual 114, 3) := dgrp_at dg_b_65 7 rfl
theorem dX5_counted_14 : decode cX5_counted 14 = .ok (.istore_n 1, 1) := dgrp_at dg_b_65 8 rfl
theorem dX5_counted_15 : decode cX5_counted 15 = .ok (.iload_n 1, 1) := dgrp_at dg_b_65 9 rfl
theorem dX5_counted_16 : decode cX5_counted 16 = .ok (.bipush 60, 2) := dgrp_at dg_b_65 10 rfl
theorem dX5_counted_18 : decode cX5_counted 18 = .ok (.if_icmp .ne 8, 3) := dgrp_at dg_b_65 11 rfl
theorem dX5_counted_21 : decode cX5_counted 21 = .ok (.bipush 100, 2) := dgrp_at dg_b_65 12 rfl
theorem dX5_counted_23 : decode cX5_counted 23 = .ok (.goto 26, 3) := dgrp_at dg_b_65 13 rfl
theorem dX5_counted_26 : decode cX5_counted 26 = .ok (.iload_n 1, 1) := dgrp_at dg_b_65 14 rfl
theorem dX5_counted_27 : decode cX5_counted 27 = .ok (.bipush 61, 2) := dgrp_at dg_b_65 15 rfl
theorem dX5_counted_29 : decode cX5_counted 29 = .ok (.if_icmp .ne 8, 3) := dgrp_at dg_b_65 16 rfl
theorem dX5_counted_32 : decode cX5_counted 32 = .ok (.bipush 110, 2) := dgrp_at dg_b_65 17 rfl
theorem dX5_counted_34 : decode cX5_counted 34 = .ok (.goto 15, 3) := dgrp_at dg_b_65 18 rfl
theorem dX5_counted_37 : decode cX5_counted 37 = .ok (.iload_n 1, 1) := dgrp_at dg_b_65 19 rfl
theorem dX5_counted_38 : decode cX5_counted 38 = .ok (.bipush 62, 2) := dgrp_at dg_b_65 20 rfl
theorem dX5_counted_40 : decode cX5_counted 40 = .ok (.if_icmp .ne 8, 3) := dgrp_at dg_b_65 21 rfl
theorem dX5_counted_43 : decode cX5_counted 43 = .ok (.bipush 120, 2) := dgrp_at dg_b_65 22 rfl
theorem dX5_counted_45 : decode cX5_counted 45 = .ok (.goto 4, 3) := dgrp_at dg_b_65 23 rfl
theorem dX5_counted_48 : decode cX5_counted 48 = .ok (.iconst (-1), 1) := dgrp_at dg_b_65 24 rfl
theorem dX5_counted_49 : decode cX5_counted 49 = .ok (.istore_n 2, 1) := dgrp_at dg_b_65 25 rfl
theorem dX5_counted_50 : decode cX5_counted 50 = .ok (.iload_n 2, 1) := dgrp_at dg_b_65 26 rfl
theorem dX5_counted_51 : decode cX5_counted 51 = .ok (.ifCond .ge 8, 3) := dgrp_at dg_b_65 27 rfl
theorem dX5_counted_54 : decode cX5_counted 54 = .ok (.aload_n 0, 1) := dgrp_at dg_b_65 28 rfl
theorem dX5_counted_55 : decode cX5_counted 55 = .ok (.invokevirtual 111, 3) := dgrp_at dg_b_65 29 rfl
theorem dX5_counted_58 : decode cX5_counted 58 = .ok (.return_, 1) := dgrp_at dg_b_65 30 rfl
theorem dX5_counted_59 : decode cX5_counted 59 = .ok (.aload_n 0, 1) := dgrp_at dg_b_65 31 rfl
def dl_b_66 : List (Nat × Instr × Nat) := [(60, .dup, 1), (61, .getfield 95, 3), (64, .iconst 1, 1), (65, .iadd, 1), (66, .putfield 95, 3), (69, .aload_n 0, 1), (70, .invokevirtual 114, 3), (73, .i2l, 1), (74, .ldc2_w 117, 3), (77, .ldc2_w 119, 3), (80, .invokestatic 54, 3), (83, .ifCond .ne 8, 3), (86, .aload_n 0, 1), (87, .invokevirtual 111, 3), (90, .return_, 1), (91, .aload_n 0, 1), (92, .iload_n 2, 1), (93, .aload_n 0, 1), (94, .invokevirtual 114, 3), (97, .iadd, 1), (98, .bipush 48, 2), (100, .isub, 1), (101, .invokevirtual 121, 3), (104, .return_, 1)]
theorem dg_b_66 : dgrp cX5_counted dl_b_66 = true := by decide +kernel
theorem dX5_counted_60 : decode cX5_counted 60 = .ok (.dup, 1) := dgrp_at dg_b_66 0 rfl
theorem dX5_counted_61 : decode cX5_counted 61 = .ok (.getfield 95, 3) := dgrp_at dg_b_66 1 rfl
theorem dX5_counted_64 : decode cX5_counted 64 = .ok (.iconst 1, 1) := dgrp_at dg_b_66 2 rfl
theorem dX5_counted_65 : decode cX5_counted 65 = .ok (.iadd, 1) := dgrp_at dg_b_66 3 rfl
theorem dX5_counted_66 : decode cX5_counted 66 = .ok (.putfield 95, 3) := dgrp_at dg_b_66 4 rfl
theorem dX5_counted_69 : decode cX5_counted 69 = .ok (.aload_n 0, 1) := dgrp_at dg_b_66 5 rfl
theorem dX5_counted_70 : decode cX5_counted 70 = .ok (.invokevirtual 114, 3) := dgrp_at dg_b_66 6 rfl
theorem dX5_counted_73 : decode cX5_counted 73 = .ok (.i2l, 1) := dgrp_at dg_b_66 7 rfl
theorem dX5_counted_74 : decode cX5_counted 74 = .ok (.ldc2_w 117, 3) := dgrp_at dg_b_66 8 rfl
theorem dX5_counted_77 : decode cX5_counted 77 = .ok (.ldc2_w 119, 3) := dgrp_at dg_b_66 9 rfl
theorem dX5_counted_80 : decode cX5_counted 80 = .ok (.invokestatic 54, 3) := dgrp_at dg_b_66 10 rfl
theorem dX5_counted_83 : decode cX5_counted 83 = .ok (.ifCond .ne 8, 3) := dgrp_at dg_b_66 11 rfl
theorem dX5_counted_86 : decode cX5_counted 86 = .ok (.aload_n 0, 1) := dgrp_at dg_b_66 12 rfl
theorem dX5_counted_87 : decode cX5_counted 87 = .ok (.invokevirtual 111, 3) := dgrp_at dg_b_66 13 rfl
theorem dX5_counted_90 : decode cX5_counted 90 = .ok (.return_, 1) := dgrp_at dg_b_66 14 rfl
theorem dX5_counted_91 : decode cX5_counted 91 = .ok (.aload_n 0, 1) := dgrp_at dg_b_66 15 rfl
theorem dX5_counted_92 : decode cX5_counted 92 = .ok (.iload_n 2, 1) := dgrp_at dg_b_66 16 rfl
theorem dX5_counted_93 : decode cX5_counted 93 = .ok (.aload_n 0, 1) := dgrp_at dg_b_66 17 rfl
theorem dX5_counted_94 : decode cX5_counted 94 = .ok (.invokevirtual 114, 3) := dgrp_at dg_b_66 18 rfl
theorem dX5_counted_97 : decode cX5_counted 97 = .ok (.iadd, 1) := dgrp_at dg_b_66 19 rfl
theorem dX5_counted_98 : decode cX5_counted 98 = .ok (.bipush 48, 2) := dgrp_at dg_b_66 20 rfl
theorem dX5_counted_100 : decode cX5_counted 100 = .ok (.isub, 1) := dgrp_at dg_b_66 21 rfl
theorem dX5_counted_101 : decode cX5_counted 101 = .ok (.invokevirtual 121, 3) := dgrp_at dg_b_66 22 rfl
theorem dX5_counted_104 : decode cX5_counted 104 = .ok (.return_, 1) := dgrp_at dg_b_66 23 rfl
def dl_b_67 : List (Nat × Instr × Nat) := [(0, .aload_n 0, 1), (1, .invokevirtual 114, 3), (4, .istore_n 1, 1), (5, .iload_n 1, 1), (6, .i2l, 1), (7, .ldc2_w 125, 3), (10, .ldc2_w 127, 3), (13, .invokestatic 54, 3), (16, .ifCond .eq 14, 3), (19, .aload_n 0, 1), (20, .iload_n 1, 1), (21, .bipush 97, 2), (23, .isub, 1), (24, .invokevirtual 121, 3), (27, .goto 166, 3), (30, .iload_n 1, 1), (31, .bipush 48, 2), (33, .if_icmp .eq 9, 3), (36, .iload_n 1, 1), (37, .bipush 49, 2), (39, .if_icmp .ne 25, 3), (42, .aload_n 0, 1), (43, .iload_n 1, 1), (44, .bipush 49, 2), (46, .if_icmp .ne 9, 3), (49, .sipush 130, 3), (52, .goto 6, 3), (55, .sipush 131, 3), (58, .invokevirtual 121, 3), (61, .goto 132, 3), (64, .iload_n 1, 1), (65, .bipush 110, 2)]
theorem dg_b_67 : dgrp cX5_unit dl_b_67 = true := by decide +kernel
theorem dX5_unit_0 : decode cX5_unit 0 = .ok (.aload_n 0, 1) := dgrp_at dg_b_67 0 rfl
theorem dX5_unit_1 : decode cX5_unit 1 = .ok (.invokevirtual 114, 3) := dgrp_at dg_b_67 1 rfl
theorem dX5_unit_4 : decode cX5_unit 4 = .ok (.istore_n 1, 1) := dgrp_at dg_b_67 2 rfl
theorem dX5_unit_5 : decode cX5_unit 5 = .ok (.iload_n 1, 1) := dgrp_at dg_b_67 3 rfl
theorem dX5_unit_6 : decode cX5_unit 6 = .ok (.i2l, 1) := dgrp_at dg_b_67 4 rfl
theorem dX5_unit_7 : decode cX5_unit 7 = .ok (.ldc2_w 125, 3) := dgrp_at dg_b_67 5 rfl
theorem dX5_unit_10 : decode cX5_unit 10 = .ok (.ldc2_w 127, 3) := dgrp_at dg_b_67 6 rfl
theorem dX5_unit_13 : decode cX5_unit 13 = .ok (.invokestatic 54, 3) := dgrp_at dg_b_67 7 rfl
theorem dX5_unit_16 : decode cX5_unit 16 = .ok (.ifCond .eq 14, 3) := dgrp_at dg_b_67 8 rfl
theorem dX5_unit_19 : decode cX5_unit 19 = .ok (.aload_n 0, 1) := dgrp_at dg_b_67 9 rfl
theorem dX5_unit_20 : decode cX5_unit 20 = .ok (.iload_n 1, 1) := dgrp_at dg_b_67 10 rfl
theorem dX5_unit_21 : decode cX5_unit 21 = .ok (.bipush 97, 2) := dgrp_at dg_b_67 11 rfl
theorem dX5_unit_23 : decode cX5_unit 23 = .ok (.isub, 1) := dgrp_at dg_b_67 12 rfl
theorem dX5_unit_24 : decode cX5_unit 24 = .ok (.invokevirtual 121, 3) := dgrp_at dg_b_67 13 rfl
theorem dX5_unit_27 : decode cX5_unit 27 = .ok (.goto 166, 3) := dgrp_at dg_b_67 14 rfl
theorem dX5_unit_30 : decode cX5_unit 30 = .ok (.iload_n 1, 1) := dgrp_at dg_b_67 15 rfl
theorem dX5_unit_31 : decode cX5_unit 31 = .ok (.bipush 48, 2) := dgrp_at dg_b_67 16 rfl
theorem dX5_unit_33 : decode cX5_unit 33 = .ok (.if_icmp .eq 9, 3) := dgrp_at dg_b_67 17 rfl
theorem dX5_unit_36 : decode cX5_unit 36 = .ok (.iload_n 1, 1) := dgrp_at dg_b_67 18 rfl
theorem dX5_unit_37 : decode cX5_unit 37 = .ok (.bipush 49, 2) := dgrp_at dg_b_67 19 rfl
theorem dX5_unit_39 : decode cX5_unit 39 = .ok (.if_icmp .ne 25, 3) := dgrp_at dg_b_67 20 rfl
theorem dX5_unit_42 : decode cX5_unit 42 = .ok (.aload_n 0, 1) := dgrp_at dg_b_67 21 rfl
theorem dX5_unit_43 : decode cX5_unit 43 = .ok (.iload_n 1, 1) := dgrp_at dg_b_67 22 rfl
theorem dX5_unit_44 : decode cX5_unit 44 = .ok (.bipush 49, 2) := dgrp_at dg_b_67 23 rfl
theorem dX5_unit_46 : decode cX5_unit 46 = .ok (.if_icmp .ne 9, 3) := dgrp_at dg_b_67 24 rfl
theorem dX5_unit_49 : decode cX5_unit 49 = .ok (.sipush 130, 3) := dgrp_at dg_b_67 25 rfl
theorem dX5_unit_52 : decode cX5_unit 52 = .ok (.goto 6, 3) := dgrp_at dg_b_67 26 rfl
theorem dX5_unit_55 : decode cX5_unit 55 = .ok (.sipush 131, 3) := dgrp_at dg_b_67 27 rfl
theorem dX5_unit_58 : decode cX5_unit 58 = .ok (.invokevirtual 121, 3) := dgrp_at dg_b_67 28 rfl
theorem dX5_unit_61 : decode cX5_unit 61 = .ok (.goto 132, 3) := dgrp_at dg_b_67 29 rfl
theorem dX5_unit_64 : decode cX5_unit 64 = .ok (.iload_n 1, 1) := dgrp_at dg_b_67 30 rfl
theorem dX5_unit_65 : decode cX5_unit 65 = .ok (.bipush 110, 2) := dgrp_at dg_b_67 31 rfl
def dl_b_68 : List (Nat × Instr × Nat) := [(67, .if_icmp .ne 10, 3), (70, .aload_n 0, 1), (71, .invokevirtual 129, 3), (74, .goto 119, 3), (77, .iload_n 1, 1), (78, .bipush 33, 2), (80, .if_icmp .ne 49, 3), (83, .aload_n 0, 1), (84, .invokevirtual 132, 3), (87, .ifCond .eq 42, 3), (90, .aload_n 0, 1), (91, .invokevirtual 136, 3), (94, .aload_n 0, 1), (95, .dup, 1), (96, .getfield 108, 3), (99, .iconst 1, 1), (100, .isub, 1), (101, .putfield 108, 3), (104, .aload_n 0, 1), (105, .getfield 26, 3), (108, .aload_n 0, 1), (109, .getfield 105, 3), (112, .sipush 140, 3), (115, .iastore, 1), (116, .aload_n 0, 1), (117, .dup, 1), (118, .getfield 105, 3), (121, .iconst 1, 1), (122, .iadd, 1), (123, .putfield 105, 3), (126, .goto 67, 3), (129, .iload_n 1, 1)]
theorem dg_b_68 : dgrp cX5_unit dl_b_68 = true := by decide +kernel
theorem dX5_unit_67 : decode cX5_unit 67 = .ok (.if_icmp .ne 10, 3) := dgrp_at dg_b_68 0 rfl
theorem dX5_unit_70 : decode cX5_unit 70 = .ok (.aload_n 0, 1) := dgrp_at dg_b_68 1 rfl
theorem dX5_unit_71 : decode cX5_unit 71 = .ok (.invokevirtual 129, 3) := dgrp_at dg_b_68 2 rfl
theorem dX5_unit_74 : decode cX5_unit 74 = .ok (.goto 119, 3) := dgrp_at dg_b_68 3 rfl
theorem dX5_unit_77 : decode cX5_unit 77 = .ok (.iload_n 1, 1) := dgrp_at dg_b_68 4 rfl
theorem dX5_unit_78 : decode cX5_unit 78 = .ok (.bipush 33, 2) := dgrp_at dg_b_68 5 rfl
theorem dX5_unit_80 : decode cX5_unit 80 = .ok (.if_icmp .ne 49, 3) := dgrp_at dg_b_68 6 rfl
theorem dX5_unit_83 : decode cX5_unit 83 = .ok (.aload_n 0, 1) := dgrp_at dg_b_68 7 rfl
theorem dX5_unit_84 : decode cX5_unit 84 = .ok (.invokevirtual 132, 3) := dgrp_at dg_b_68 8 rfl
theorem dX5_unit_87 : decode cX5_unit 87 = .ok (.ifCond .eq 42, 3) := dgrp_at dg_b_68 9 rfl
theorem dX5_unit_90 : decode cX5_unit 90 = .ok (.aload_n 0, 1) := dgrp_at dg_b_68 10 rfl
theorem dX5_unit_91 : decode cX5_unit 91 = .ok (.invokevirtual 136, 3) := dgrp_at dg_b_68 11 rfl
theorem dX5_unit_94 : decode cX5_unit 94 = .ok (.aload_n 0, 1) := dgrp_at dg_b_68 12 rfl
theorem dX5_unit_95 : decode cX5_unit 95 = .ok (.dup, 1) := dgrp_at dg_b_68 13 rfl
theorem dX5_unit_96 : decode cX5_unit 96 = .ok (.getfield 108, 3) := dgrp_at dg_b_68 14 rfl
theorem dX5_unit_99 : decode cX5_unit 99 = .ok (.iconst 1, 1) := dgrp_at dg_b_68 15 rfl
theorem dX5_unit_100 : decode cX5_unit 100 = .ok (.isub, 1) := dgrp_at dg_b_68 16 rfl
theorem dX5_unit_101 : decode cX5_unit 101 = .ok (.putfield 108, 3) := dgrp_at dg_b_68 17 rfl
theorem dX5_unit_104 : decode cX5_unit 104 = .ok (.aload_n 0, 1) := dgrp_at dg_b_68 18 rfl
theorem dX5_unit_105 : decode cX5_unit 105 = .ok (.getfield 26, 3) := dgrp_at dg_b_68 19 rfl
theorem dX5_unit_108 : decode cX5_unit 108 = .ok (.aload_n 0, 1) := dgrp_at dg_b_68 20 rfl
theorem dX5_unit_109 : decode cX5_unit 109 = .ok (.getfield 105, 3) := dgrp_at dg_b_68 21 rfl
theorem dX5_unit_112 : decode cX5_unit 112 = .ok (.sipush 140, 3) := dgrp_at dg_b_68 22 rfl
theorem dX5_unit_115 : decode cX5_unit 115 = .ok (.iastore, 1) := dgrp_at dg_b_68 23 rfl
theorem dX5_unit_116 : decode cX5_unit 116 = .ok (.aload_n 0, 1) := dgrp_at dg_b_68 24 rfl
theorem dX5_unit_117 : decode cX5_unit 117 = .ok (.dup, 1) := dgrp_at dg_b_68 25 rfl
theorem dX5_unit_118 : decode cX5_unit 118 = .ok (.getfield 105, 3) := dgrp_at dg_b_68 26 rfl
theorem dX5_unit_121 : decode cX5_unit 121 = .ok (.iconst 1, 1) := dgrp_at dg_b_68 27 rfl
theorem dX5_unit_122 : decode cX5_unit 122 = .ok (.iadd, 1) := dgrp_at dg_b_68 28 rfl
theorem dX5_unit_123 : decode cX5_unit 123 = .ok (.putfield 105, 3) := dgrp_at dg_b_68 29 rfl
theorem dX5_unit_126 : decode cX5_unit 126 = .ok (.goto 67, 3) := dgrp_at dg_b_68 30 rfl
theorem dX5_unit_129 : decode cX5_unit 129 = .ok (.iload_n 1, 1) := dgrp_at dg_b_68 31 rfl
def dl_b_69 : List (Nat × Instr × Nat) := [(130, .bipush 40, 2), (132, .if_icmp .ne 57, 3), (135, .aload_n 0, 1), (136, .invokevirtual 132, 3), (139, .ifCond .eq 50, 3), (142, .aload_n 0, 1), (143, .invokevirtual 139, 3), (146, .aload_n 0, 1), (147, .getfield 102, 3), (150, .ifCond .ge 16, 3), (153, .aload_n 0, 1), (154, .invokevirtual 114, 3), (157, .bipush 41, 2), (159, .if_icmp .eq 7, 3), (162, .aload_n 0, 1), (163, .invokevirtual 111, 3), (166, .aload_n 0, 1), (167, .dup, 1), (168, .getfield 95, 3), (171, .iconst 1, 1), (172, .iadd, 1), (173, .putfield 95, 3), (176, .aload_n 0, 1), (177, .dup, 1), (178, .getfield 108, 3), (181, .iconst 1, 1), (182, .isub, 1), (183, .putfield 108, 3), (186, .goto 7, 3), (189, .aload_n 0, 1), (190, .invokevirtual 111, 3), (193, .return_, 1)]
theorem dg_b_69 : dgrp cX5_unit dl_b_69 = true := by decide +kernel
theorem dX5_unit_130 : decode cX5_unit 130 = .ok (.bipush 40, 2) := dgrp_at dg_b_69 0 rfl
theorem dX5_unit_132 : decode cX5_unit 132 = .ok (.if_icmp .ne 57, 3) := dgrp_at dg_b_69 1 rfl
theorem dX5_unit_135 : decode cX5_unit 135 = .ok (.aload_n 0, 1) := dgrp_at dg_b_69 2 rfl
theorem dX5_unit_136 : decode cX5_unit 136 = .ok (.invokevirtual 132, 3) := dgrp_at dg_b_69 3 rfl
theorem dX5_unit_139 : decode cX5_unit 139 = .ok (.ifCond .eq 50, 3) := dgrp_at dg_b_69 4 rfl
theorem dX5_unit_142 : decode cX5_unit 142 = .ok (.aload_n 0, 1) := dgrp_at dg_b_69 5 rfl
theorem dX5_unit_143 : decode cX5_unit 143 = .ok (.invokevirtual 139, 3) := dgrp_at dg_b_69 6 rfl
theorem dX5_unit_146 : decode cX5_unit 146 = .ok (.aload_n 0, 1) := dgrp_at dg_b_69 7 rfl
theorem dX5_unit_147 : decode cX5_unit 147 = .ok (.getfield 102, 3) := dgrp_at dg_b_69 8 rfl
theorem dX5_unit_150 : decode cX5_unit 150 = .ok (.ifCond .ge 16, 3) := dgrp_at dg_b_69 9 rfl
theorem dX5_unit_153 : decode cX5_unit 153 = .ok (.aload_n 0, 1) := dgrp_at dg_b_69 10 rfl
theorem dX5_unit_154 : decode cX5_unit 154 = .ok (.invokevirtual 114, 3) := dgrp_at dg_b_69 11 rfl
theorem dX5_unit_157 : decode cX5_unit 157 = .ok (.bipush 41, 2) := dgrp_at dg_b_69 12 rfl
theorem dX5_unit_159 : decode cX5_unit 159 = .ok (.if_icmp .eq 7, 3) := dgrp_at dg_b_69 13 rfl
theorem dX5_unit_162 : decode cX5_unit 162 = .ok (.aload_n 0, 1) := dgrp_at dg_b_69 14 rfl
theorem dX5_unit_163 : decode cX5_unit 163 = .ok (.invokevirtual 111, 3) := dgrp_at dg_b_69 15 rfl
theorem dX5_unit_166 : decode cX5_unit 166 = .ok (.aload_n 0, 1) := dgrp_at dg_b_69 16 rfl
theorem dX5_unit_167 : decode cX5_unit 167 = .ok (.dup, 1) := dgrp_at dg_b_69 17 rfl
theorem dX5_unit_168 : decode cX5_unit 168 = .ok (.getfield 95, 3) := dgrp_at dg_b_69 18 rfl
theorem dX5_unit_171 : decode cX5_unit 171 = .ok (.iconst 1, 1) := dgrp_at dg_b_69 19 rfl
theorem dX5_unit_172 : decode cX5_unit 172 = .ok (.iadd, 1) := dgrp_at dg_b_69 20 rfl
theorem dX5_unit_173 : decode cX5_unit 173 = .ok (.putfield 95, 3) := dgrp_at dg_b_69 21 rfl
theorem dX5_unit_176 : decode cX5_unit 176 = .ok (.aload_n 0, 1) := dgrp_at dg_b_69 22 rfl
theorem dX5_unit_177 : decode cX5_unit 177 = .ok (.dup, 1) := dgrp_at dg_b_69 23 rfl
theorem dX5_unit_178 : decode cX5_unit 178 = .ok (.getfield 108, 3) := dgrp_at dg_b_69 24 rfl
theorem dX5_unit_181 : decode cX5_unit 181 = .ok (.iconst 1, 1) := dgrp_at dg_b_69 25 rfl
theorem dX5_unit_182 : decode cX5_unit 182 = .ok (.isub, 1) := dgrp_at dg_b_69 26 rfl
theorem dX5_unit_183 : decode cX5_unit 183 = .ok (.putfield 108, 3) := dgrp_at dg_b_69 27 rfl
theorem dX5_unit_186 : decode cX5_unit 186 = .ok (.goto 7, 3) := dgrp_at dg_b_69 28 rfl
theorem dX5_unit_189 : decode cX5_unit 189 = .ok (.aload_n 0, 1) := dgrp_at dg_b_69 29 rfl
theorem dX5_unit_190 : decode cX5_unit 190 = .ok (.invokevirtual 111, 3) := dgrp_at dg_b_69 30 rfl
theorem dX5_unit_193 : decode cX5_unit 193 = .ok (.return_, 1) := dgrp_at dg_b_69 31 rfl
def dl_b_70 : List (Nat × Instr × Nat) := [(0, .aload_n 0, 1), (1, .invokevirtual 136, 3), (4, .aload_n 0, 1), (5, .getfield 102, 3), (8, .ifCond .ge 51, 3), (11, .aload_n 0, 1), (12, .invokevirtual 114, 3), (15, .bipush 38, 2), (17, .if_icmp .ne 42, 3), (20, .aload_n 0, 1), (21, .dup, 1), (22, .getfield 95, 3), (25, .iconst 1, 1), (26, .iadd, 1), (27, .putfield 95, 3), (30, .aload_n 0, 1), (31, .invokevirtual 136, 3), (34, .aload_n 0, 1), (35, .getfield 26, 3), (38, .aload_n 0, 1), (39, .getfield 105, 3), (42, .sipush 141, 3), (45, .iastore, 1), (46, .aload_n 0, 1), (47, .dup, 1), (48, .getfield 105, 3), (51, .iconst 1, 1), (52, .iadd, 1), (53, .putfield 105, 3), (56, .goto (-52), 3), (59, .return_, 1)]
theorem dg_b_70 : dgrp cX5_every dl_b_70 = true := by decide +kernel
theorem dX5_every_0 : decode cX5_every 0 = .ok (.aload_n 0, 1) := dgrp_at dg_b_70 0 rfl
theorem dX5_every_1 : decode cX5_every 1 = .ok (.invokevirtual 136, 3) := dgrp_at dg_b_70 1 rfl
theorem dX5_every_4 : decode cX5_every 4 = .ok (.aload_n 0, 1) := dgrp_at dg_b_70 2 rfl
theorem dX5_every_5 : decode cX5_every 5 = .ok (.getfield 102, 3) := dgrp_at dg_b_70 3 rfl
theorem dX5_every_8 : decode cX5_every 8 = .ok (.ifCond .ge 51, 3) := dgrp_at dg_b_70 4 rfl
theorem dX5_every_11 : decode cX5_every 11 = .ok (.aload_n 0, 1) := dgrp_at dg_b_70 5 rfl
theorem dX5_every_12 : decode cX5_every 12 = .ok (.invokevirtual 114, 3) := dgrp_at dg_b_70 6 rfl
theorem dX5_every_15 : decode cX5_every 15 = .ok (.bipush 38, 2) := dgrp_at dg_b_70 7 rfl
theorem dX5_every_17 : decode cX5_every 17 = .ok (.if_icmp .ne 42, 3) := dgrp_at dg_b_70 8 rfl
theorem dX5_every_20 : decode cX5_every 20 = .ok (.aload_n 0, 1) := dgrp_at dg_b_70 9 rfl
theorem dX5_every_21 : decode cX5_every 21 = .ok (.dup, 1) := dgrp_at dg_b_70 10 rfl
theorem dX5_every_22 : decode cX5_every 22 = .ok (.getfield 95, 3) := dgrp_at dg_b_70 11 rfl
theorem dX5_every_25 : decode cX5_every 25 = .ok (.iconst 1, 1) := dgrp_at dg_b_70 12 rfl
theorem dX5_every_26 : decode cX5_every 26 = .ok (.iadd, 1) := dgrp_at dg_b_70 13 rfl
theorem dX5_every_27 : decode cX5_every 27 = .ok (.putfield 95, 3) := dgrp_at dg_b_70 14 rfl
theorem dX5_every_30 : decode cX5_every 30 = .ok (.aload_n 0, 1) := dgrp_at dg_b_70 15 rfl
theorem dX5_every_31 : decode cX5_every 31 = .ok (.invokevirtual 136, 3) := dgrp_at dg_b_70 16 rfl
theorem dX5_every_34 : decode cX5_every 34 = .ok (.aload_n 0, 1) := dgrp_at dg_b_70 17 rfl
theorem dX5_every_35 : decode cX5_every 35 = .ok (.getfield 26, 3) := dgrp_at dg_b_70 18 rfl
theorem dX5_every_38 : decode cX5_every 38 = .ok (.aload_n 0, 1) := dgrp_at dg_b_70 19 rfl
theorem dX5_every_39 : decode cX5_every 39 = .ok (.getfield 105, 3) := dgrp_at dg_b_70 20 rfl
theorem dX5_every_42 : decode cX5_every 42 = .ok (.sipush 141, 3) := dgrp_at dg_b_70 21 rfl
theorem dX5_every_45 : decode cX5_every 45 = .ok (.iastore, 1) := dgrp_at dg_b_70 22 rfl
theorem dX5_every_46 : decode cX5_every 46 = .ok (.aload_n 0, 1) := dgrp_at dg_b_70 23 rfl
theorem dX5_every_47 : decode cX5_every 47 = .ok (.dup, 1) := dgrp_at dg_b_70 24 rfl
theorem dX5_every_48 : decode cX5_every 48 = .ok (.getfield 105, 3) := dgrp_at dg_b_70 25 rfl
theorem dX5_every_51 : decode cX5_every 51 = .ok (.iconst 1, 1) := dgrp_at dg_b_70 26 rfl
theorem dX5_every_52 : decode cX5_every 52 = .ok (.iadd, 1) := dgrp_at dg_b_70 27 rfl
theorem dX5_every_53 : decode cX5_every 53 = .ok (.putfield 105, 3) := dgrp_at dg_b_70 28 rfl
theorem dX5_every_56 : decode cX5_every 56 = .ok (.goto (-52), 3) := dgrp_at dg_b_70 29 rfl
theorem dX5_every_59 : decode cX5_every 59 = .ok (.return_, 1) := dgrp_at dg_b_70 30 rfl
def dl_b_71 : List (Nat × Instr × Nat) := [(0, .aload_n 0, 1), (1, .invokevirtual 142, 3), (4, .aload_n 0, 1), (5, .getfield 102, 3), (8, .ifCond .ge 51, 3), (11, .aload_n 0, 1), (12, .invokevirtual 114, 3), (15, .bipush 124, 2), (17, .if_icmp .ne 42, 3), (20, .aload_n 0, 1), (21, .dup, 1), (22, .getfield 95, 3), (25, .iconst 1, 1), (26, .iadd, 1), (27, .putfield 95, 3), (30, .aload_n 0, 1), (31, .invokevirtual 142, 3), (34, .aload_n 0, 1), (35, .getfield 26, 3), (38, .aload_n 0, 1), (39, .getfield 105, 3), (42, .sipush 142, 3), (45, .iastore, 1), (46, .aload_n 0, 1), (47, .dup, 1), (48, .getfield 105, 3), (51, .iconst 1, 1), (52, .iadd, 1), (53, .putfield 105, 3), (56, .goto (-52), 3), (59, .return_, 1)]
theorem dg_b_71 : dgrp cX5_any dl_b_71 = true := by decide +kernel
theorem dX5_any_0 : decode cX5_any 0 = .ok (.aload_n 0, 1) := dgrp_at dg_b_71 0 rfl
theorem dX5_any_1 : decode cX5_any 1 = .ok (.invokevirtual 142, 3) := dgrp_at dg_b_71 1 rfl
theorem dX5_any_4 : decode cX5_any 4 = .ok (.aload_n 0, 1) := dgrp_at dg_b_71 2 rfl
theorem dX5_any_5 : decode cX5_any 5 = .ok (.getfield 102, 3) := dgrp_at dg_b_71 3 rfl
theorem dX5_any_8 : decode cX5_any 8 = .ok (.ifCond .ge 51, 3) := dgrp_at dg_b_71 4 rfl
theorem dX5_any_11 : decode cX5_any 11 = .ok (.aload_n 0, 1) := dgrp_at dg_b_71 5 rfl
theorem dX5_any_12 : decode cX5_any 12 = .ok (.invokevirtual 114, 3) := dgrp_at dg_b_71 6 rfl
theorem dX5_any_15 : decode cX5_any 15 = .ok (.bipush 124, 2) := dgrp_at dg_b_71 7 rfl
theorem dX5_any_17 : decode cX5_any 17 = .ok (.if_icmp .ne 42, 3) := dgrp_at dg_b_71 8 rfl
theorem dX5_any_20 : decode cX5_any 20 = .ok (.aload_n 0, 1) := dgrp_at dg_b_71 9 rfl
theorem dX5_any_21 : decode cX5_any 21 = .ok (.dup, 1) := dgrp_at dg_b_71 10 rfl
theorem dX5_any_22 : decode cX5_any 22 = .ok (.getfield 95, 3) := dgrp_at dg_b_71 11 rfl
theorem dX5_any_25 : decode cX5_any 25 = .ok (.iconst 1, 1) := dgrp_at dg_b_71 12 rfl
theorem dX5_any_26 : decode cX5_any 26 = .ok (.iadd, 1) := dgrp_at dg_b_71 13 rfl
theorem dX5_any_27 : decode cX5_any 27 = .ok (.putfield 95, 3) := dgrp_at dg_b_71 14 rfl
theorem dX5_any_30 : decode cX5_any 30 = .ok (.aload_n 0, 1) := dgrp_at dg_b_71 15 rfl
theorem dX5_any_31 : decode cX5_any 31 = .ok (.invokevirtual 142, 3) := dgrp_at dg_b_71 16 rfl
theorem dX5_any_34 : decode cX5_any 34 = .ok (.aload_n 0, 1) := dgrp_at dg_b_71 17 rfl
theorem dX5_any_35 : decode cX5_any 35 = .ok (.getfield 26, 3) := dgrp_at dg_b_71 18 rfl
theorem dX5_any_38 : decode cX5_any 38 = .ok (.aload_n 0, 1) := dgrp_at dg_b_71 19 rfl
theorem dX5_any_39 : decode cX5_any 39 = .ok (.getfield 105, 3) := dgrp_at dg_b_71 20 rfl
theorem dX5_any_42 : decode cX5_any 42 = .ok (.sipush 142, 3) := dgrp_at dg_b_71 21 rfl
theorem dX5_any_45 : decode cX5_any 45 = .ok (.iastore, 1) := dgrp_at dg_b_71 22 rfl
theorem dX5_any_46 : decode cX5_any 46 = .ok (.aload_n 0, 1) := dgrp_at dg_b_71 23 rfl
theorem dX5_any_47 : decode cX5_any 47 = .ok (.dup, 1) := dgrp_at dg_b_71 24 rfl
theorem dX5_any_48 : decode cX5_any 48 = .ok (.getfield 105, 3) := dgrp_at dg_b_71 25 rfl
theorem dX5_any_51 : decode cX5_any 51 = .ok (.iconst 1, 1) := dgrp_at dg_b_71 26 rfl
theorem dX5_any_52 : decode cX5_any 52 = .ok (.iadd, 1) := dgrp_at dg_b_71 27 rfl
theorem dX5_any_53 : decode cX5_any 53 = .ok (.putfield 105, 3) := dgrp_at dg_b_71 28 rfl
theorem dX5_any_56 : decode cX5_any 56 = .ok (.goto (-52), 3) := dgrp_at dg_b_71 29 rfl
theorem dX5_any_59 : decode cX5_any 59 = .ok (.return_, 1) := dgrp_at dg_b_71 30 rfl
def dl_b_72 : List (Nat × Instr × Nat) := [(0, .aload_n 0, 1), (1, .iload_n 1, 1), (2, .invokevirtual 87, 3), (5, .ifCond .ne 10, 3), (8, .aload_n 0, 1), (9, .ldc 48, 2), (11, .invokevirtual 50, 3), (14, .ireturn, 1), (15, .aload_n 0, 1), (16, .iconst 0, 1), (17, .putfield 95, 3), (20, .aload_n 0, 1), (21, .iconst (-1), 1), (22, .putfield 102, 3), (25, .aload_n 0, 1), (26, .iconst 0, 1), (27, .putfield 105, 3), (30, .aload_n 0, 1), (31, .iconst 0, 1), (32, .putfield 108, 3), (35, .aload_n 0, 1), (36, .invokevirtual 139, 3), (39, .aload_n 0, 1), (40, .getfield 102, 3), (43, .ifCond .ge 18, 3), (46, .aload_n 0, 1), (47, .getfield 95, 3), (50, .aload_n 0, 1), (51, .getfield 99, 3), (54, .if_icmp .ge 7, 3), (57, .aload_n 0, 1), (58, .invokevirtual 111, 3)]
theorem dg_b_72 : dgrp cX5_term dl_b_72 = true := by decide +kernel
theorem dX5_term_0 : decode cX5_term 0 = .ok (.aload_n 0, 1) := dgrp_at dg_b_72 0 rfl
theorem dX5_term_1 : decode cX5_term 1 = .ok (.iload_n 1, 1) := dgrp_at dg_b_72 1 rfl
theorem dX5_term_2 : decode cX5_term 2 = .ok (.invokevirtual 87, 3) := dgrp_at dg_b_72 2 rfl
theorem dX5_term_5 : decode cX5_term 5 = .ok (.ifCond .ne 10, 3) := dgrp_at dg_b_72 3 rfl
theorem dX5_term_8 : decode cX5_term 8 = .ok (.aload_n 0, 1) := dgrp_at dg_b_72 4 rfl
theorem dX5_term_9 : decode cX5_term 9 = .ok (.ldc 48, 2) := dgrp_at dg_b_72 5 rfl
theorem dX5_term_11 : decode cX5_term 11 = .ok (.invokevirtual 50, 3) := dgrp_at dg_b_72 6 rfl
theorem dX5_term_14 : decode cX5_term 14 = .ok (.ireturn, 1) := dgrp_at dg_b_72 7 rfl
theorem dX5_term_15 : decode cX5_term 15 = .ok (.aload_n 0, 1) := dgrp_at dg_b_72 8 rfl
theorem dX5_term_16 : decode cX5_term 16 = .ok (.iconst 0, 1) := dgrp_at dg_b_72 9 rfl
theorem dX5_term_17 : decode cX5_term 17 = .ok (.putfield 95, 3) := dgrp_at dg_b_72 10 rfl
theorem dX5_term_20 : decode cX5_term 20 = .ok (.aload_n 0, 1) := dgrp_at dg_b_72 11 rfl
theorem dX5_term_21 : decode cX5_term 21 = .ok (.iconst (-1), 1) := dgrp_at dg_b_72 12 rfl
theorem dX5_term_22 : decode cX5_term 22 = .ok (.putfield 102, 3) := dgrp_at dg_b_72 13 rfl
theorem dX5_term_25 : decode cX5_term 25 = .ok (.aload_n 0, 1) := dgrp_at dg_b_72 14 rfl
theorem dX5_term_26 : decode cX5_term 26 = .ok (.iconst 0, 1) := dgrp_at dg_b_72 15 rfl
theorem dX5_term_27 : decode cX5_term 27 = .ok (.putfield 105, 3) := dgrp_at dg_b_72 16 rfl
theorem dX5_term_30 : decode cX5_term 30 = .ok (.aload_n 0, 1) := dgrp_at dg_b_72 17 rfl
theorem dX5_term_31 : decode cX5_term 31 = .ok (.iconst 0, 1) := dgrp_at dg_b_72 18 rfl
theorem dX5_term_32 : decode cX5_term 32 = .ok (.putfield 108, 3) := dgrp_at dg_b_72 19 rfl
theorem dX5_term_35 : decode cX5_term 35 = .ok (.aload_n 0, 1) := dgrp_at dg_b_72 20 rfl
theorem dX5_term_36 : decode cX5_term 36 = .ok (.invokevirtual 139, 3) := dgrp_at dg_b_72 21 rfl
theorem dX5_term_39 : decode cX5_term 39 = .ok (.aload_n 0, 1) := dgrp_at dg_b_72 22 rfl
theorem dX5_term_40 : decode cX5_term 40 = .ok (.getfield 102, 3) := dgrp_at dg_b_72 23 rfl
theorem dX5_term_43 : decode cX5_term 43 = .ok (.ifCond .ge 18, 3) := dgrp_at dg_b_72 24 rfl
theorem dX5_term_46 : decode cX5_term 46 = .ok (.aload_n 0, 1) := dgrp_at dg_b_72 25 rfl
theorem dX5_term_47 : decode cX5_term 47 = .ok (.getfield 95, 3) := dgrp_at dg_b_72 26 rfl
theorem dX5_term_50 : decode cX5_term 50 = .ok (.aload_n 0, 1) := dgrp_at dg_b_72 27 rfl
theorem dX5_term_51 : decode cX5_term 51 = .ok (.getfield 99, 3) := dgrp_at dg_b_72 28 rfl
theorem dX5_term_54 : decode cX5_term 54 = .ok (.if_icmp .ge 7, 3) := dgrp_at dg_b_72 29 rfl
theorem dX5_term_57 : decode cX5_term 57 = .ok (.aload_n 0, 1) := dgrp_at dg_b_72 30 rfl
theorem dX5_term_58 : decode cX5_term 58 = .ok (.invokevirtual 111, 3) := dgrp_at dg_b_72 31 rfl
def dl_b_73 : List (Nat × Instr × Nat) := [(61, .aload_n 0, 1), (62, .iconst 0, 1), (63, .putfield 99, 3), (66, .aload_n 0, 1), (67, .getfield 102, 3), (70, .ifCond .lt 10, 3), (73, .iconst (-1), 1), (74, .aload_n 0, 1), (75, .getfield 102, 3), (78, .isub, 1), (79, .ireturn, 1), (80, .iconst 0, 1), (81, .istore_n 2, 1), (82, .iload_n 2, 1), (83, .aload_n 0, 1), (84, .getfield 105, 3), (87, .if_icmp .ge 29, 3), (90, .aload_n 0, 1), (91, .getfield 7, 3), (94, .bipush 26, 2), (96, .bipush 64, 2), (98, .iload_n 1, 1), (99, .imul, 1), (100, .iadd, 1), (101, .iload_n 2, 1), (102, .iadd, 1), (103, .aload_n 0, 1), (104, .getfield 26, 3), (107, .iload_n 2, 1), (108, .iaload, 1), (109, .iastore, 1), (110, .iinc 2 1, 3)]
theorem dg_b_73 : dgrp cX5_term dl_b_73 = true := by decide +kernel
theorem dX5_term_61 : decode cX5_term 61 = .ok (.aload_n 0, 1) := dgrp_at dg_b_73 0 rfl
theorem dX5_term_62 : decode cX5_term 62 = .ok (.iconst 0, 1) := dgrp_at dg_b_73 1 rfl
theorem dX5_term_63 : decode cX5_term 63 = .ok (.putfield 99, 3) := dgrp_at dg_b_73 2 rfl
theorem dX5_term_66 : decode cX5_term 66 = .ok (.aload_n 0, 1) := dgrp_at dg_b_73 3 rfl
theorem dX5_term_67 : decode cX5_term 67 = .ok (.getfield 102, 3) := dgrp_at dg_b_73 4 rfl
theorem dX5_term_70 : decode cX5_term 70 = .ok (.ifCond .lt 10, 3) := dgrp_at dg_b_73 5 rfl
theorem dX5_term_73 : decode cX5_term 73 = .ok (.iconst (-1), 1) := dgrp_at dg_b_73 6 rfl
theorem dX5_term_74 : decode cX5_term 74 = .ok (.aload_n 0, 1) := dgrp_at dg_b_73 7 rfl
theorem dX5_term_75 : decode cX5_term 75 = .ok (.getfield 102, 3) := dgrp_at dg_b_73 8 rfl
theorem dX5_term_78 : decode cX5_term 78 = .ok (.isub, 1) := dgrp_at dg_b_73 9 rfl
theorem dX5_term_79 : decode cX5_term 79 = .ok (.ireturn, 1) := dgrp_at dg_b_73 10 rfl
theorem dX5_term_80 : decode cX5_term 80 = .ok (.iconst 0, 1) := dgrp_at dg_b_73 11 rfl
theorem dX5_term_81 : decode cX5_term 81 = .ok (.istore_n 2, 1) := dgrp_at dg_b_73 12 rfl
theorem dX5_term_82 : decode cX5_term 82 = .ok (.iload_n 2, 1) := dgrp_at dg_b_73 13 rfl
theorem dX5_term_83 : decode cX5_term 83 = .ok (.aload_n 0, 1) := dgrp_at dg_b_73 14 rfl
theorem dX5_term_84 : decode cX5_term 84 = .ok (.getfield 105, 3) := dgrp_at dg_b_73 15 rfl
theorem dX5_term_87 : decode cX5_term 87 = .ok (.if_icmp .ge 29, 3) := dgrp_at dg_b_73 16 rfl
theorem dX5_term_90 : decode cX5_term 90 = .ok (.aload_n 0, 1) := dgrp_at dg_b_73 17 rfl
theorem dX5_term_91 : decode cX5_term 91 = .ok (.getfield 7, 3) := dgrp_at dg_b_73 18 rfl
theorem dX5_term_94 : decode cX5_term 94 = .ok (.bipush 26, 2) := dgrp_at dg_b_73 19 rfl
theorem dX5_term_96 : decode cX5_term 96 = .ok (.bipush 64, 2) := dgrp_at dg_b_73 20 rfl
theorem dX5_term_98 : decode cX5_term 98 = .ok (.iload_n 1, 1) := dgrp_at dg_b_73 21 rfl
theorem dX5_term_99 : decode cX5_term 99 = .ok (.imul, 1) := dgrp_at dg_b_73 22 rfl
theorem dX5_term_100 : decode cX5_term 100 = .ok (.iadd, 1) := dgrp_at dg_b_73 23 rfl
theorem dX5_term_101 : decode cX5_term 101 = .ok (.iload_n 2, 1) := dgrp_at dg_b_73 24 rfl
theorem dX5_term_102 : decode cX5_term 102 = .ok (.iadd, 1) := dgrp_at dg_b_73 25 rfl
theorem dX5_term_103 : decode cX5_term 103 = .ok (.aload_n 0, 1) := dgrp_at dg_b_73 26 rfl
theorem dX5_term_104 : decode cX5_term 104 = .ok (.getfield 26, 3) := dgrp_at dg_b_73 27 rfl
theorem dX5_term_107 : decode cX5_term 107 = .ok (.iload_n 2, 1) := dgrp_at dg_b_73 28 rfl
theorem dX5_term_108 : decode cX5_term 108 = .ok (.iaload, 1) := dgrp_at dg_b_73 29 rfl
theorem dX5_term_109 : decode cX5_term 109 = .ok (.iastore, 1) := dgrp_at dg_b_73 30 rfl
theorem dX5_term_110 : decode cX5_term 110 = .ok (.iinc 2 1, 3) := dgrp_at dg_b_73 31 rfl
def dl_b_74 : List (Nat × Instr × Nat) := [(113, .goto (-31), 3), (116, .aload_n 0, 1), (117, .getfield 7, 3), (120, .iconst 2, 1), (121, .iconst 3, 1), (122, .iload_n 1, 1), (123, .imul, 1), (124, .iadd, 1), (125, .iconst 2, 1), (126, .iadd, 1), (127, .aload_n 0, 1), (128, .getfield 105, 3), (131, .iastore, 1), (132, .iconst 1, 1), (133, .ireturn, 1)]
theorem dg_b_74 : dgrp cX5_term dl_b_74 = true := by decide +kernel
theorem dX5_term_113 : decode cX5_term 113 = .ok (.goto (-31), 3) := dgrp_at dg_b_74 0 rfl
theorem dX5_term_116 : decode cX5_term 116 = .ok (.aload_n 0, 1) := dgrp_at dg_b_74 1 rfl
theorem dX5_term_117 : decode cX5_term 117 = .ok (.getfield 7, 3) := dgrp_at dg_b_74 2 rfl
theorem dX5_term_120 : decode cX5_term 120 = .ok (.iconst 2, 1) := dgrp_at dg_b_74 3 rfl
theorem dX5_term_121 : decode cX5_term 121 = .ok (.iconst 3, 1) := dgrp_at dg_b_74 4 rfl
theorem dX5_term_122 : decode cX5_term 122 = .ok (.iload_n 1, 1) := dgrp_at dg_b_74 5 rfl
theorem dX5_term_123 : decode cX5_term 123 = .ok (.imul, 1) := dgrp_at dg_b_74 6 rfl
theorem dX5_term_124 : decode cX5_term 124 = .ok (.iadd, 1) := dgrp_at dg_b_74 7 rfl
theorem dX5_term_125 : decode cX5_term 125 = .ok (.iconst 2, 1) := dgrp_at dg_b_74 8 rfl
theorem dX5_term_126 : decode cX5_term 126 = .ok (.iadd, 1) := dgrp_at dg_b_74 9 rfl
theorem dX5_term_127 : decode cX5_term 127 = .ok (.aload_n 0, 1) := dgrp_at dg_b_74 10 rfl
theorem dX5_term_128 : decode cX5_term 128 = .ok (.getfield 105, 3) := dgrp_at dg_b_74 11 rfl
theorem dX5_term_131 : decode cX5_term 131 = .ok (.iastore, 1) := dgrp_at dg_b_74 12 rfl
theorem dX5_term_132 : decode cX5_term 132 = .ok (.iconst 1, 1) := dgrp_at dg_b_74 13 rfl
theorem dX5_term_133 : decode cX5_term 133 = .ok (.ireturn, 1) := dgrp_at dg_b_74 14 rfl
def dl_b_75 : List (Nat × Instr × Nat) := [(0, .iload_n 2, 1), (1, .i2l, 1), (2, .lconst 1, 1), (3, .ldc2_w 145, 3), (6, .invokestatic 54, 3), (9, .ifCond .ne 10, 3), (12, .aload_n 0, 1), (13, .ldc 48, 2), (15, .invokevirtual 50, 3), (18, .ireturn, 1), (19, .aload_n 0, 1), (20, .getfield 99, 3), (23, .iload_n 2, 1), (24, .iadd, 1), (25, .bipush 60, 2), (27, .if_icmp .le 10, 3), (30, .aload_n 0, 1), (31, .ldc 66, 2), (33, .invokevirtual 50, 3), (36, .ireturn, 1), (37, .iload_n 2, 1), (38, .iconst 1, 1), (39, .isub, 1), (40, .istore_n 3, 1), (41, .iload_n 3, 1), (42, .ifCond .lt 38, 3), (45, .aload_n 0, 1), (46, .getfield 23, 3), (49, .aload_n 0, 1), (50, .getfield 99, 3), (53, .iload_n 1, 1), (54, .bipush 8, 2)]
theorem dg_b_75 : dgrp cX5_feed dl_b_75 = true := by decide +kernel
theorem dX5_feed_0 : decode cX5_feed 0 = .ok (.iload_n 2, 1) := dgrp_at dg_b_75 0 rfl
theorem dX5_feed_1 : decode cX5_feed 1 = .ok (.i2l, 1) := dgrp_at dg_b_75 1 rfl
theorem dX5_feed_2 : decode cX5_feed 2 = .ok (.lconst 1, 1) := dgrp_at dg_b_75 2 rfl
theorem dX5_feed_3 : decode cX5_feed 3 = .ok (.ldc2_w 145, 3) := dgrp_at dg_b_75 3 rfl
theorem dX5_feed_6 : decode cX5_feed 6 = .ok (.invokestatic 54, 3) := dgrp_at dg_b_75 4 rfl
theorem dX5_feed_9 : decode cX5_feed 9 = .ok (.ifCond .ne 10, 3) := dgrp_at dg_b_75 5 rfl
theorem dX5_feed_12 : decode cX5_feed 12 = .ok (.aload_n 0, 1) := dgrp_at dg_b_75 6 rfl
theorem dX5_feed_13 : decode cX5_feed 13 = .ok (.ldc 48, 2) := dgrp_at dg_b_75 7 rfl
theorem dX5_feed_15 : decode cX5_feed 15 = .ok (.invokevirtual 50, 3) := dgrp_at dg_b_75 8 rfl
theorem dX5_feed_18 : decode cX5_feed 18 = .ok (.ireturn, 1) := dgrp_at dg_b_75 9 rfl
theorem dX5_feed_19 : decode cX5_feed 19 = .ok (.aload_n 0, 1) := dgrp_at dg_b_75 10 rfl
theorem dX5_feed_20 : decode cX5_feed 20 = .ok (.getfield 99, 3) := dgrp_at dg_b_75 11 rfl
theorem dX5_feed_23 : decode cX5_feed 23 = .ok (.iload_n 2, 1) := dgrp_at dg_b_75 12 rfl
theorem dX5_feed_24 : decode cX5_feed 24 = .ok (.iadd, 1) := dgrp_at dg_b_75 13 rfl
theorem dX5_feed_25 : decode cX5_feed 25 = .ok (.bipush 60, 2) := dgrp_at dg_b_75 14 rfl
theorem dX5_feed_27 : decode cX5_feed 27 = .ok (.if_icmp .le 10, 3) := dgrp_at dg_b_75 15 rfl
theorem dX5_feed_30 : decode cX5_feed 30 = .ok (.aload_n 0, 1) := dgrp_at dg_b_75 16 rfl
theorem dX5_feed_31 : decode cX5_feed 31 = .ok (.ldc 66, 2) := dgrp_at dg_b_75 17 rfl
theorem dX5_feed_33 : decode cX5_feed 33 = .ok (.invokevirtual 50, 3) := dgrp_at dg_b_75 18 rfl
theorem dX5_feed_36 : decode cX5_feed 36 = .ok (.ireturn, 1) := dgrp_at dg_b_75 19 rfl
theorem dX5_feed_37 : decode cX5_feed 37 = .ok (.iload_n 2, 1) := dgrp_at dg_b_75 20 rfl
theorem dX5_feed_38 : decode cX5_feed 38 = .ok (.iconst 1, 1) := dgrp_at dg_b_75 21 rfl
theorem dX5_feed_39 : decode cX5_feed 39 = .ok (.isub, 1) := dgrp_at dg_b_75 22 rfl
theorem dX5_feed_40 : decode cX5_feed 40 = .ok (.istore_n 3, 1) := dgrp_at dg_b_75 23 rfl
theorem dX5_feed_41 : decode cX5_feed 41 = .ok (.iload_n 3, 1) := dgrp_at dg_b_75 24 rfl
theorem dX5_feed_42 : decode cX5_feed 42 = .ok (.ifCond .lt 38, 3) := dgrp_at dg_b_75 25 rfl
theorem dX5_feed_45 : decode cX5_feed 45 = .ok (.aload_n 0, 1) := dgrp_at dg_b_75 26 rfl
theorem dX5_feed_46 : decode cX5_feed 46 = .ok (.getfield 23, 3) := dgrp_at dg_b_75 27 rfl
theorem dX5_feed_49 : decode cX5_feed 49 = .ok (.aload_n 0, 1) := dgrp_at dg_b_75 28 rfl
theorem dX5_feed_50 : decode cX5_feed 50 = .ok (.getfield 99, 3) := dgrp_at dg_b_75 29 rfl
theorem dX5_feed_53 : decode cX5_feed 53 = .ok (.iload_n 1, 1) := dgrp_at dg_b_75 30 rfl
theorem dX5_feed_54 : decode cX5_feed 54 = .ok (.bipush 8, 2) := dgrp_at dg_b_75 31 rfl
def dl_b_76 : List (Nat × Instr × Nat) := [(56, .iload_n 3, 1), (57, .imul, 1), (58, .ishr, 1), (59, .sipush 255, 3), (62, .iand, 1), (63, .iastore, 1), (64, .aload_n 0, 1), (65, .dup, 1), (66, .getfield 99, 3), (69, .iconst 1, 1), (70, .iadd, 1), (71, .putfield 99, 3), (74, .iinc 3 (-1), 3), (77, .goto (-36), 3), (80, .aload_n 0, 1), (81, .getfield 99, 3), (84, .ireturn, 1)]
theorem dg_b_76 : dgrp cX5_feed dl_b_76 = true := by decide +kernel
theorem dX5_feed_56 : decode cX5_feed 56 = .ok (.iload_n 3, 1) := dgrp_at dg_b_76 0 rfl
theorem dX5_feed_57 : decode cX5_feed 57 = .ok (.imul, 1) := dgrp_at dg_b_76 1 rfl
theorem dX5_feed_58 : decode cX5_feed 58 = .ok (.ishr, 1) := dgrp_at dg_b_76 2 rfl
theorem dX5_feed_59 : decode cX5_feed 59 = .ok (.sipush 255, 3) := dgrp_at dg_b_76 3 rfl
theorem dX5_feed_62 : decode cX5_feed 62 = .ok (.iand, 1) := dgrp_at dg_b_76 4 rfl
theorem dX5_feed_63 : decode cX5_feed 63 = .ok (.iastore, 1) := dgrp_at dg_b_76 5 rfl
theorem dX5_feed_64 : decode cX5_feed 64 = .ok (.aload_n 0, 1) := dgrp_at dg_b_76 6 rfl
theorem dX5_feed_65 : decode cX5_feed 65 = .ok (.dup, 1) := dgrp_at dg_b_76 7 rfl
theorem dX5_feed_66 : decode cX5_feed 66 = .ok (.getfield 99, 3) := dgrp_at dg_b_76 8 rfl
theorem dX5_feed_69 : decode cX5_feed 69 = .ok (.iconst 1, 1) := dgrp_at dg_b_76 9 rfl
theorem dX5_feed_70 : decode cX5_feed 70 = .ok (.iadd, 1) := dgrp_at dg_b_76 10 rfl
theorem dX5_feed_71 : decode cX5_feed 71 = .ok (.putfield 99, 3) := dgrp_at dg_b_76 11 rfl
theorem dX5_feed_74 : decode cX5_feed 74 = .ok (.iinc 3 (-1), 3) := dgrp_at dg_b_76 12 rfl
theorem dX5_feed_77 : decode cX5_feed 77 = .ok (.goto (-36), 3) := dgrp_at dg_b_76 13 rfl
theorem dX5_feed_80 : decode cX5_feed 80 = .ok (.aload_n 0, 1) := dgrp_at dg_b_76 14 rfl
theorem dX5_feed_81 : decode cX5_feed 81 = .ok (.getfield 99, 3) := dgrp_at dg_b_76 15 rfl
theorem dX5_feed_84 : decode cX5_feed 84 = .ok (.ireturn, 1) := dgrp_at dg_b_76 16 rfl
def dl_b_77 : List (Nat × Instr × Nat) := [(0, .aload_n 0, 1), (1, .getfield 99, 3), (4, .istore_n 1, 1), (5, .aload_n 0, 1), (6, .iconst 0, 1), (7, .putfield 99, 3), (10, .iload_n 1, 1), (11, .ireturn, 1)]
theorem dg_b_77 : dgrp cX5_wipe dl_b_77 = true := by decide +kernel
theorem dX5_wipe_0 : decode cX5_wipe 0 = .ok (.aload_n 0, 1) := dgrp_at dg_b_77 0 rfl
theorem dX5_wipe_1 : decode cX5_wipe 1 = .ok (.getfield 99, 3) := dgrp_at dg_b_77 1 rfl
theorem dX5_wipe_4 : decode cX5_wipe 4 = .ok (.istore_n 1, 1) := dgrp_at dg_b_77 2 rfl
theorem dX5_wipe_5 : decode cX5_wipe 5 = .ok (.aload_n 0, 1) := dgrp_at dg_b_77 3 rfl
theorem dX5_wipe_6 : decode cX5_wipe 6 = .ok (.iconst 0, 1) := dgrp_at dg_b_77 4 rfl
theorem dX5_wipe_7 : decode cX5_wipe 7 = .ok (.putfield 99, 3) := dgrp_at dg_b_77 5 rfl
theorem dX5_wipe_10 : decode cX5_wipe 10 = .ok (.iload_n 1, 1) := dgrp_at dg_b_77 6 rfl
theorem dX5_wipe_11 : decode cX5_wipe 11 = .ok (.ireturn, 1) := dgrp_at dg_b_77 7 rfl
def dl_b_78 : List (Nat × Instr × Nat) := [(0, .aload_n 0, 1), (1, .iload_n 1, 1), (2, .i2l, 1), (3, .invokevirtual 147, 3), (6, .ifCond .eq 12, 3), (9, .aload_n 0, 1), (10, .iconst 1, 1), (11, .iload_n 1, 1), (12, .invokevirtual 91, 3), (15, .goto 9, 3), (18, .aload_n 0, 1), (19, .ldc 48, 2), (21, .invokevirtual 50, 3), (24, .ireturn, 1)]
theorem dg_b_78 : dgrp cX5_list dl_b_78 = true := by decide +kernel
theorem dX5_list_0 : decode cX5_list 0 = .ok (.aload_n 0, 1) := dgrp_at dg_b_78 0 rfl
theorem dX5_list_1 : decode cX5_list 1 = .ok (.iload_n 1, 1) := dgrp_at dg_b_78 1 rfl
theorem dX5_list_2 : decode cX5_list 2 = .ok (.i2l, 1) := dgrp_at dg_b_78 2 rfl
theorem dX5_list_3 : decode cX5_list 3 = .ok (.invokevirtual 147, 3) := dgrp_at dg_b_78 3 rfl
theorem dX5_list_6 : decode cX5_list 6 = .ok (.ifCond .eq 12, 3) := dgrp_at dg_b_78 4 rfl
theorem dX5_list_9 : decode cX5_list 9 = .ok (.aload_n 0, 1) := dgrp_at dg_b_78 5 rfl
theorem dX5_list_10 : decode cX5_list 10 = .ok (.iconst 1, 1) := dgrp_at dg_b_78 6 rfl
theorem dX5_list_11 : decode cX5_list 11 = .ok (.iload_n 1, 1) := dgrp_at dg_b_78 7 rfl
theorem dX5_list_12 : decode cX5_list 12 = .ok (.invokevirtual 91, 3) := dgrp_at dg_b_78 8 rfl
theorem dX5_list_15 : decode cX5_list 15 = .ok (.goto 9, 3) := dgrp_at dg_b_78 9 rfl
theorem dX5_list_18 : decode cX5_list 18 = .ok (.aload_n 0, 1) := dgrp_at dg_b_78 10 rfl
theorem dX5_list_19 : decode cX5_list 19 = .ok (.ldc 48, 2) := dgrp_at dg_b_78 11 rfl
theorem dX5_list_21 : decode cX5_list 21 = .ok (.invokevirtual 50, 3) := dgrp_at dg_b_78 12 rfl
theorem dX5_list_24 : decode cX5_list 24 = .ok (.ireturn, 1) := dgrp_at dg_b_78 13 rfl
def dl_b_79 : List (Nat × Instr × Nat) := [(0, .iconst 0, 1), (1, .istore_n 2, 1), (2, .iconst 0, 1), (3, .istore_n 3, 1), (4, .iload_n 3, 1), (5, .aload_n 0, 1), (6, .getfield 7, 3), (9, .iconst 0, 1), (10, .iaload, 1), (11, .if_icmp .ge 30, 3), (14, .iload_n 2, 1), (15, .iload_n 1, 1), (16, .iload_n 3, 1), (17, .invokestatic 74, 3), (20, .ifCond .eq 12, 3), (23, .aload_n 0, 1), (24, .iload_n 3, 1), (25, .iconst 1, 1), (26, .invokevirtual 70, 3), (29, .goto 4, 3), (32, .iconst 0, 1), (33, .iadd, 1), (34, .istore_n 2, 1), (35, .iinc 3 1, 3), (38, .goto (-34), 3), (41, .iload_n 2, 1), (42, .ireturn, 1)]
theorem dg_b_79 : dgrp cX5_costOf dl_b_79 = true := by decide +kernel
theorem dX5_costOf_0 : decode cX5_costOf 0 = .ok (.iconst 0, 1) := dgrp_at dg_b_79 0 rfl
theorem dX5_costOf_1 : decode cX5_costOf 1 = .ok (.istore_n 2, 1) := dgrp_at dg_b_79 1 rfl
theorem dX5_costOf_2 : decode cX5_costOf 2 = .ok (.iconst 0, 1) := dgrp_at dg_b_79 2 rfl
theorem dX5_costOf_3 : decode cX5_costOf 3 = .ok (.istore_n 3, 1) := dgrp_at dg_b_79 3 rfl
theorem dX5_costOf_4 : decode cX5_costOf 4 = .ok (.iload_n 3, 1) := dgrp_at dg_b_79 4 rfl
theorem dX5_costOf_5 : decode cX5_costOf 5 = .ok (.aload_n 0, 1) := dgrp_at dg_b_79 5 rfl
theorem dX5_costOf_6 : decode cX5_costOf 6 = .ok (.getfield 7, 3) := dgrp_at dg_b_79 6 rfl
theorem dX5_costOf_9 : decode cX5_costOf 9 = .ok (.iconst 0, 1) := dgrp_at dg_b_79 7 rfl
theorem dX5_costOf_10 : decode cX5_costOf 10 = .ok (.iaload, 1) := dgrp_at dg_b_79 8 rfl
theorem dX5_costOf_11 : decode cX5_costOf 11 = .ok (.if_icmp .ge 30, 3) := dgrp_at dg_b_79 9 rfl
theorem dX5_costOf_14 : decode cX5_costOf 14 = .ok (.iload_n 2, 1) := dgrp_at dg_b_79 10 rfl
theorem dX5_costOf_15 : decode cX5_costOf 15 = .ok (.iload_n 1, 1) := dgrp_at dg_b_79 11 rfl
theorem dX5_costOf_16 : decode cX5_costOf 16 = .ok (.iload_n 3, 1) := dgrp_at dg_b_79 12 rfl
theorem dX5_costOf_17 : decode cX5_costOf 17 = .ok (.invokestatic 74, 3) := dgrp_at dg_b_79 13 rfl
theorem dX5_costOf_20 : decode cX5_costOf 20 = .ok (.ifCond .eq 12, 3) := dgrp_at dg_b_79 14 rfl
theorem dX5_costOf_23 : decode cX5_costOf 23 = .ok (.aload_n 0, 1) := dgrp_at dg_b_79 15 rfl
theorem dX5_costOf_24 : decode cX5_costOf 24 = .ok (.iload_n 3, 1) := dgrp_at dg_b_79 16 rfl
theorem dX5_costOf_25 : decode cX5_costOf 25 = .ok (.iconst 1, 1) := dgrp_at dg_b_79 17 rfl
theorem dX5_costOf_26 : decode cX5_costOf 26 = .ok (.invokevirtual 70, 3) := dgrp_at dg_b_79 18 rfl
theorem dX5_costOf_29 : decode cX5_costOf 29 = .ok (.goto 4, 3) := dgrp_at dg_b_79 19 rfl
theorem dX5_costOf_32 : decode cX5_costOf 32 = .ok (.iconst 0, 1) := dgrp_at dg_b_79 20 rfl
theorem dX5_costOf_33 : decode cX5_costOf 33 = .ok (.iadd, 1) := dgrp_at dg_b_79 21 rfl
theorem dX5_costOf_34 : decode cX5_costOf 34 = .ok (.istore_n 2, 1) := dgrp_at dg_b_79 22 rfl
theorem dX5_costOf_35 : decode cX5_costOf 35 = .ok (.iinc 3 1, 3) := dgrp_at dg_b_79 23 rfl
theorem dX5_costOf_38 : decode cX5_costOf 38 = .ok (.goto (-34), 3) := dgrp_at dg_b_79 24 rfl
theorem dX5_costOf_41 : decode cX5_costOf 41 = .ok (.iload_n 2, 1) := dgrp_at dg_b_79 25 rfl
theorem dX5_costOf_42 : decode cX5_costOf 42 = .ok (.ireturn, 1) := dgrp_at dg_b_79 26 rfl
def dl_b_80 : List (Nat × Instr × Nat) := [(0, .iload_n 1, 1), (36, .aload_n 0, 1), (37, .getfield 7, 3), (40, .iconst 1, 1), (41, .iaload, 1), (42, .ireturn, 1), (43, .aload_n 0, 1), (44, .getfield 7, 3), (47, .iconst 1, 1), (48, .iaload, 1), (49, .invokestatic 67, 3), (52, .ireturn, 1), (53, .aload_n 0, 1), (54, .aload_n 0, 1), (55, .getfield 7, 3), (58, .iconst 1, 1), (59, .iaload, 1), (60, .invokevirtual 151, 3), (63, .ireturn, 1), (64, .aload_n 0, 1), (65, .aload_n 0, 1), (66, .getfield 7, 3), (69, .iconst 1, 1), (70, .iaload, 1), (71, .invokevirtual 151, 3), (74, .aload_n 0, 1), (75, .getfield 7, 3), (78, .iconst 1, 1), (79, .iaload, 1), (80, .if_icmp .ne 7, 3), (83, .iconst 1, 1), (84, .goto 4, 3)]
theorem dg_b_80 : dgrp cX5_now dl_b_80 = true := by decide +kernel
theorem dX5_now_0 : decode cX5_now 0 = .ok (.iload_n 1, 1) := dgrp_at dg_b_80 0 rfl
theorem dX5_now_36 : decode cX5_now 36 = .ok (.aload_n 0, 1) := dgrp_at dg_b_80 1 rfl
theorem dX5_now_37 : decode cX5_now 37 = .ok (.getfield 7, 3) := dgrp_at dg_b_80 2 rfl
theorem dX5_now_40 : decode cX5_now 40 = .ok (.iconst 1, 1) := dgrp_at dg_b_80 3 rfl
theorem dX5_now_41 : decode cX5_now 41 = .ok (.iaload, 1) := dgrp_at dg_b_80 4 rfl
theorem dX5_now_42 : decode cX5_now 42 = .ok (.ireturn, 1) := dgrp_at dg_b_80 5 rfl
theorem dX5_now_43 : decode cX5_now 43 = .ok (.aload_n 0, 1) := dgrp_at dg_b_80 6 rfl
theorem dX5_now_44 : decode cX5_now 44 = .ok (.getfield 7, 3) := dgrp_at dg_b_80 7 rfl
theorem dX5_now_47 : decode cX5_now 47 = .ok (.iconst 1, 1) := dgrp_at dg_b_80 8 rfl
theorem dX5_now_48 : decode cX5_now 48 = .ok (.iaload, 1) := dgrp_at dg_b_80 9 rfl
theorem dX5_now_49 : decode cX5_now 49 = .ok (.invokestatic 67, 3) := dgrp_at dg_b_80 10 rfl
theorem dX5_now_52 : decode cX5_now 52 = .ok (.ireturn, 1) := dgrp_at dg_b_80 11 rfl
theorem dX5_now_53 : decode cX5_now 53 = .ok (.aload_n 0, 1) := dgrp_at dg_b_80 12 rfl
theorem dX5_now_54 : decode cX5_now 54 = .ok (.aload_n 0, 1) := dgrp_at dg_b_80 13 rfl
theorem dX5_now_55 : decode cX5_now 55 = .ok (.getfield 7, 3) := dgrp_at dg_b_80 14 rfl
theorem dX5_now_58 : decode cX5_now 58 = .ok (.iconst 1, 1) := dgrp_at dg_b_80 15 rfl
theorem dX5_now_59 : decode cX5_now 59 = .ok (.iaload, 1) := dgrp_at dg_b_80 16 rfl
theorem dX5_now_60 : decode cX5_now 60 = .ok (.invokevirtual 151, 3) := dgrp_at dg_b_80 17 rfl
theorem dX5_now_63 : decode cX5_now 63 = .ok (.ireturn, 1) := dgrp_at dg_b_80 18 rfl
theorem dX5_now_64 : decode cX5_now 64 = .ok (.aload_n 0, 1) := dgrp_at dg_b_80 19 rfl
theorem dX5_now_65 : decode cX5_now 65 = .ok (.aload_n 0, 1) := dgrp_at dg_b_80 20 rfl
theorem dX5_now_66 : decode cX5_now 66 = .ok (.getfield 7, 3) := dgrp_at dg_b_80 21 rfl
theorem dX5_now_69 : decode cX5_now 69 = .ok (.iconst 1, 1) := dgrp_at dg_b_80 22 rfl
theorem dX5_now_70 : decode cX5_now 70 = .ok (.iaload, 1) := dgrp_at dg_b_80 23 rfl
theorem dX5_now_71 : decode cX5_now 71 = .ok (.invokevirtual 151, 3) := dgrp_at dg_b_80 24 rfl
theorem dX5_now_74 : decode cX5_now 74 = .ok (.aload_n 0, 1) := dgrp_at dg_b_80 25 rfl
theorem dX5_now_75 : decode cX5_now 75 = .ok (.getfield 7, 3) := dgrp_at dg_b_80 26 rfl
theorem dX5_now_78 : decode cX5_now 78 = .ok (.iconst 1, 1) := dgrp_at dg_b_80 27 rfl
theorem dX5_now_79 : decode cX5_now 79 = .ok (.iaload, 1) := dgrp_at dg_b_80 28 rfl
theorem dX5_now_80 : decode cX5_now 80 = .ok (.if_icmp .ne 7, 3) := dgrp_at dg_b_80 29 rfl
theorem dX5_now_83 : decode cX5_now 83 = .ok (.iconst 1, 1) := dgrp_at dg_b_80 30 rfl
theorem dX5_now_84 : decode cX5_now 84 = .ok (.goto 4, 3) := dgrp_at dg_b_80 31 rfl
def dl_b_81 : List (Nat × Instr × Nat) := [(87, .iconst 0, 1), (88, .ireturn, 1), (89, .aload_n 0, 1), (90, .aload_n 0, 1), (91, .getfield 7, 3), (94, .iconst 1, 1), (95, .iaload, 1), (96, .invokevirtual 154, 3), (99, .ireturn, 1), (100, .aload_n 0, 1), (101, .ldc 48, 2), (103, .invokevirtual 50, 3), (106, .ireturn, 1)]
theorem dg_b_81 : dgrp cX5_now dl_b_81 = true := by decide +kernel
theorem dX5_now_87 : decode cX5_now 87 = .ok (.iconst 0, 1) := dgrp_at dg_b_81 0 rfl
theorem dX5_now_88 : decode cX5_now 88 = .ok (.ireturn, 1) := dgrp_at dg_b_81 1 rfl
theorem dX5_now_89 : decode cX5_now 89 = .ok (.aload_n 0, 1) := dgrp_at dg_b_81 2 rfl
theorem dX5_now_90 : decode cX5_now 90 = .ok (.aload_n 0, 1) := dgrp_at dg_b_81 3 rfl
theorem dX5_now_91 : decode cX5_now 91 = .ok (.getfield 7, 3) := dgrp_at dg_b_81 4 rfl
theorem dX5_now_94 : decode cX5_now 94 = .ok (.iconst 1, 1) := dgrp_at dg_b_81 5 rfl
theorem dX5_now_95 : decode cX5_now 95 = .ok (.iaload, 1) := dgrp_at dg_b_81 6 rfl
theorem dX5_now_96 : decode cX5_now 96 = .ok (.invokevirtual 154, 3) := dgrp_at dg_b_81 7 rfl
theorem dX5_now_99 : decode cX5_now 99 = .ok (.ireturn, 1) := dgrp_at dg_b_81 8 rfl
theorem dX5_now_100 : decode cX5_now 100 = .ok (.aload_n 0, 1) := dgrp_at dg_b_81 9 rfl
theorem dX5_now_101 : decode cX5_now 101 = .ok (.ldc 48, 2) := dgrp_at dg_b_81 10 rfl
theorem dX5_now_103 : decode cX5_now 103 = .ok (.invokevirtual 50, 3) := dgrp_at dg_b_81 11 rfl
theorem dX5_now_106 : decode cX5_now 106 = .ok (.ireturn, 1) := dgrp_at dg_b_81 12 rfl
def dl_b_82 : List (Nat × Instr × Nat) := [(0, .iload_n 1, 1), (1, .iconst 1, 1), (2, .iload_n 2, 1), (3, .ishl, 1), (4, .iconst (-1), 1), (5, .ixor, 1), (6, .iand, 1), (7, .aload_n 0, 1), (8, .iload_n 2, 1), (9, .iload_n 1, 1), (10, .invokevirtual 84, 3), (13, .ifCond .eq 9, 3), (16, .iconst 1, 1), (17, .iload_n 2, 1), (18, .ishl, 1), (19, .goto 4, 3), (22, .iconst 0, 1), (23, .ior, 1), (24, .ireturn, 1)]
theorem dg_b_82 : dgrp cX5_called dl_b_82 = true := by decide +kernel
theorem dX5_called_0 : decode cX5_called 0 = .ok (.iload_n 1, 1) := dgrp_at dg_b_82 0 rfl
theorem dX5_called_1 : decode cX5_called 1 = .ok (.iconst 1, 1) := dgrp_at dg_b_82 1 rfl
theorem dX5_called_2 : decode cX5_called 2 = .ok (.iload_n 2, 1) := dgrp_at dg_b_82 2 rfl
theorem dX5_called_3 : decode cX5_called 3 = .ok (.ishl, 1) := dgrp_at dg_b_82 3 rfl
theorem dX5_called_4 : decode cX5_called 4 = .ok (.iconst (-1), 1) := dgrp_at dg_b_82 4 rfl
theorem dX5_called_5 : decode cX5_called 5 = .ok (.ixor, 1) := dgrp_at dg_b_82 5 rfl
theorem dX5_called_6 : decode cX5_called 6 = .ok (.iand, 1) := dgrp_at dg_b_82 6 rfl
theorem dX5_called_7 : decode cX5_called 7 = .ok (.aload_n 0, 1) := dgrp_at dg_b_82 7 rfl
theorem dX5_called_8 : decode cX5_called 8 = .ok (.iload_n 2, 1) := dgrp_at dg_b_82 8 rfl
theorem dX5_called_9 : decode cX5_called 9 = .ok (.iload_n 1, 1) := dgrp_at dg_b_82 9 rfl
theorem dX5_called_10 : decode cX5_called 10 = .ok (.invokevirtual 84, 3) := dgrp_at dg_b_82 10 rfl
theorem dX5_called_13 : decode cX5_called 13 = .ok (.ifCond .eq 9, 3) := dgrp_at dg_b_82 11 rfl
theorem dX5_called_16 : decode cX5_called 16 = .ok (.iconst 1, 1) := dgrp_at dg_b_82 12 rfl
theorem dX5_called_17 : decode cX5_called 17 = .ok (.iload_n 2, 1) := dgrp_at dg_b_82 13 rfl
theorem dX5_called_18 : decode cX5_called 18 = .ok (.ishl, 1) := dgrp_at dg_b_82 14 rfl
theorem dX5_called_19 : decode cX5_called 19 = .ok (.goto 4, 3) := dgrp_at dg_b_82 15 rfl
theorem dX5_called_22 : decode cX5_called 22 = .ok (.iconst 0, 1) := dgrp_at dg_b_82 16 rfl
theorem dX5_called_23 : decode cX5_called 23 = .ok (.ior, 1) := dgrp_at dg_b_82 17 rfl
theorem dX5_called_24 : decode cX5_called 24 = .ok (.ireturn, 1) := dgrp_at dg_b_82 18 rfl
def dl_b_83 : List (Nat × Instr × Nat) := [(0, .aload_n 0, 1), (1, .getfield 7, 3), (4, .iconst 1, 1), (5, .iaload, 1), (6, .istore_n 2, 1), (7, .aload_n 0, 1), (8, .getfield 7, 3), (11, .iconst 1, 1), (12, .aload_n 0, 1), (13, .iload_n 2, 1), (14, .iload_n 1, 1), (15, .invokevirtual 157, 3), (18, .iastore, 1), (19, .aload_n 0, 1), (20, .getfield 7, 3), (23, .iconst 1, 1), (24, .iaload, 1), (25, .iload_n 2, 1), (26, .if_icmp .ne 7, 3), (29, .iconst 0, 1), (30, .goto 4, 3), (33, .iconst 1, 1), (34, .ireturn, 1)]
theorem dg_b_83 : dgrp cX5_calling dl_b_83 = true := by decide +kernel
theorem dX5_calling_0 : decode cX5_calling 0 = .ok (.aload_n 0, 1) := dgrp_at dg_b_83 0 rfl
theorem dX5_calling_1 : decode cX5_calling 1 = .ok (.getfield 7, 3) := dgrp_at dg_b_83 1 rfl
theorem dX5_calling_4 : decode cX5_calling 4 = .ok (.iconst 1, 1) := dgrp_at dg_b_83 2 rfl
theorem dX5_calling_5 : decode cX5_calling 5 = .ok (.iaload, 1) := dgrp_at dg_b_83 3 rfl
theorem dX5_calling_6 : decode cX5_calling 6 = .ok (.istore_n 2, 1) := dgrp_at dg_b_83 4 rfl
theorem dX5_calling_7 : decode cX5_calling 7 = .ok (.aload_n 0, 1) := dgrp_at dg_b_83 5 rfl
theorem dX5_calling_8 : decode cX5_calling 8 = .ok (.getfield 7, 3) := dgrp_at dg_b_83 6 rfl
theorem dX5_calling_11 : decode cX5_calling 11 = .ok (.iconst 1, 1) := dgrp_at dg_b_83 7 rfl
theorem dX5_calling_12 : decode cX5_calling 12 = .ok (.aload_n 0, 1) := dgrp_at dg_b_83 8 rfl
theorem dX5_calling_13 : decode cX5_calling 13 = .ok (.iload_n 2, 1) := dgrp_at dg_b_83 9 rfl
theorem dX5_calling_14 : decode cX5_calling 14 = .ok (.iload_n 1, 1) := dgrp_at dg_b_83 10 rfl
theorem dX5_calling_15 : decode cX5_calling 15 = .ok (.invokevirtual 157, 3) := dgrp_at dg_b_83 11 rfl
theorem dX5_calling_18 : decode cX5_calling 18 = .ok (.iastore, 1) := dgrp_at dg_b_83 12 rfl
theorem dX5_calling_19 : decode cX5_calling 19 = .ok (.aload_n 0, 1) := dgrp_at dg_b_83 13 rfl
theorem dX5_calling_20 : decode cX5_calling 20 = .ok (.getfield 7, 3) := dgrp_at dg_b_83 14 rfl
theorem dX5_calling_23 : decode cX5_calling 23 = .ok (.iconst 1, 1) := dgrp_at dg_b_83 15 rfl
theorem dX5_calling_24 : decode cX5_calling 24 = .ok (.iaload, 1) := dgrp_at dg_b_83 16 rfl
theorem dX5_calling_25 : decode cX5_calling 25 = .ok (.iload_n 2, 1) := dgrp_at dg_b_83 17 rfl
theorem dX5_calling_26 : decode cX5_calling 26 = .ok (.if_icmp .ne 7, 3) := dgrp_at dg_b_83 18 rfl
theorem dX5_calling_29 : decode cX5_calling 29 = .ok (.iconst 0, 1) := dgrp_at dg_b_83 19 rfl
theorem dX5_calling_30 : decode cX5_calling 30 = .ok (.goto 4, 3) := dgrp_at dg_b_83 20 rfl
theorem dX5_calling_33 : decode cX5_calling 33 = .ok (.iconst 1, 1) := dgrp_at dg_b_83 21 rfl
theorem dX5_calling_34 : decode cX5_calling 34 = .ok (.ireturn, 1) := dgrp_at dg_b_83 22 rfl
def dl_b_84 : List (Nat × Instr × Nat) := [(0, .aload_n 0, 1), (1, .iload_n 1, 1), (2, .invokevirtual 87, 3), (5, .ifCond .eq 11, 3), (8, .aload_n 0, 1), (9, .iload_n 1, 1), (10, .invokevirtual 160, 3), (13, .goto 9, 3), (16, .aload_n 0, 1), (17, .ldc 48, 2), (19, .invokevirtual 50, 3), (22, .ireturn, 1)]
theorem dg_b_84 : dgrp cX5_call dl_b_84 = true := by decide +kernel
theorem dX5_call_0 : decode cX5_call 0 = .ok (.aload_n 0, 1) := dgrp_at dg_b_84 0 rfl
theorem dX5_call_1 : decode cX5_call 1 = .ok (.iload_n 1, 1) := dgrp_at dg_b_84 1 rfl
theorem dX5_call_2 : decode cX5_call 2 = .ok (.invokevirtual 87, 3) := dgrp_at dg_b_84 2 rfl
theorem dX5_call_5 : decode cX5_call 5 = .ok (.ifCond .eq 11, 3) := dgrp_at dg_b_84 3 rfl
theorem dX5_call_8 : decode cX5_call 8 = .ok (.aload_n 0, 1) := dgrp_at dg_b_84 4 rfl
theorem dX5_call_9 : decode cX5_call 9 = .ok (.iload_n 1, 1) := dgrp_at dg_b_84 5 rfl
theorem dX5_call_10 : decode cX5_call 10 = .ok (.invokevirtual 160, 3) := dgrp_at dg_b_84 6 rfl
theorem dX5_call_13 : decode cX5_call 13 = .ok (.goto 9, 3) := dgrp_at dg_b_84 7 rfl
theorem dX5_call_16 : decode cX5_call 16 = .ok (.aload_n 0, 1) := dgrp_at dg_b_84 8 rfl
theorem dX5_call_17 : decode cX5_call 17 = .ok (.ldc 48, 2) := dgrp_at dg_b_84 9 rfl
theorem dX5_call_19 : decode cX5_call 19 = .ok (.invokevirtual 50, 3) := dgrp_at dg_b_84 10 rfl
theorem dX5_call_22 : decode cX5_call 22 = .ok (.ireturn, 1) := dgrp_at dg_b_84 11 rfl
def dl_b_85 : List (Nat × Instr × Nat) := [(0, .iload_n 1, 1), (1, .i2l, 1), (2, .lconst 1, 1), (3, .ldc2_w 163, 3), (6, .invokestatic 54, 3), (9, .ifCond .ne 10, 3), (12, .aload_n 0, 1), (13, .ldc 48, 2), (15, .invokevirtual 50, 3), (18, .ireturn, 1), (19, .iconst 0, 1), (20, .istore_n 2, 1), (21, .iconst 0, 1), (22, .istore_n 3, 1), (23, .iload_n 3, 1), (24, .iload_n 1, 1), (25, .if_icmp .ge 38, 3), (28, .iconst 0, 1), (29, .istore 4, 2), (31, .iload 4, 2), (33, .aload_n 0, 1), (34, .getfield 7, 3), (37, .iconst 0, 1), (38, .iaload, 1), (39, .if_icmp .ge 18, 3), (42, .iload_n 2, 1), (43, .aload_n 0, 1), (44, .iload 4, 2), (46, .invokevirtual 160, 3), (49, .iadd, 1), (50, .istore_n 2, 1), (51, .iinc 4 1, 3)]
theorem dg_b_85 : dgrp cX5_calls dl_b_85 = true := by decide +kernel
theorem dX5_calls_0 : decode cX5_calls 0 = .ok (.iload_n 1, 1) := dgrp_at dg_b_85 0 rfl
theorem dX5_calls_1 : decode cX5_calls 1 = .ok (.i2l, 1) := dgrp_at dg_b_85 1 rfl
theorem dX5_calls_2 : decode cX5_calls 2 = .ok (.lconst 1, 1) := dgrp_at dg_b_85 2 rfl
theorem dX5_calls_3 : decode cX5_calls 3 = .ok (.ldc2_w 163, 3) := dgrp_at dg_b_85 3 rfl
theorem dX5_calls_6 : decode cX5_calls 6 = .ok (.invokestatic 54, 3) := dgrp_at dg_b_85 4 rfl
theorem dX5_calls_9 : decode cX5_calls 9 = .ok (.ifCond .ne 10, 3) := dgrp_at dg_b_85 5 rfl
theorem dX5_calls_12 : decode cX5_calls 12 = .ok (.aload_n 0, 1) := dgrp_at dg_b_85 6 rfl
theorem dX5_calls_13 : decode cX5_calls 13 = .ok (.ldc 48, 2) := dgrp_at dg_b_85 7 rfl
theorem dX5_calls_15 : decode cX5_calls 15 = .ok (.invokevirtual 50, 3) := dgrp_at dg_b_85 8 rfl
theorem dX5_calls_18 : decode cX5_calls 18 = .ok (.ireturn, 1) := dgrp_at dg_b_85 9 rfl
theorem dX5_calls_19 : decode cX5_calls 19 = .ok (.iconst 0, 1) := dgrp_at dg_b_85 10 rfl
theorem dX5_calls_20 : decode cX5_calls 20 = .ok (.istore_n 2, 1) := dgrp_at dg_b_85 11 rfl
theorem dX5_calls_21 : decode cX5_calls 21 = .ok (.iconst 0, 1) := dgrp_at dg_b_85 12 rfl
theorem dX5_calls_22 : decode cX5_calls 22 = .ok (.istore_n 3, 1) := dgrp_at dg_b_85 13 rfl
theorem dX5_calls_23 : decode cX5_calls 23 = .ok (.iload_n 3, 1) := dgrp_at dg_b_85 14 rfl
theorem dX5_calls_24 : decode cX5_calls 24 = .ok (.iload_n 1, 1) := dgrp_at dg_b_85 15 rfl
theorem dX5_calls_25 : decode cX5_calls 25 = .ok (.if_icmp .ge 38, 3) := dgrp_at dg_b_85 16 rfl
theorem dX5_calls_28 : decode cX5_calls 28 = .ok (.iconst 0, 1) := dgrp_at dg_b_85 17 rfl
theorem dX5_calls_29 : decode cX5_calls 29 = .ok (.istore 4, 2) := dgrp_at dg_b_85 18 rfl
theorem dX5_calls_31 : decode cX5_calls 31 = .ok (.iload 4, 2) := dgrp_at dg_b_85 19 rfl
theorem dX5_calls_33 : decode cX5_calls 33 = .ok (.aload_n 0, 1) := dgrp_at dg_b_85 20 rfl
theorem dX5_calls_34 : decode cX5_calls 34 = .ok (.getfield 7, 3) := dgrp_at dg_b_85 21 rfl
theorem dX5_calls_37 : decode cX5_calls 37 = .ok (.iconst 0, 1) := dgrp_at dg_b_85 22 rfl
theorem dX5_calls_38 : decode cX5_calls 38 = .ok (.iaload, 1) := dgrp_at dg_b_85 23 rfl
theorem dX5_calls_39 : decode cX5_calls 39 = .ok (.if_icmp .ge 18, 3) := dgrp_at dg_b_85 24 rfl
theorem dX5_calls_42 : decode cX5_calls 42 = .ok (.iload_n 2, 1) := dgrp_at dg_b_85 25 rfl
theorem dX5_calls_43 : decode cX5_calls 43 = .ok (.aload_n 0, 1) := dgrp_at dg_b_85 26 rfl
theorem dX5_calls_44 : decode cX5_calls 44 = .ok (.iload 4, 2) := dgrp_at dg_b_85 27 rfl
theorem dX5_calls_46 : decode cX5_calls 46 = .ok (.invokevirtual 160, 3) := dgrp_at dg_b_85 28 rfl
theorem dX5_calls_49 : decode cX5_calls 49 = .ok (.iadd, 1) := dgrp_at dg_b_85 29 rfl
theorem dX5_calls_50 : decode cX5_calls 50 = .ok (.istore_n 2, 1) := dgrp_at dg_b_85 30 rfl
theorem dX5_calls_51 : decode cX5_calls 51 = .ok (.iinc 4 1, 3) := dgrp_at dg_b_85 31 rfl
def dl_b_86 : List (Nat × Instr × Nat) := [(54, .goto (-23), 3), (57, .iinc 3 1, 3), (60, .goto (-37), 3), (63, .iload_n 2, 1), (64, .ireturn, 1)]
theorem dg_b_86 : dgrp cX5_calls dl_b_86 = true := by decide +kernel
theorem dX5_calls_54 : decode cX5_calls 54 = .ok (.goto (-23), 3) := dgrp_at dg_b_86 0 rfl
theorem dX5_calls_57 : decode cX5_calls 57 = .ok (.iinc 3 1, 3) := dgrp_at dg_b_86 1 rfl
theorem dX5_calls_60 : decode cX5_calls 60 = .ok (.goto (-37), 3) := dgrp_at dg_b_86 2 rfl
theorem dX5_calls_63 : decode cX5_calls 63 = .ok (.iload_n 2, 1) := dgrp_at dg_b_86 3 rfl
theorem dX5_calls_64 : decode cX5_calls 64 = .ok (.ireturn, 1) := dgrp_at dg_b_86 4 rfl
def dl_b_87 : List (Nat × Instr × Nat) := [(0, .iload_n 1, 1), (1, .istore_n 3, 1), (2, .iconst 0, 1), (3, .istore 4, 2), (5, .iload 4, 2), (7, .iload_n 2, 1), (8, .if_icmp .ge 15, 3), (11, .aload_n 0, 1), (12, .iload_n 3, 1), (13, .invokevirtual 151, 3), (16, .istore_n 3, 1), (17, .iinc 4 1, 3), (20, .goto (-15), 3), (23, .iload_n 3, 1), (24, .ireturn, 1)]
theorem dg_b_87 : dgrp cX5_behind dl_b_87 = true := by decide +kernel
theorem dX5_behind_0 : decode cX5_behind 0 = .ok (.iload_n 1, 1) := dgrp_at dg_b_87 0 rfl
theorem dX5_behind_1 : decode cX5_behind 1 = .ok (.istore_n 3, 1) := dgrp_at dg_b_87 1 rfl
theorem dX5_behind_2 : decode cX5_behind 2 = .ok (.iconst 0, 1) := dgrp_at dg_b_87 2 rfl
theorem dX5_behind_3 : decode cX5_behind 3 = .ok (.istore 4, 2) := dgrp_at dg_b_87 3 rfl
theorem dX5_behind_5 : decode cX5_behind 5 = .ok (.iload 4, 2) := dgrp_at dg_b_87 4 rfl
theorem dX5_behind_7 : decode cX5_behind 7 = .ok (.iload_n 2, 1) := dgrp_at dg_b_87 5 rfl
theorem dX5_behind_8 : decode cX5_behind 8 = .ok (.if_icmp .ge 15, 3) := dgrp_at dg_b_87 6 rfl
theorem dX5_behind_11 : decode cX5_behind 11 = .ok (.aload_n 0, 1) := dgrp_at dg_b_87 7 rfl
theorem dX5_behind_12 : decode cX5_behind 12 = .ok (.iload_n 3, 1) := dgrp_at dg_b_87 8 rfl
theorem dX5_behind_13 : decode cX5_behind 13 = .ok (.invokevirtual 151, 3) := dgrp_at dg_b_87 9 rfl
theorem dX5_behind_16 : decode cX5_behind 16 = .ok (.istore_n 3, 1) := dgrp_at dg_b_87 10 rfl
theorem dX5_behind_17 : decode cX5_behind 17 = .ok (.iinc 4 1, 3) := dgrp_at dg_b_87 11 rfl
theorem dX5_behind_20 : decode cX5_behind 20 = .ok (.goto (-15), 3) := dgrp_at dg_b_87 12 rfl
theorem dX5_behind_23 : decode cX5_behind 23 = .ok (.iload_n 3, 1) := dgrp_at dg_b_87 13 rfl
theorem dX5_behind_24 : decode cX5_behind 24 = .ok (.ireturn, 1) := dgrp_at dg_b_87 14 rfl
def dl_b_88 : List (Nat × Instr × Nat) := [(0, .iload_n 1, 1), (1, .i2l, 1), (2, .lconst 1, 1), (3, .ldc2_w 165, 3), (6, .invokestatic 54, 3), (9, .ifCond .ne 10, 3), (12, .aload_n 0, 1), (13, .ldc 48, 2), (15, .invokevirtual 50, 3), (18, .ireturn, 1), (19, .aload_n 0, 1), (20, .getfield 7, 3), (23, .iconst 1, 1), (24, .aload_n 0, 1), (25, .aload_n 0, 1), (26, .getfield 7, 3), (29, .iconst 1, 1), (30, .iaload, 1), (31, .iload_n 1, 1), (32, .invokevirtual 167, 3), (35, .iastore, 1), (36, .aload_n 0, 1), (37, .getfield 7, 3), (40, .iconst 1, 1), (41, .iaload, 1), (42, .ireturn, 1)]
theorem dg_b_88 : dgrp cX5_rounds dl_b_88 = true := by decide +kernel
theorem dX5_rounds_0 : decode cX5_rounds 0 = .ok (.iload_n 1, 1) := dgrp_at dg_b_88 0 rfl
theorem dX5_rounds_1 : decode cX5_rounds 1 = .ok (.i2l, 1) := dgrp_at dg_b_88 1 rfl
theorem dX5_rounds_2 : decode cX5_rounds 2 = .ok (.lconst 1, 1) := dgrp_at dg_b_88 2 rfl
theorem dX5_rounds_3 : decode cX5_rounds 3 = .ok (.ldc2_w 165, 3) := dgrp_at dg_b_88 3 rfl
theorem dX5_rounds_6 : decode cX5_rounds 6 = .ok (.invokestatic 54, 3) := dgrp_at dg_b_88 4 rfl
theorem dX5_rounds_9 : decode cX5_rounds 9 = .ok (.ifCond .ne 10, 3) := dgrp_at dg_b_88 5 rfl
theorem dX5_rounds_12 : decode cX5_rounds 12 = .ok (.aload_n 0, 1) := dgrp_at dg_b_88 6 rfl
theorem dX5_rounds_13 : decode cX5_rounds 13 = .ok (.ldc 48, 2) := dgrp_at dg_b_88 7 rfl
theorem dX5_rounds_15 : decode cX5_rounds 15 = .ok (.invokevirtual 50, 3) := dgrp_at dg_b_88 8 rfl
theorem dX5_rounds_18 : decode cX5_rounds 18 = .ok (.ireturn, 1) := dgrp_at dg_b_88 9 rfl
theorem dX5_rounds_19 : decode cX5_rounds 19 = .ok (.aload_n 0, 1) := dgrp_at dg_b_88 10 rfl
theorem dX5_rounds_20 : decode cX5_rounds 20 = .ok (.getfield 7, 3) := dgrp_at dg_b_88 11 rfl
theorem dX5_rounds_23 : decode cX5_rounds 23 = .ok (.iconst 1, 1) := dgrp_at dg_b_88 12 rfl
theorem dX5_rounds_24 : decode cX5_rounds 24 = .ok (.aload_n 0, 1) := dgrp_at dg_b_88 13 rfl
theorem dX5_rounds_25 : decode cX5_rounds 25 = .ok (.aload_n 0, 1) := dgrp_at dg_b_88 14 rfl
theorem dX5_rounds_26 : decode cX5_rounds 26 = .ok (.getfield 7, 3) := dgrp_at dg_b_88 15 rfl
theorem dX5_rounds_29 : decode cX5_rounds 29 = .ok (.iconst 1, 1) := dgrp_at dg_b_88 16 rfl
theorem dX5_rounds_30 : decode cX5_rounds 30 = .ok (.iaload, 1) := dgrp_at dg_b_88 17 rfl
theorem dX5_rounds_31 : decode cX5_rounds 31 = .ok (.iload_n 1, 1) := dgrp_at dg_b_88 18 rfl
theorem dX5_rounds_32 : decode cX5_rounds 32 = .ok (.invokevirtual 167, 3) := dgrp_at dg_b_88 19 rfl
theorem dX5_rounds_35 : decode cX5_rounds 35 = .ok (.iastore, 1) := dgrp_at dg_b_88 20 rfl
theorem dX5_rounds_36 : decode cX5_rounds 36 = .ok (.aload_n 0, 1) := dgrp_at dg_b_88 21 rfl
theorem dX5_rounds_37 : decode cX5_rounds 37 = .ok (.getfield 7, 3) := dgrp_at dg_b_88 22 rfl
theorem dX5_rounds_40 : decode cX5_rounds 40 = .ok (.iconst 1, 1) := dgrp_at dg_b_88 23 rfl
theorem dX5_rounds_41 : decode cX5_rounds 41 = .ok (.iaload, 1) := dgrp_at dg_b_88 24 rfl
theorem dX5_rounds_42 : decode cX5_rounds 42 = .ok (.ireturn, 1) := dgrp_at dg_b_88 25 rfl
def dl_b_89 : List (Nat × Instr × Nat) := [(0, .iload_n 1, 1), (1, .i2l, 1), (2, .lconst 0, 1), (3, .ldc2_w 165, 3), (6, .invokestatic 54, 3), (9, .ifCond .eq 17, 3), (12, .aload_n 0, 1), (13, .aload_n 0, 1), (14, .getfield 7, 3), (17, .iconst 1, 1), (18, .iaload, 1), (19, .iload_n 1, 1), (20, .invokevirtual 167, 3), (23, .goto 9, 3), (26, .aload_n 0, 1), (27, .ldc 48, 2), (29, .invokevirtual 50, 3), (32, .ireturn, 1)]
theorem dg_b_89 : dgrp cX5_on dl_b_89 = true := by decide +kernel
theorem dX5_on_0 : decode cX5_on 0 = .ok (.iload_n 1, 1) := dgrp_at dg_b_89 0 rfl
theorem dX5_on_1 : decode cX5_on 1 = .ok (.i2l, 1) := dgrp_at dg_b_89 1 rfl
theorem dX5_on_2 : decode cX5_on 2 = .ok (.lconst 0, 1) := dgrp_at dg_b_89 2 rfl
theorem dX5_on_3 : decode cX5_on 3 = .ok (.ldc2_w 165, 3) := dgrp_at dg_b_89 3 rfl
theorem dX5_on_6 : decode cX5_on 6 = .ok (.invokestatic 54, 3) := dgrp_at dg_b_89 4 rfl
theorem dX5_on_9 : decode cX5_on 9 = .ok (.ifCond .eq 17, 3) := dgrp_at dg_b_89 5 rfl
theorem dX5_on_12 : decode cX5_on 12 = .ok (.aload_n 0, 1) := dgrp_at dg_b_89 6 rfl
theorem dX5_on_13 : decode cX5_on 13 = .ok (.aload_n 0, 1) := dgrp_at dg_b_89 7 rfl
theorem dX5_on_14 : decode cX5_on 14 = .ok (.getfield 7, 3) := dgrp_at dg_b_89 8 rfl
theorem dX5_on_17 : decode cX5_on 17 = .ok (.iconst 1, 1) := dgrp_at dg_b_89 9 rfl
theorem dX5_on_18 : decode cX5_on 18 = .ok (.iaload, 1) := dgrp_at dg_b_89 10 rfl
theorem dX5_on_19 : decode cX5_on 19 = .ok (.iload_n 1, 1) := dgrp_at dg_b_89 11 rfl
theorem dX5_on_20 : decode cX5_on 20 = .ok (.invokevirtual 167, 3) := dgrp_at dg_b_89 12 rfl
theorem dX5_on_23 : decode cX5_on 23 = .ok (.goto 9, 3) := dgrp_at dg_b_89 13 rfl
theorem dX5_on_26 : decode cX5_on 26 = .ok (.aload_n 0, 1) := dgrp_at dg_b_89 14 rfl
theorem dX5_on_27 : decode cX5_on 27 = .ok (.ldc 48, 2) := dgrp_at dg_b_89 15 rfl
theorem dX5_on_29 : decode cX5_on 29 = .ok (.invokevirtual 50, 3) := dgrp_at dg_b_89 16 rfl
theorem dX5_on_32 : decode cX5_on 32 = .ok (.ireturn, 1) := dgrp_at dg_b_89 17 rfl
def dl_b_90 : List (Nat × Instr × Nat) := [(0, .iconst 0, 1), (1, .istore_n 1, 1), (2, .iload_n 1, 1), (3, .aload_n 0, 1), (4, .invokevirtual 58, 3), (7, .if_icmp .ge 20, 3), (10, .aload_n 0, 1), (11, .getfield 29, 3), (14, .iload_n 1, 1), (15, .aload_n 0, 1), (16, .iload_n 1, 1), (17, .invokevirtual 151, 3), (20, .iastore, 1), (21, .iinc 1 1, 3), (24, .goto (-22), 3), (27, .return_, 1)]
theorem dg_b_90 : dgrp cX5_looksAll dl_b_90 = true := by decide +kernel
theorem dX5_looksAll_0 : decode cX5_looksAll 0 = .ok (.iconst 0, 1) := dgrp_at dg_b_90 0 rfl
theorem dX5_looksAll_1 : decode cX5_looksAll 1 = .ok (.istore_n 1, 1) := dgrp_at dg_b_90 1 rfl
theorem dX5_looksAll_2 : decode cX5_looksAll 2 = .ok (.iload_n 1, 1) := dgrp_at dg_b_90 2 rfl
theorem dX5_looksAll_3 : decode cX5_looksAll 3 = .ok (.aload_n 0, 1) := dgrp_at dg_b_90 3 rfl
theorem dX5_looksAll_4 : decode cX5_looksAll 4 = .ok (.invokevirtual 58, 3) := dgrp_at dg_b_90 4 rfl
theorem dX5_looksAll_7 : decode cX5_looksAll 7 = .ok (.if_icmp .ge 20, 3) := dgrp_at dg_b_90 5 rfl
theorem dX5_looksAll_10 : decode cX5_looksAll 10 = .ok (.aload_n 0, 1) := dgrp_at dg_b_90 6 rfl
theorem dX5_looksAll_11 : decode cX5_looksAll 11 = .ok (.getfield 29, 3) := dgrp_at dg_b_90 7 rfl
theorem dX5_looksAll_14 : decode cX5_looksAll 14 = .ok (.iload_n 1, 1) := dgrp_at dg_b_90 8 rfl
theorem dX5_looksAll_15 : decode cX5_looksAll 15 = .ok (.aload_n 0, 1) := dgrp_at dg_b_90 9 rfl
theorem dX5_looksAll_16 : decode cX5_looksAll 16 = .ok (.iload_n 1, 1) := dgrp_at dg_b_90 10 rfl
theorem dX5_looksAll_17 : decode cX5_looksAll 17 = .ok (.invokevirtual 151, 3) := dgrp_at dg_b_90 11 rfl
theorem dX5_looksAll_20 : decode cX5_looksAll 20 = .ok (.iastore, 1) := dgrp_at dg_b_90 12 rfl
theorem dX5_looksAll_21 : decode cX5_looksAll 21 = .ok (.iinc 1 1, 3) := dgrp_at dg_b_90 13 rfl
theorem dX5_looksAll_24 : decode cX5_looksAll 24 = .ok (.goto (-22), 3) := dgrp_at dg_b_90 14 rfl
theorem dX5_looksAll_27 : decode cX5_looksAll 27 = .ok (.return_, 1) := dgrp_at dg_b_90 15 rfl
def dl_b_91 : List (Nat × Instr × Nat) := [(0, .aload_n 0, 1), (1, .invokevirtual 170, 3), (4, .aload_n 0, 1), (5, .getfield 7, 3), (8, .iconst 1, 1), (9, .iaload, 1), (10, .istore_n 1, 1), (11, .iconst 0, 1), (12, .istore_n 2, 1), (13, .iload_n 2, 1), (14, .sipush 256, 3), (17, .if_icmp .ge 26, 3), (20, .aload_n 0, 1), (21, .getfield 29, 3), (24, .iload_n 1, 1), (25, .iaload, 1), (26, .iload_n 1, 1), (27, .if_icmp .eq 16, 3), (30, .aload_n 0, 1), (31, .getfield 29, 3), (34, .iload_n 1, 1), (35, .iaload, 1), (36, .istore_n 1, 1), (37, .iinc 2 1, 3), (40, .goto (-27), 3), (43, .aload_n 0, 1), (44, .getfield 29, 3), (47, .iload_n 1, 1), (48, .iaload, 1), (49, .iload_n 1, 1), (50, .if_icmp .ne 7, 3), (53, .iload_n 2, 1)]
theorem dg_b_91 : dgrp cX5_when dl_b_91 = true := by decide +kernel
theorem dX5_when_0 : decode cX5_when 0 = .ok (.aload_n 0, 1) := dgrp_at dg_b_91 0 rfl
theorem dX5_when_1 : decode cX5_when 1 = .ok (.invokevirtual 170, 3) := dgrp_at dg_b_91 1 rfl
theorem dX5_when_4 : decode cX5_when 4 = .ok (.aload_n 0, 1) := dgrp_at dg_b_91 2 rfl
theorem dX5_when_5 : decode cX5_when 5 = .ok (.getfield 7, 3) := dgrp_at dg_b_91 3 rfl
theorem dX5_when_8 : decode cX5_when 8 = .ok (.iconst 1, 1) := dgrp_at dg_b_91 4 rfl
theorem dX5_when_9 : decode cX5_when 9 = .ok (.iaload, 1) := dgrp_at dg_b_91 5 rfl
theorem dX5_when_10 : decode cX5_when 10 = .ok (.istore_n 1, 1) := dgrp_at dg_b_91 6 rfl
theorem dX5_when_11 : decode cX5_when 11 = .ok (.iconst 0, 1) := dgrp_at dg_b_91 7 rfl
theorem dX5_when_12 : decode cX5_when 12 = .ok (.istore_n 2, 1) := dgrp_at dg_b_91 8 rfl
theorem dX5_when_13 : decode cX5_when 13 = .ok (.iload_n 2, 1) := dgrp_at dg_b_91 9 rfl
theorem dX5_when_14 : decode cX5_when 14 = .ok (.sipush 256, 3) := dgrp_at dg_b_91 10 rfl
theorem dX5_when_17 : decode cX5_when 17 = .ok (.if_icmp .ge 26, 3) := dgrp_at dg_b_91 11 rfl
theorem dX5_when_20 : decode cX5_when 20 = .ok (.aload_n 0, 1) := dgrp_at dg_b_91 12 rfl
theorem dX5_when_21 : decode cX5_when 21 = .ok (.getfield 29, 3) := dgrp_at dg_b_91 13 rfl
theorem dX5_when_24 : decode cX5_when 24 = .ok (.iload_n 1, 1) := dgrp_at dg_b_91 14 rfl
theorem dX5_when_25 : decode cX5_when 25 = .ok (.iaload, 1) := dgrp_at dg_b_91 15 rfl
theorem dX5_when_26 : decode cX5_when 26 = .ok (.iload_n 1, 1) := dgrp_at dg_b_91 16 rfl
theorem dX5_when_27 : decode cX5_when 27 = .ok (.if_icmp .eq 16, 3) := dgrp_at dg_b_91 17 rfl
theorem dX5_when_30 : decode cX5_when 30 = .ok (.aload_n 0, 1) := dgrp_at dg_b_91 18 rfl
theorem dX5_when_31 : decode cX5_when 31 = .ok (.getfield 29, 3) := dgrp_at dg_b_91 19 rfl
theorem dX5_when_34 : decode cX5_when 34 = .ok (.iload_n 1, 1) := dgrp_at dg_b_91 20 rfl
theorem dX5_when_35 : decode cX5_when 35 = .ok (.iaload, 1) := dgrp_at dg_b_91 21 rfl
theorem dX5_when_36 : decode cX5_when 36 = .ok (.istore_n 1, 1) := dgrp_at dg_b_91 22 rfl
theorem dX5_when_37 : decode cX5_when 37 = .ok (.iinc 2 1, 3) := dgrp_at dg_b_91 23 rfl
theorem dX5_when_40 : decode cX5_when 40 = .ok (.goto (-27), 3) := dgrp_at dg_b_91 24 rfl
theorem dX5_when_43 : decode cX5_when 43 = .ok (.aload_n 0, 1) := dgrp_at dg_b_91 25 rfl
theorem dX5_when_44 : decode cX5_when 44 = .ok (.getfield 29, 3) := dgrp_at dg_b_91 26 rfl
theorem dX5_when_47 : decode cX5_when 47 = .ok (.iload_n 1, 1) := dgrp_at dg_b_91 27 rfl
theorem dX5_when_48 : decode cX5_when 48 = .ok (.iaload, 1) := dgrp_at dg_b_91 28 rfl
theorem dX5_when_49 : decode cX5_when 49 = .ok (.iload_n 1, 1) := dgrp_at dg_b_91 29 rfl
theorem dX5_when_50 : decode cX5_when 50 = .ok (.if_icmp .ne 7, 3) := dgrp_at dg_b_91 30 rfl
theorem dX5_when_53 : decode cX5_when 53 = .ok (.iload_n 2, 1) := dgrp_at dg_b_91 31 rfl
def dl_b_92 : List (Nat × Instr × Nat) := [(54, .goto 9, 3), (57, .aload_n 0, 1), (58, .ldc 49, 2), (60, .invokevirtual 50, 3), (63, .ireturn, 1)]
theorem dg_b_92 : dgrp cX5_when dl_b_92 = true := by decide +kernel
theorem dX5_when_54 : decode cX5_when 54 = .ok (.goto 9, 3) := dgrp_at dg_b_92 0 rfl
theorem dX5_when_57 : decode cX5_when 57 = .ok (.aload_n 0, 1) := dgrp_at dg_b_92 1 rfl
theorem dX5_when_58 : decode cX5_when 58 = .ok (.ldc 49, 2) := dgrp_at dg_b_92 2 rfl
theorem dX5_when_60 : decode cX5_when 60 = .ok (.invokevirtual 50, 3) := dgrp_at dg_b_92 3 rfl
theorem dX5_when_63 : decode cX5_when 63 = .ok (.ireturn, 1) := dgrp_at dg_b_92 4 rfl
def dl_b_93 : List (Nat × Instr × Nat) := [(0, .iload_n 1, 1), (1, .i2l, 1), (2, .lconst 0, 1), (3, .lconst 1, 1), (4, .invokestatic 54, 3), (7, .ifCond .ne 10, 3), (10, .aload_n 0, 1), (11, .ldc 48, 2), (13, .invokevirtual 50, 3), (16, .ireturn, 1), (17, .aload_n 0, 1), (18, .invokevirtual 170, 3), (21, .iconst 0, 1), (22, .istore_n 2, 1), (23, .iload_n 2, 1), (24, .sipush 256, 3), (27, .if_icmp .ge 16, 3), (30, .aload_n 0, 1), (31, .getfield 32, 3), (34, .iload_n 2, 1), (35, .iconst (-1), 1), (36, .iastore, 1), (37, .iinc 2 1, 3), (40, .goto (-17), 3), (43, .aload_n 0, 1), (44, .getfield 7, 3), (47, .iconst 1, 1), (48, .iaload, 1), (49, .istore_n 2, 1), (50, .iconst 0, 1), (51, .istore_n 3, 1), (52, .aload_n 0, 1)]
theorem dg_b_93 : dgrp cX5_ring dl_b_93 = true := by decide +kernel
theorem dX5_ring_0 : decode cX5_ring 0 = .ok (.iload_n 1, 1) := dgrp_at dg_b_93 0 rfl
theorem dX5_ring_1 : decode cX5_ring 1 = .ok (.i2l, 1) := dgrp_at dg_b_93 1 rfl
theorem dX5_ring_2 : decode cX5_ring 2 = .ok (.lconst 0, 1) := dgrp_at dg_b_93 2 rfl
theorem dX5_ring_3 : decode cX5_ring 3 = .ok (.lconst 1, 1) := dgrp_at dg_b_93 3 rfl
theorem dX5_ring_4 : decode cX5_ring 4 = .ok (.invokestatic 54, 3) := dgrp_at dg_b_93 4 rfl
theorem dX5_ring_7 : decode cX5_ring 7 = .ok (.ifCond .ne 10, 3) := dgrp_at dg_b_93 5 rfl
theorem dX5_ring_10 : decode cX5_ring 10 = .ok (.aload_n 0, 1) := dgrp_at dg_b_93 6 rfl
theorem dX5_ring_11 : decode cX5_ring 11 = .ok (.ldc 48, 2) := dgrp_at dg_b_93 7 rfl
theorem dX5_ring_13 : decode cX5_ring 13 = .ok (.invokevirtual 50, 3) := dgrp_at dg_b_93 8 rfl
theorem dX5_ring_16 : decode cX5_ring 16 = .ok (.ireturn, 1) := dgrp_at dg_b_93 9 rfl
theorem dX5_ring_17 : decode cX5_ring 17 = .ok (.aload_n 0, 1) := dgrp_at dg_b_93 10 rfl
theorem dX5_ring_18 : decode cX5_ring 18 = .ok (.invokevirtual 170, 3) := dgrp_at dg_b_93 11 rfl
theorem dX5_ring_21 : decode cX5_ring 21 = .ok (.iconst 0, 1) := dgrp_at dg_b_93 12 rfl
theorem dX5_ring_22 : decode cX5_ring 22 = .ok (.istore_n 2, 1) := dgrp_at dg_b_93 13 rfl
theorem dX5_ring_23 : decode cX5_ring 23 = .ok (.iload_n 2, 1) := dgrp_at dg_b_93 14 rfl
theorem dX5_ring_24 : decode cX5_ring 24 = .ok (.sipush 256, 3) := dgrp_at dg_b_93 15 rfl
theorem dX5_ring_27 : decode cX5_ring 27 = .ok (.if_icmp .ge 16, 3) := dgrp_at dg_b_93 16 rfl
theorem dX5_ring_30 : decode cX5_ring 30 = .ok (.aload_n 0, 1) := dgrp_at dg_b_93 17 rfl
theorem dX5_ring_31 : decode cX5_ring 31 = .ok (.getfield 32, 3) := dgrp_at dg_b_93 18 rfl
theorem dX5_ring_34 : decode cX5_ring 34 = .ok (.iload_n 2, 1) := dgrp_at dg_b_93 19 rfl
theorem dX5_ring_35 : decode cX5_ring 35 = .ok (.iconst (-1), 1) := dgrp_at dg_b_93 20 rfl
theorem dX5_ring_36 : decode cX5_ring 36 = .ok (.iastore, 1) := dgrp_at dg_b_93 21 rfl
theorem dX5_ring_37 : decode cX5_ring 37 = .ok (.iinc 2 1, 3) := dgrp_at dg_b_93 22 rfl
theorem dX5_ring_40 : decode cX5_ring 40 = .ok (.goto (-17), 3) := dgrp_at dg_b_93 23 rfl
theorem dX5_ring_43 : decode cX5_ring 43 = .ok (.aload_n 0, 1) := dgrp_at dg_b_93 24 rfl
theorem dX5_ring_44 : decode cX5_ring 44 = .ok (.getfield 7, 3) := dgrp_at dg_b_93 25 rfl
theorem dX5_ring_47 : decode cX5_ring 47 = .ok (.iconst 1, 1) := dgrp_at dg_b_93 26 rfl
theorem dX5_ring_48 : decode cX5_ring 48 = .ok (.iaload, 1) := dgrp_at dg_b_93 27 rfl
theorem dX5_ring_49 : decode cX5_ring 49 = .ok (.istore_n 2, 1) := dgrp_at dg_b_93 28 rfl
theorem dX5_ring_50 : decode cX5_ring 50 = .ok (.iconst 0, 1) := dgrp_at dg_b_93 29 rfl
theorem dX5_ring_51 : decode cX5_ring 51 = .ok (.istore_n 3, 1) := dgrp_at dg_b_93 30 rfl
theorem dX5_ring_52 : decode cX5_ring 52 = .ok (.aload_n 0, 1) := dgrp_at dg_b_93 31 rfl
def dl_b_94 : List (Nat × Instr × Nat) := [(53, .getfield 32, 3), (56, .iload_n 2, 1), (57, .iaload, 1), (58, .ifCond .ge 23, 3), (61, .aload_n 0, 1), (62, .getfield 32, 3), (65, .iload_n 2, 1), (66, .iload_n 3, 1), (67, .iastore, 1), (68, .aload_n 0, 1), (69, .getfield 29, 3), (72, .iload_n 2, 1), (73, .iaload, 1), (74, .istore_n 2, 1), (75, .iinc 3 1, 3), (78, .goto (-26), 3), (81, .iload_n 1, 1), (82, .ifCond .ne 12, 3), (85, .aload_n 0, 1), (86, .getfield 32, 3), (89, .iload_n 2, 1), (90, .iaload, 1), (91, .goto 11, 3), (94, .iload_n 3, 1), (95, .aload_n 0, 1), (96, .getfield 32, 3), (99, .iload_n 2, 1), (100, .iaload, 1), (101, .isub, 1), (102, .ireturn, 1)]
theorem dg_b_94 : dgrp cX5_ring dl_b_94 = true := by decide +kernel
theorem dX5_ring_53 : decode cX5_ring 53 = .ok (.getfield 32, 3) := dgrp_at dg_b_94 0 rfl
theorem dX5_ring_56 : decode cX5_ring 56 = .ok (.iload_n 2, 1) := dgrp_at dg_b_94 1 rfl
theorem dX5_ring_57 : decode cX5_ring 57 = .ok (.iaload, 1) := dgrp_at dg_b_94 2 rfl
theorem dX5_ring_58 : decode cX5_ring 58 = .ok (.ifCond .ge 23, 3) := dgrp_at dg_b_94 3 rfl
theorem dX5_ring_61 : decode cX5_ring 61 = .ok (.aload_n 0, 1) := dgrp_at dg_b_94 4 rfl
theorem dX5_ring_62 : decode cX5_ring 62 = .ok (.getfield 32, 3) := dgrp_at dg_b_94 5 rfl
theorem dX5_ring_65 : decode cX5_ring 65 = .ok (.iload_n 2, 1) := dgrp_at dg_b_94 6 rfl
theorem dX5_ring_66 : decode cX5_ring 66 = .ok (.iload_n 3, 1) := dgrp_at dg_b_94 7 rfl
theorem dX5_ring_67 : decode cX5_ring 67 = .ok (.iastore, 1) := dgrp_at dg_b_94 8 rfl
theorem dX5_ring_68 : decode cX5_ring 68 = .ok (.aload_n 0, 1) := dgrp_at dg_b_94 9 rfl
theorem dX5_ring_69 : decode cX5_ring 69 = .ok (.getfield 29, 3) := dgrp_at dg_b_94 10 rfl
theorem dX5_ring_72 : decode cX5_ring 72 = .ok (.iload_n 2, 1) := dgrp_at dg_b_94 11 rfl
theorem dX5_ring_73 : decode cX5_ring 73 = .ok (.iaload, 1) := dgrp_at dg_b_94 12 rfl
theorem dX5_ring_74 : decode cX5_ring 74 = .ok (.istore_n 2, 1) := dgrp_at dg_b_94 13 rfl
theorem dX5_ring_75 : decode cX5_ring 75 = .ok (.iinc 3 1, 3) := dgrp_at dg_b_94 14 rfl
theorem dX5_ring_78 : decode cX5_ring 78 = .ok (.goto (-26), 3) := dgrp_at dg_b_94 15 rfl
theorem dX5_ring_81 : decode cX5_ring 81 = .ok (.iload_n 1, 1) := dgrp_at dg_b_94 16 rfl
theorem dX5_ring_82 : decode cX5_ring 82 = .ok (.ifCond .ne 12, 3) := dgrp_at dg_b_94 17 rfl
theorem dX5_ring_85 : decode cX5_ring 85 = .ok (.aload_n 0, 1) := dgrp_at dg_b_94 18 rfl
theorem dX5_ring_86 : decode cX5_ring 86 = .ok (.getfield 32, 3) := dgrp_at dg_b_94 19 rfl
theorem dX5_ring_89 : decode cX5_ring 89 = .ok (.iload_n 2, 1) := dgrp_at dg_b_94 20 rfl
theorem dX5_ring_90 : decode cX5_ring 90 = .ok (.iaload, 1) := dgrp_at dg_b_94 21 rfl
theorem dX5_ring_91 : decode cX5_ring 91 = .ok (.goto 11, 3) := dgrp_at dg_b_94 22 rfl
theorem dX5_ring_94 : decode cX5_ring 94 = .ok (.iload_n 3, 1) := dgrp_at dg_b_94 23 rfl
theorem dX5_ring_95 : decode cX5_ring 95 = .ok (.aload_n 0, 1) := dgrp_at dg_b_94 24 rfl
theorem dX5_ring_96 : decode cX5_ring 96 = .ok (.getfield 32, 3) := dgrp_at dg_b_94 25 rfl
theorem dX5_ring_99 : decode cX5_ring 99 = .ok (.iload_n 2, 1) := dgrp_at dg_b_94 26 rfl
theorem dX5_ring_100 : decode cX5_ring 100 = .ok (.iaload, 1) := dgrp_at dg_b_94 27 rfl
theorem dX5_ring_101 : decode cX5_ring 101 = .ok (.isub, 1) := dgrp_at dg_b_94 28 rfl
theorem dX5_ring_102 : decode cX5_ring 102 = .ok (.ireturn, 1) := dgrp_at dg_b_94 29 rfl
def dl_b_95 : List (Nat × Instr × Nat) := [(0, .iconst 0, 1), (1, .istore_n 1, 1), (2, .iload_n 1, 1), (3, .aload_n 0, 1), (4, .invokevirtual 58, 3), (7, .if_icmp .ge 29, 3), (10, .aload_n 0, 1), (11, .getfield 32, 3), (14, .iload_n 1, 1), (15, .aload_n 0, 1), (16, .iload_n 1, 1), (17, .invokevirtual 151, 3), (20, .iload_n 1, 1), (21, .if_icmp .ne 7, 3), (24, .iconst 0, 1), (25, .goto 4, 3), (28, .iconst (-1), 1), (29, .iastore, 1), (30, .iinc 1 1, 3), (33, .goto (-31), 3), (36, .iconst 1, 1), (37, .istore_n 1, 1), (38, .iconst 1, 1), (39, .istore_n 2, 1), (40, .iload_n 1, 1), (41, .ifCond .eq 83, 3), (44, .iconst 0, 1), (45, .istore_n 1, 1), (46, .iconst 0, 1), (47, .istore_n 3, 1), (48, .iload_n 3, 1), (49, .aload_n 0, 1)]
theorem dg_b_95 : dgrp cX5_looksFar dl_b_95 = true := by decide +kernel
theorem dX5_looksFar_0 : decode cX5_looksFar 0 = .ok (.iconst 0, 1) := dgrp_at dg_b_95 0 rfl
theorem dX5_looksFar_1 : decode cX5_looksFar 1 = .ok (.istore_n 1, 1) := dgrp_at dg_b_95 1 rfl
theorem dX5_looksFar_2 : decode cX5_looksFar 2 = .ok (.iload_n 1, 1) := dgrp_at dg_b_95 2 rfl
theorem dX5_looksFar_3 : decode cX5_looksFar 3 = .ok (.aload_n 0, 1) := dgrp_at dg_b_95 3 rfl
theorem dX5_looksFar_4 : decode cX5_looksFar 4 = .ok (.invokevirtual 58, 3) := dgrp_at dg_b_95 4 rfl
theorem dX5_looksFar_7 : decode cX5_looksFar 7 = .ok (.if_icmp .ge 29, 3) := dgrp_at dg_b_95 5 rfl
theorem dX5_looksFar_10 : decode cX5_looksFar 10 = .ok (.aload_n 0, 1) := dgrp_at dg_b_95 6 rfl
theorem dX5_looksFar_11 : decode cX5_looksFar 11 = .ok (.getfield 32, 3) := dgrp_at dg_b_95 7 rfl
theorem dX5_looksFar_14 : decode cX5_looksFar 14 = .ok (.iload_n 1, 1) := dgrp_at dg_b_95 8 rfl
theorem dX5_looksFar_15 : decode cX5_looksFar 15 = .ok (.aload_n 0, 1) := dgrp_at dg_b_95 9 rfl
theorem dX5_looksFar_16 : decode cX5_looksFar 16 = .ok (.iload_n 1, 1) := dgrp_at dg_b_95 10 rfl
theorem dX5_looksFar_17 : decode cX5_looksFar 17 = .ok (.invokevirtual 151, 3) := dgrp_at dg_b_95 11 rfl
theorem dX5_looksFar_20 : decode cX5_looksFar 20 = .ok (.iload_n 1, 1) := dgrp_at dg_b_95 12 rfl
theorem dX5_looksFar_21 : decode cX5_looksFar 21 = .ok (.if_icmp .ne 7, 3) := dgrp_at dg_b_95 13 rfl
theorem dX5_looksFar_24 : decode cX5_looksFar 24 = .ok (.iconst 0, 1) := dgrp_at dg_b_95 14 rfl
theorem dX5_looksFar_25 : decode cX5_looksFar 25 = .ok (.goto 4, 3) := dgrp_at dg_b_95 15 rfl
theorem dX5_looksFar_28 : decode cX5_looksFar 28 = .ok (.iconst (-1), 1) := dgrp_at dg_b_95 16 rfl
theorem dX5_looksFar_29 : decode cX5_looksFar 29 = .ok (.iastore, 1) := dgrp_at dg_b_95 17 rfl
theorem dX5_looksFar_30 : decode cX5_looksFar 30 = .ok (.iinc 1 1, 3) := dgrp_at dg_b_95 18 rfl
theorem dX5_looksFar_33 : decode cX5_looksFar 33 = .ok (.goto (-31), 3) := dgrp_at dg_b_95 19 rfl
theorem dX5_looksFar_36 : decode cX5_looksFar 36 = .ok (.iconst 1, 1) := dgrp_at dg_b_95 20 rfl
theorem dX5_looksFar_37 : decode cX5_looksFar 37 = .ok (.istore_n 1, 1) := dgrp_at dg_b_95 21 rfl
theorem dX5_looksFar_38 : decode cX5_looksFar 38 = .ok (.iconst 1, 1) := dgrp_at dg_b_95 22 rfl
theorem dX5_looksFar_39 : decode cX5_looksFar 39 = .ok (.istore_n 2, 1) := dgrp_at dg_b_95 23 rfl
theorem dX5_looksFar_40 : decode cX5_looksFar 40 = .ok (.iload_n 1, 1) := dgrp_at dg_b_95 24 rfl
theorem dX5_looksFar_41 : decode cX5_looksFar 41 = .ok (.ifCond .eq 83, 3) := dgrp_at dg_b_95 25 rfl
theorem dX5_looksFar_44 : decode cX5_looksFar 44 = .ok (.iconst 0, 1) := dgrp_at dg_b_95 26 rfl
theorem dX5_looksFar_45 : decode cX5_looksFar 45 = .ok (.istore_n 1, 1) := dgrp_at dg_b_95 27 rfl
theorem dX5_looksFar_46 : decode cX5_looksFar 46 = .ok (.iconst 0, 1) := dgrp_at dg_b_95 28 rfl
theorem dX5_looksFar_47 : decode cX5_looksFar 47 = .ok (.istore_n 3, 1) := dgrp_at dg_b_95 29 rfl
theorem dX5_looksFar_48 : decode cX5_looksFar 48 = .ok (.iload_n 3, 1) := dgrp_at dg_b_95 30 rfl
theorem dX5_looksFar_49 : decode cX5_looksFar 49 = .ok (.aload_n 0, 1) := dgrp_at dg_b_95 31 rfl
def dl_b_96 : List (Nat × Instr × Nat) := [(50, .invokevirtual 58, 3), (53, .if_icmp .ge 65, 3), (56, .iconst 0, 1), (57, .istore 4, 2), (59, .iload 4, 2), (61, .aload_n 0, 1), (62, .getfield 7, 3), (65, .iconst 0, 1), (66, .iaload, 1), (67, .if_icmp .ge 45, 3), (70, .aload_n 0, 1), (71, .getfield 32, 3), (74, .iload_n 3, 1), (75, .iaload, 1), (76, .ifCond .ge 36, 3), (79, .aload_n 0, 1), (80, .getfield 32, 3), (83, .aload_n 0, 1), (84, .iload_n 3, 1), (85, .iload 4, 2), (87, .invokevirtual 157, 3), (90, .iaload, 1), (91, .iload_n 2, 1), (92, .iconst 1, 1), (93, .isub, 1), (94, .if_icmp .ne 12, 3), (97, .aload_n 0, 1), (98, .getfield 32, 3), (101, .iload_n 3, 1), (102, .iload_n 2, 1), (103, .iastore, 1), (104, .iconst 1, 1)]
theorem dg_b_96 : dgrp cX5_looksFar dl_b_96 = true := by decide +kernel
theorem dX5_looksFar_50 : decode cX5_looksFar 50 = .ok (.invokevirtual 58, 3) := dgrp_at dg_b_96 0 rfl
theorem dX5_looksFar_53 : decode cX5_looksFar 53 = .ok (.if_icmp .ge 65, 3) := dgrp_at dg_b_96 1 rfl
theorem dX5_looksFar_56 : decode cX5_looksFar 56 = .ok (.iconst 0, 1) := dgrp_at dg_b_96 2 rfl
theorem dX5_looksFar_57 : decode cX5_looksFar 57 = .ok (.istore 4, 2) := dgrp_at dg_b_96 3 rfl
theorem dX5_looksFar_59 : decode cX5_looksFar 59 = .ok (.iload 4, 2) := dgrp_at dg_b_96 4 rfl
theorem dX5_looksFar_61 : decode cX5_looksFar 61 = .ok (.aload_n 0, 1) := dgrp_at dg_b_96 5 rfl
theorem dX5_looksFar_62 : decode cX5_looksFar 62 = .ok (.getfield 7, 3) := dgrp_at dg_b_96 6 rfl
theorem dX5_looksFar_65 : decode cX5_looksFar 65 = .ok (.iconst 0, 1) := dgrp_at dg_b_96 7 rfl
theorem dX5_looksFar_66 : decode cX5_looksFar 66 = .ok (.iaload, 1) := dgrp_at dg_b_96 8 rfl
theorem dX5_looksFar_67 : decode cX5_looksFar 67 = .ok (.if_icmp .ge 45, 3) := dgrp_at dg_b_96 9 rfl
theorem dX5_looksFar_70 : decode cX5_looksFar 70 = .ok (.aload_n 0, 1) := dgrp_at dg_b_96 10 rfl
theorem dX5_looksFar_71 : decode cX5_looksFar 71 = .ok (.getfield 32, 3) := dgrp_at dg_b_96 11 rfl
theorem dX5_looksFar_74 : decode cX5_looksFar 74 = .ok (.iload_n 3, 1) := dgrp_at dg_b_96 12 rfl
theorem dX5_looksFar_75 : decode cX5_looksFar 75 = .ok (.iaload, 1) := dgrp_at dg_b_96 13 rfl
theorem dX5_looksFar_76 : decode cX5_looksFar 76 = .ok (.ifCond .ge 36, 3) := dgrp_at dg_b_96 14 rfl
theorem dX5_looksFar_79 : decode cX5_looksFar 79 = .ok (.aload_n 0, 1) := dgrp_at dg_b_96 15 rfl
theorem dX5_looksFar_80 : decode cX5_looksFar 80 = .ok (.getfield 32, 3) := dgrp_at dg_b_96 16 rfl
theorem dX5_looksFar_83 : decode cX5_looksFar 83 = .ok (.aload_n 0, 1) := dgrp_at dg_b_96 17 rfl
theorem dX5_looksFar_84 : decode cX5_looksFar 84 = .ok (.iload_n 3, 1) := dgrp_at dg_b_96 18 rfl
theorem dX5_looksFar_85 : decode cX5_looksFar 85 = .ok (.iload 4, 2) := dgrp_at dg_b_96 19 rfl
theorem dX5_looksFar_87 : decode cX5_looksFar 87 = .ok (.invokevirtual 157, 3) := dgrp_at dg_b_96 20 rfl
theorem dX5_looksFar_90 : decode cX5_looksFar 90 = .ok (.iaload, 1) := dgrp_at dg_b_96 21 rfl
theorem dX5_looksFar_91 : decode cX5_looksFar 91 = .ok (.iload_n 2, 1) := dgrp_at dg_b_96 22 rfl
theorem dX5_looksFar_92 : decode cX5_looksFar 92 = .ok (.iconst 1, 1) := dgrp_at dg_b_96 23 rfl
theorem dX5_looksFar_93 : decode cX5_looksFar 93 = .ok (.isub, 1) := dgrp_at dg_b_96 24 rfl
theorem dX5_looksFar_94 : decode cX5_looksFar 94 = .ok (.if_icmp .ne 12, 3) := dgrp_at dg_b_96 25 rfl
theorem dX5_looksFar_97 : decode cX5_looksFar 97 = .ok (.aload_n 0, 1) := dgrp_at dg_b_96 26 rfl
theorem dX5_looksFar_98 : decode cX5_looksFar 98 = .ok (.getfield 32, 3) := dgrp_at dg_b_96 27 rfl
theorem dX5_looksFar_101 : decode cX5_looksFar 101 = .ok (.iload_n 3, 1) := dgrp_at dg_b_96 28 rfl
theorem dX5_looksFar_102 : decode cX5_looksFar 102 = .ok (.iload_n 2, 1) := dgrp_at dg_b_96 29 rfl
theorem dX5_looksFar_103 : decode cX5_looksFar 103 = .ok (.iastore, 1) := dgrp_at dg_b_96 30 rfl
theorem dX5_looksFar_104 : decode cX5_looksFar 104 = .ok (.iconst 1, 1) := dgrp_at dg_b_96 31 rfl
def dl_b_97 : List (Nat × Instr × Nat) := [(105, .istore_n 1, 1), (106, .iinc 4 1, 3), (109, .goto (-50), 3), (112, .iinc 3 1, 3), (115, .goto (-67), 3), (118, .iinc 2 1, 3), (121, .goto (-81), 3), (124, .return_, 1)]
theorem dg_b_97 : dgrp cX5_looksFar dl_b_97 = true := by decide +kernel
theorem dX5_looksFar_105 : decode cX5_looksFar 105 = .ok (.istore_n 1, 1) := dgrp_at dg_b_97 0 rfl
theorem dX5_looksFar_106 : decode cX5_looksFar 106 = .ok (.iinc 4 1, 3) := dgrp_at dg_b_97 1 rfl
theorem dX5_looksFar_109 : decode cX5_looksFar 109 = .ok (.goto (-50), 3) := dgrp_at dg_b_97 2 rfl
theorem dX5_looksFar_112 : decode cX5_looksFar 112 = .ok (.iinc 3 1, 3) := dgrp_at dg_b_97 3 rfl
theorem dX5_looksFar_115 : decode cX5_looksFar 115 = .ok (.goto (-67), 3) := dgrp_at dg_b_97 4 rfl
theorem dX5_looksFar_118 : decode cX5_looksFar 118 = .ok (.iinc 2 1, 3) := dgrp_at dg_b_97 5 rfl
theorem dX5_looksFar_121 : decode cX5_looksFar 121 = .ok (.goto (-81), 3) := dgrp_at dg_b_97 6 rfl
theorem dX5_looksFar_124 : decode cX5_looksFar 124 = .ok (.return_, 1) := dgrp_at dg_b_97 7 rfl
def dl_b_98 : List (Nat × Instr × Nat) := [(0, .aload_n 0, 1), (1, .invokevirtual 173, 3), (4, .aload_n 0, 1), (5, .aload_n 0, 1), (6, .getfield 32, 3), (9, .aload_n 0, 1), (10, .getfield 7, 3), (13, .iconst 1, 1), (14, .iaload, 1), (15, .iaload, 1), (16, .invokevirtual 176, 3), (19, .ireturn, 1)]
theorem dg_b_98 : dgrp cX5_fewest dl_b_98 = true := by decide +kernel
theorem dX5_fewest_0 : decode cX5_fewest 0 = .ok (.aload_n 0, 1) := dgrp_at dg_b_98 0 rfl
theorem dX5_fewest_1 : decode cX5_fewest 1 = .ok (.invokevirtual 173, 3) := dgrp_at dg_b_98 1 rfl
theorem dX5_fewest_4 : decode cX5_fewest 4 = .ok (.aload_n 0, 1) := dgrp_at dg_b_98 2 rfl
theorem dX5_fewest_5 : decode cX5_fewest 5 = .ok (.aload_n 0, 1) := dgrp_at dg_b_98 3 rfl
theorem dX5_fewest_6 : decode cX5_fewest 6 = .ok (.getfield 32, 3) := dgrp_at dg_b_98 4 rfl
theorem dX5_fewest_9 : decode cX5_fewest 9 = .ok (.aload_n 0, 1) := dgrp_at dg_b_98 5 rfl
theorem dX5_fewest_10 : decode cX5_fewest 10 = .ok (.getfield 7, 3) := dgrp_at dg_b_98 6 rfl
theorem dX5_fewest_13 : decode cX5_fewest 13 = .ok (.iconst 1, 1) := dgrp_at dg_b_98 7 rfl
theorem dX5_fewest_14 : decode cX5_fewest 14 = .ok (.iaload, 1) := dgrp_at dg_b_98 8 rfl
theorem dX5_fewest_15 : decode cX5_fewest 15 = .ok (.iaload, 1) := dgrp_at dg_b_98 9 rfl
theorem dX5_fewest_16 : decode cX5_fewest 16 = .ok (.invokevirtual 176, 3) := dgrp_at dg_b_98 10 rfl
theorem dX5_fewest_19 : decode cX5_fewest 19 = .ok (.ireturn, 1) := dgrp_at dg_b_98 11 rfl
def dl_b_99 : List (Nat × Instr × Nat) := [(0, .aload_n 0, 1), (1, .invokevirtual 173, 3), (4, .aload_n 0, 1), (5, .getfield 32, 3), (8, .aload_n 0, 1), (9, .getfield 7, 3), (12, .iconst 1, 1), (13, .iaload, 1), (14, .iaload, 1), (15, .istore_n 1, 1), (16, .iconst (-1), 1), (17, .istore_n 2, 1), (18, .aload_n 0, 1), (19, .getfield 7, 3), (22, .iconst 0, 1), (23, .iaload, 1), (24, .iconst 1, 1), (25, .isub, 1), (26, .istore_n 3, 1), (27, .iload_n 3, 1), (28, .ifCond .lt 41, 3), (31, .iload_n 1, 1), (32, .ifCond .le 29, 3), (35, .aload_n 0, 1), (36, .getfield 32, 3), (39, .aload_n 0, 1), (40, .aload_n 0, 1), (41, .getfield 7, 3), (44, .iconst 1, 1), (45, .iaload, 1), (46, .iload_n 3, 1), (47, .invokevirtual 157, 3)]
theorem dg_b_99 : dgrp cX5_first dl_b_99 = true := by decide +kernel
theorem dX5_first_0 : decode cX5_first 0 = .ok (.aload_n 0, 1) := dgrp_at dg_b_99 0 rfl
theorem dX5_first_1 : decode cX5_first 1 = .ok (.invokevirtual 173, 3) := dgrp_at dg_b_99 1 rfl
theorem dX5_first_4 : decode cX5_first 4 = .ok (.aload_n 0, 1) := dgrp_at dg_b_99 2 rfl
theorem dX5_first_5 : decode cX5_first 5 = .ok (.getfield 32, 3) := dgrp_at dg_b_99 3 rfl
theorem dX5_first_8 : decode cX5_first 8 = .ok (.aload_n 0, 1) := dgrp_at dg_b_99 4 rfl
theorem dX5_first_9 : decode cX5_first 9 = .ok (.getfield 7, 3) := dgrp_at dg_b_99 5 rfl
theorem dX5_first_12 : decode cX5_first 12 = .ok (.iconst 1, 1) := dgrp_at dg_b_99 6 rfl
theorem dX5_first_13 : decode cX5_first 13 = .ok (.iaload, 1) := dgrp_at dg_b_99 7 rfl
theorem dX5_first_14 : decode cX5_first 14 = .ok (.iaload, 1) := dgrp_at dg_b_99 8 rfl
theorem dX5_first_15 : decode cX5_first 15 = .ok (.istore_n 1, 1) := dgrp_at dg_b_99 9 rfl
theorem dX5_first_16 : decode cX5_first 16 = .ok (.iconst (-1), 1) := dgrp_at dg_b_99 10 rfl
theorem dX5_first_17 : decode cX5_first 17 = .ok (.istore_n 2, 1) := dgrp_at dg_b_99 11 rfl
theorem dX5_first_18 : decode cX5_first 18 = .ok (.aload_n 0, 1) := dgrp_at dg_b_99 12 rfl
theorem dX5_first_19 : decode cX5_first 19 = .ok (.getfield 7, 3) := dgrp_at dg_b_99 13 rfl
theorem dX5_first_22 : decode cX5_first 22 = .ok (.iconst 0, 1) := dgrp_at dg_b_99 14 rfl
theorem dX5_first_23 : decode cX5_first 23 = .ok (.iaload, 1) := dgrp_at dg_b_99 15 rfl
theorem dX5_first_24 : decode cX5_first 24 = .ok (.iconst 1, 1) := dgrp_at dg_b_99 16 rfl
theorem dX5_first_25 : decode cX5_first 25 = .ok (.isub, 1) := dgrp_at dg_b_99 17 rfl
theorem dX5_first_26 : decode cX5_first 26 = .ok (.istore_n 3, 1) := dgrp_at dg_b_99 18 rfl
theorem dX5_first_27 : decode cX5_first 27 = .ok (.iload_n 3, 1) := dgrp_at dg_b_99 19 rfl
theorem dX5_first_28 : decode cX5_first 28 = .ok (.ifCond .lt 41, 3) := dgrp_at dg_b_99 20 rfl
theorem dX5_first_31 : decode cX5_first 31 = .ok (.iload_n 1, 1) := dgrp_at dg_b_99 21 rfl
theorem dX5_first_32 : decode cX5_first 32 = .ok (.ifCond .le 29, 3) := dgrp_at dg_b_99 22 rfl
theorem dX5_first_35 : decode cX5_first 35 = .ok (.aload_n 0, 1) := dgrp_at dg_b_99 23 rfl
theorem dX5_first_36 : decode cX5_first 36 = .ok (.getfield 32, 3) := dgrp_at dg_b_99 24 rfl
theorem dX5_first_39 : decode cX5_first 39 = .ok (.aload_n 0, 1) := dgrp_at dg_b_99 25 rfl
theorem dX5_first_40 : decode cX5_first 40 = .ok (.aload_n 0, 1) := dgrp_at dg_b_99 26 rfl
theorem dX5_first_41 : decode cX5_first 41 = .ok (.getfield 7, 3) := dgrp_at dg_b_99 27 rfl
theorem dX5_first_44 : decode cX5_first 44 = .ok (.iconst 1, 1) := dgrp_at dg_b_99 28 rfl
theorem dX5_first_45 : decode cX5_first 45 = .ok (.iaload, 1) := dgrp_at dg_b_99 29 rfl
theorem dX5_first_46 : decode cX5_first 46 = .ok (.iload_n 3, 1) := dgrp_at dg_b_99 30 rfl
theorem dX5_first_47 : decode cX5_first 47 = .ok (.invokevirtual 157, 3) := dgrp_at dg_b_99 31 rfl
def dl_b_100 : List (Nat × Instr × Nat) := [(50, .iaload, 1), (51, .iload_n 1, 1), (52, .iconst 1, 1), (53, .isub, 1), (54, .if_icmp .ne 7, 3), (57, .iload_n 3, 1), (58, .goto 4, 3), (61, .iload_n 2, 1), (62, .istore_n 2, 1), (63, .iinc 3 (-1), 3), (66, .goto (-39), 3), (69, .aload_n 0, 1), (70, .iload_n 2, 1), (71, .invokevirtual 176, 3), (74, .ireturn, 1)]
theorem dg_b_100 : dgrp cX5_first dl_b_100 = true := by decide +kernel
theorem dX5_first_50 : decode cX5_first 50 = .ok (.iaload, 1) := dgrp_at dg_b_100 0 rfl
theorem dX5_first_51 : decode cX5_first 51 = .ok (.iload_n 1, 1) := dgrp_at dg_b_100 1 rfl
theorem dX5_first_52 : decode cX5_first 52 = .ok (.iconst 1, 1) := dgrp_at dg_b_100 2 rfl
theorem dX5_first_53 : decode cX5_first 53 = .ok (.isub, 1) := dgrp_at dg_b_100 3 rfl
theorem dX5_first_54 : decode cX5_first 54 = .ok (.if_icmp .ne 7, 3) := dgrp_at dg_b_100 4 rfl
theorem dX5_first_57 : decode cX5_first 57 = .ok (.iload_n 3, 1) := dgrp_at dg_b_100 5 rfl
theorem dX5_first_58 : decode cX5_first 58 = .ok (.goto 4, 3) := dgrp_at dg_b_100 6 rfl
theorem dX5_first_61 : decode cX5_first 61 = .ok (.iload_n 2, 1) := dgrp_at dg_b_100 7 rfl
theorem dX5_first_62 : decode cX5_first 62 = .ok (.istore_n 2, 1) := dgrp_at dg_b_100 8 rfl
theorem dX5_first_63 : decode cX5_first 63 = .ok (.iinc 3 (-1), 3) := dgrp_at dg_b_100 9 rfl
theorem dX5_first_66 : decode cX5_first 66 = .ok (.goto (-39), 3) := dgrp_at dg_b_100 10 rfl
theorem dX5_first_69 : decode cX5_first 69 = .ok (.aload_n 0, 1) := dgrp_at dg_b_100 11 rfl
theorem dX5_first_70 : decode cX5_first 70 = .ok (.iload_n 2, 1) := dgrp_at dg_b_100 12 rfl
theorem dX5_first_71 : decode cX5_first 71 = .ok (.invokevirtual 176, 3) := dgrp_at dg_b_100 13 rfl
theorem dX5_first_74 : decode cX5_first 74 = .ok (.ireturn, 1) := dgrp_at dg_b_100 14 rfl
def dl_b_101 : List (Nat × Instr × Nat) := [(0, .aload_n 0, 1), (1, .invokevirtual 170, 3), (4, .iconst 0, 1), (5, .istore_n 1, 1), (6, .iconst 0, 1), (7, .istore_n 2, 1), (8, .iload_n 2, 1), (9, .aload_n 0, 1), (10, .invokevirtual 58, 3), (13, .if_icmp .ge 27, 3), (16, .iload_n 1, 1), (17, .aload_n 0, 1), (18, .getfield 29, 3), (21, .iload_n 2, 1), (22, .iaload, 1), (23, .iload_n 2, 1), (24, .if_icmp .ne 7, 3), (27, .iconst 1, 1), (28, .goto 4, 3), (31, .iconst 0, 1), (32, .iadd, 1), (33, .istore_n 1, 1), (34, .iinc 2 1, 3), (37, .goto (-29), 3), (40, .iload_n 1, 1), (41, .ireturn, 1)]
theorem dg_b_101 : dgrp cX5_manySettled dl_b_101 = true := by decide +kernel
theorem dX5_manySettled_0 : decode cX5_manySettled 0 = .ok (.aload_n 0, 1) := dgrp_at dg_b_101 0 rfl
theorem dX5_manySettled_1 : decode cX5_manySettled 1 = .ok (.invokevirtual 170, 3) := dgrp_at dg_b_101 1 rfl
theorem dX5_manySettled_4 : decode cX5_manySettled 4 = .ok (.iconst 0, 1) := dgrp_at dg_b_101 2 rfl
theorem dX5_manySettled_5 : decode cX5_manySettled 5 = .ok (.istore_n 1, 1) := dgrp_at dg_b_101 3 rfl
theorem dX5_manySettled_6 : decode cX5_manySettled 6 = .ok (.iconst 0, 1) := dgrp_at dg_b_101 4 rfl
theorem dX5_manySettled_7 : decode cX5_manySettled 7 = .ok (.istore_n 2, 1) := dgrp_at dg_b_101 5 rfl
theorem dX5_manySettled_8 : decode cX5_manySettled 8 = .ok (.iload_n 2, 1) := dgrp_at dg_b_101 6 rfl
theorem dX5_manySettled_9 : decode cX5_manySettled 9 = .ok (.aload_n 0, 1) := dgrp_at dg_b_101 7 rfl
theorem dX5_manySettled_10 : decode cX5_manySettled 10 = .ok (.invokevirtual 58, 3) := dgrp_at dg_b_101 8 rfl
theorem dX5_manySettled_13 : decode cX5_manySettled 13 = .ok (.if_icmp .ge 27, 3) := dgrp_at dg_b_101 9 rfl
theorem dX5_manySettled_16 : decode cX5_manySettled 16 = .ok (.iload_n 1, 1) := dgrp_at dg_b_101 10 rfl
theorem dX5_manySettled_17 : decode cX5_manySettled 17 = .ok (.aload_n 0, 1) := dgrp_at dg_b_101 11 rfl
theorem dX5_manySettled_18 : decode cX5_manySettled 18 = .ok (.getfield 29, 3) := dgrp_at dg_b_101 12 rfl
theorem dX5_manySettled_21 : decode cX5_manySettled 21 = .ok (.iload_n 2, 1) := dgrp_at dg_b_101 13 rfl
theorem dX5_manySettled_22 : decode cX5_manySettled 22 = .ok (.iaload, 1) := dgrp_at dg_b_101 14 rfl
theorem dX5_manySettled_23 : decode cX5_manySettled 23 = .ok (.iload_n 2, 1) := dgrp_at dg_b_101 15 rfl
theorem dX5_manySettled_24 : decode cX5_manySettled 24 = .ok (.if_icmp .ne 7, 3) := dgrp_at dg_b_101 16 rfl
theorem dX5_manySettled_27 : decode cX5_manySettled 27 = .ok (.iconst 1, 1) := dgrp_at dg_b_101 17 rfl
theorem dX5_manySettled_28 : decode cX5_manySettled 28 = .ok (.goto 4, 3) := dgrp_at dg_b_101 18 rfl
theorem dX5_manySettled_31 : decode cX5_manySettled 31 = .ok (.iconst 0, 1) := dgrp_at dg_b_101 19 rfl
theorem dX5_manySettled_32 : decode cX5_manySettled 32 = .ok (.iadd, 1) := dgrp_at dg_b_101 20 rfl
theorem dX5_manySettled_33 : decode cX5_manySettled 33 = .ok (.istore_n 1, 1) := dgrp_at dg_b_101 21 rfl
theorem dX5_manySettled_34 : decode cX5_manySettled 34 = .ok (.iinc 2 1, 3) := dgrp_at dg_b_101 22 rfl
theorem dX5_manySettled_37 : decode cX5_manySettled 37 = .ok (.goto (-29), 3) := dgrp_at dg_b_101 23 rfl
theorem dX5_manySettled_40 : decode cX5_manySettled 40 = .ok (.iload_n 1, 1) := dgrp_at dg_b_101 24 rfl
theorem dX5_manySettled_41 : decode cX5_manySettled 41 = .ok (.ireturn, 1) := dgrp_at dg_b_101 25 rfl
def dl_b_102 : List (Nat × Instr × Nat) := [(0, .aload_n 0, 1), (1, .invokevirtual 179, 3), (4, .ireturn, 1)]
theorem dg_b_102 : dgrp cX5_settled dl_b_102 = true := by decide +kernel
theorem dX5_settled_0 : decode cX5_settled 0 = .ok (.aload_n 0, 1) := dgrp_at dg_b_102 0 rfl
theorem dX5_settled_1 : decode cX5_settled 1 = .ok (.invokevirtual 179, 3) := dgrp_at dg_b_102 1 rfl
theorem dX5_settled_4 : decode cX5_settled 4 = .ok (.ireturn, 1) := dgrp_at dg_b_102 2 rfl
def dl_b_103 : List (Nat × Instr × Nat) := [(0, .iload_n 1, 1), (1, .ifCond .ge 10, 3), (4, .aload_n 0, 1), (5, .ldc 48, 2), (7, .invokevirtual 50, 3), (10, .ireturn, 1), (11, .aload_n 0, 1), (12, .invokevirtual 170, 3), (15, .iload_n 1, 1), (16, .istore_n 2, 1), (17, .iconst 0, 1), (18, .istore_n 3, 1), (19, .iload_n 3, 1), (20, .aload_n 0, 1), (21, .invokevirtual 58, 3), (24, .if_icmp .ge 28, 3), (27, .aload_n 0, 1), (28, .getfield 29, 3), (31, .iload_n 3, 1), (32, .iaload, 1), (33, .iload_n 3, 1), (34, .if_icmp .ne 12, 3), (37, .iload_n 2, 1), (38, .ifCond .ne 5, 3), (41, .iload_n 3, 1), (42, .ireturn, 1), (43, .iinc 2 (-1), 3), (46, .iinc 3 1, 3), (49, .goto (-30), 3), (52, .aload_n 0, 1), (53, .ldc 49, 2), (55, .invokevirtual 50, 3)]
theorem dg_b_103 : dgrp cX5_ith dl_b_103 = true := by decide +kernel
theorem dX5_ith_0 : decode cX5_ith 0 = .ok (.iload_n 1, 1) := dgrp_at dg_b_103 0 rfl
theorem dX5_ith_1 : decode cX5_ith 1 = .ok (.ifCond .ge 10, 3) := dgrp_at dg_b_103 1 rfl
theorem dX5_ith_4 : decode cX5_ith 4 = .ok (.aload_n 0, 1) := dgrp_at dg_b_103 2 rfl
theorem dX5_ith_5 : decode cX5_ith 5 = .ok (.ldc 48, 2) := dgrp_at dg_b_103 3 rfl
theorem dX5_ith_7 : decode cX5_ith 7 = .ok (.invokevirtual 50, 3) := dgrp_at dg_b_103 4 rfl
theorem dX5_ith_10 : decode cX5_ith 10 = .ok (.ireturn, 1) := dgrp_at dg_b_103 5 rfl
theorem dX5_ith_11 : decode cX5_ith 11 = .ok (.aload_n 0, 1) := dgrp_at dg_b_103 6 rfl
theorem dX5_ith_12 : decode cX5_ith 12 = .ok (.invokevirtual 170, 3) := dgrp_at dg_b_103 7 rfl
theorem dX5_ith_15 : decode cX5_ith 15 = .ok (.iload_n 1, 1) := dgrp_at dg_b_103 8 rfl
theorem dX5_ith_16 : decode cX5_ith 16 = .ok (.istore_n 2, 1) := dgrp_at dg_b_103 9 rfl
theorem dX5_ith_17 : decode cX5_ith 17 = .ok (.iconst 0, 1) := dgrp_at dg_b_103 10 rfl
theorem dX5_ith_18 : decode cX5_ith 18 = .ok (.istore_n 3, 1) := dgrp_at dg_b_103 11 rfl
theorem dX5_ith_19 : decode cX5_ith 19 = .ok (.iload_n 3, 1) := dgrp_at dg_b_103 12 rfl
theorem dX5_ith_20 : decode cX5_ith 20 = .ok (.aload_n 0, 1) := dgrp_at dg_b_103 13 rfl
theorem dX5_ith_21 : decode cX5_ith 21 = .ok (.invokevirtual 58, 3) := dgrp_at dg_b_103 14 rfl
theorem dX5_ith_24 : decode cX5_ith 24 = .ok (.if_icmp .ge 28, 3) := dgrp_at dg_b_103 15 rfl
theorem dX5_ith_27 : decode cX5_ith 27 = .ok (.aload_n 0, 1) := dgrp_at dg_b_103 16 rfl
theorem dX5_ith_28 : decode cX5_ith 28 = .ok (.getfield 29, 3) := dgrp_at dg_b_103 17 rfl
theorem dX5_ith_31 : decode cX5_ith 31 = .ok (.iload_n 3, 1) := dgrp_at dg_b_103 18 rfl
theorem dX5_ith_32 : decode cX5_ith 32 = .ok (.iaload, 1) := dgrp_at dg_b_103 19 rfl
theorem dX5_ith_33 : decode cX5_ith 33 = .ok (.iload_n 3, 1) := dgrp_at dg_b_103 20 rfl
theorem dX5_ith_34 : decode cX5_ith 34 = .ok (.if_icmp .ne 12, 3) := dgrp_at dg_b_103 21 rfl
theorem dX5_ith_37 : decode cX5_ith 37 = .ok (.iload_n 2, 1) := dgrp_at dg_b_103 22 rfl
theorem dX5_ith_38 : decode cX5_ith 38 = .ok (.ifCond .ne 5, 3) := dgrp_at dg_b_103 23 rfl
theorem dX5_ith_41 : decode cX5_ith 41 = .ok (.iload_n 3, 1) := dgrp_at dg_b_103 24 rfl
theorem dX5_ith_42 : decode cX5_ith 42 = .ok (.ireturn, 1) := dgrp_at dg_b_103 25 rfl
theorem dX5_ith_43 : decode cX5_ith 43 = .ok (.iinc 2 (-1), 3) := dgrp_at dg_b_103 26 rfl
theorem dX5_ith_46 : decode cX5_ith 46 = .ok (.iinc 3 1, 3) := dgrp_at dg_b_103 27 rfl
theorem dX5_ith_49 : decode cX5_ith 49 = .ok (.goto (-30), 3) := dgrp_at dg_b_103 28 rfl
theorem dX5_ith_52 : decode cX5_ith 52 = .ok (.aload_n 0, 1) := dgrp_at dg_b_103 29 rfl
theorem dX5_ith_53 : decode cX5_ith 53 = .ok (.ldc 49, 2) := dgrp_at dg_b_103 30 rfl
theorem dX5_ith_55 : decode cX5_ith 55 = .ok (.invokevirtual 50, 3) := dgrp_at dg_b_103 31 rfl
def dl_b_104 : List (Nat × Instr × Nat) := [(58, .ireturn, 1)]
theorem dg_b_104 : dgrp cX5_ith dl_b_104 = true := by decide +kernel
theorem dX5_ith_58 : decode cX5_ith 58 = .ok (.ireturn, 1) := dgrp_at dg_b_104 0 rfl
def dl_b_105 : List (Nat × Instr × Nat) := [(0, .iload_n 1, 1), (1, .i2l, 1), (2, .lconst 0, 1), (3, .ldc2_w 182, 3), (6, .invokestatic 54, 3), (9, .ifCond .ne 10, 3), (12, .aload_n 0, 1), (13, .ldc 48, 2), (15, .invokevirtual 50, 3), (18, .ireturn, 1), (19, .aload_n 0, 1), (20, .invokevirtual 179, 3), (23, .ifCond .ne 10, 3), (26, .aload_n 0, 1), (27, .ldc 49, 2), (29, .invokevirtual 50, 3), (32, .ireturn, 1), (33, .aload_n 0, 1), (34, .invokevirtual 58, 3), (37, .iconst 1, 1), (38, .isub, 1), (39, .istore_n 2, 1), (40, .iconst 0, 1), (41, .istore_n 3, 1), (42, .iconst 0, 1), (43, .istore 4, 2), (45, .bipush 8, 2), (47, .istore 5, 2), (49, .iconst 0, 1), (50, .istore 6, 2), (52, .iload 6, 2), (54, .aload_n 0, 1)]
theorem dg_b_105 : dgrp cX5_sure dl_b_105 = true := by decide +kernel
theorem dX5_sure_0 : decode cX5_sure 0 = .ok (.iload_n 1, 1) := dgrp_at dg_b_105 0 rfl
theorem dX5_sure_1 : decode cX5_sure 1 = .ok (.i2l, 1) := dgrp_at dg_b_105 1 rfl
theorem dX5_sure_2 : decode cX5_sure 2 = .ok (.lconst 0, 1) := dgrp_at dg_b_105 2 rfl
theorem dX5_sure_3 : decode cX5_sure 3 = .ok (.ldc2_w 182, 3) := dgrp_at dg_b_105 3 rfl
theorem dX5_sure_6 : decode cX5_sure 6 = .ok (.invokestatic 54, 3) := dgrp_at dg_b_105 4 rfl
theorem dX5_sure_9 : decode cX5_sure 9 = .ok (.ifCond .ne 10, 3) := dgrp_at dg_b_105 5 rfl
theorem dX5_sure_12 : decode cX5_sure 12 = .ok (.aload_n 0, 1) := dgrp_at dg_b_105 6 rfl
theorem dX5_sure_13 : decode cX5_sure 13 = .ok (.ldc 48, 2) := dgrp_at dg_b_105 7 rfl
theorem dX5_sure_15 : decode cX5_sure 15 = .ok (.invokevirtual 50, 3) := dgrp_at dg_b_105 8 rfl
theorem dX5_sure_18 : decode cX5_sure 18 = .ok (.ireturn, 1) := dgrp_at dg_b_105 9 rfl
theorem dX5_sure_19 : decode cX5_sure 19 = .ok (.aload_n 0, 1) := dgrp_at dg_b_105 10 rfl
theorem dX5_sure_20 : decode cX5_sure 20 = .ok (.invokevirtual 179, 3) := dgrp_at dg_b_105 11 rfl
theorem dX5_sure_23 : decode cX5_sure 23 = .ok (.ifCond .ne 10, 3) := dgrp_at dg_b_105 12 rfl
theorem dX5_sure_26 : decode cX5_sure 26 = .ok (.aload_n 0, 1) := dgrp_at dg_b_105 13 rfl
theorem dX5_sure_27 : decode cX5_sure 27 = .ok (.ldc 49, 2) := dgrp_at dg_b_105 14 rfl
theorem dX5_sure_29 : decode cX5_sure 29 = .ok (.invokevirtual 50, 3) := dgrp_at dg_b_105 15 rfl
theorem dX5_sure_32 : decode cX5_sure 32 = .ok (.ireturn, 1) := dgrp_at dg_b_105 16 rfl
theorem dX5_sure_33 : decode cX5_sure 33 = .ok (.aload_n 0, 1) := dgrp_at dg_b_105 17 rfl
theorem dX5_sure_34 : decode cX5_sure 34 = .ok (.invokevirtual 58, 3) := dgrp_at dg_b_105 18 rfl
theorem dX5_sure_37 : decode cX5_sure 37 = .ok (.iconst 1, 1) := dgrp_at dg_b_105 19 rfl
theorem dX5_sure_38 : decode cX5_sure 38 = .ok (.isub, 1) := dgrp_at dg_b_105 20 rfl
theorem dX5_sure_39 : decode cX5_sure 39 = .ok (.istore_n 2, 1) := dgrp_at dg_b_105 21 rfl
theorem dX5_sure_40 : decode cX5_sure 40 = .ok (.iconst 0, 1) := dgrp_at dg_b_105 22 rfl
theorem dX5_sure_41 : decode cX5_sure 41 = .ok (.istore_n 3, 1) := dgrp_at dg_b_105 23 rfl
theorem dX5_sure_42 : decode cX5_sure 42 = .ok (.iconst 0, 1) := dgrp_at dg_b_105 24 rfl
theorem dX5_sure_43 : decode cX5_sure 43 = .ok (.istore 4, 2) := dgrp_at dg_b_105 25 rfl
theorem dX5_sure_45 : decode cX5_sure 45 = .ok (.bipush 8, 2) := dgrp_at dg_b_105 26 rfl
theorem dX5_sure_47 : decode cX5_sure 47 = .ok (.istore 5, 2) := dgrp_at dg_b_105 27 rfl
theorem dX5_sure_49 : decode cX5_sure 49 = .ok (.iconst 0, 1) := dgrp_at dg_b_105 28 rfl
theorem dX5_sure_50 : decode cX5_sure 50 = .ok (.istore 6, 2) := dgrp_at dg_b_105 29 rfl
theorem dX5_sure_52 : decode cX5_sure 52 = .ok (.iload 6, 2) := dgrp_at dg_b_105 30 rfl
theorem dX5_sure_54 : decode cX5_sure 54 = .ok (.aload_n 0, 1) := dgrp_at dg_b_105 31 rfl
def dl_b_106 : List (Nat × Instr × Nat) := [(55, .invokevirtual 58, 3), (58, .if_icmp .ge 75, 3), (61, .aload_n 0, 1), (62, .getfield 29, 3), (65, .iload 6, 2), (67, .iaload, 1), (68, .iload 6, 2), (70, .if_icmp .ne 57, 3), (73, .iload_n 2, 1), (74, .iload 6, 2), (76, .iand, 1), (77, .istore_n 2, 1), (78, .iload_n 3, 1), (79, .iload 6, 2), (81, .ior, 1), (82, .istore_n 3, 1), (83, .iload 6, 2), (85, .invokestatic 67, 3), (88, .iload 4, 2), (90, .if_icmp .le 11, 3), (93, .iload 6, 2), (95, .invokestatic 67, 3), (98, .goto 5, 3), (101, .iload 4, 2), (103, .istore 4, 2), (105, .iload 6, 2), (107, .invokestatic 67, 3), (110, .iload 5, 2), (112, .if_icmp .ge 11, 3), (115, .iload 6, 2), (117, .invokestatic 67, 3), (120, .goto 5, 3)]
theorem dg_b_106 : dgrp cX5_sure dl_b_106 = true := by decide +kernel
theorem dX5_sure_55 : decode cX5_sure 55 = .ok (.invokevirtual 58, 3) := dgrp_at dg_b_106 0 rfl
theorem dX5_sure_58 : decode cX5_sure 58 = .ok (.if_icmp .ge 75, 3) := dgrp_at dg_b_106 1 rfl
theorem dX5_sure_61 : decode cX5_sure 61 = .ok (.aload_n 0, 1) := dgrp_at dg_b_106 2 rfl
theorem dX5_sure_62 : decode cX5_sure 62 = .ok (.getfield 29, 3) := dgrp_at dg_b_106 3 rfl
theorem dX5_sure_65 : decode cX5_sure 65 = .ok (.iload 6, 2) := dgrp_at dg_b_106 4 rfl
theorem dX5_sure_67 : decode cX5_sure 67 = .ok (.iaload, 1) := dgrp_at dg_b_106 5 rfl
theorem dX5_sure_68 : decode cX5_sure 68 = .ok (.iload 6, 2) := dgrp_at dg_b_106 6 rfl
theorem dX5_sure_70 : decode cX5_sure 70 = .ok (.if_icmp .ne 57, 3) := dgrp_at dg_b_106 7 rfl
theorem dX5_sure_73 : decode cX5_sure 73 = .ok (.iload_n 2, 1) := dgrp_at dg_b_106 8 rfl
theorem dX5_sure_74 : decode cX5_sure 74 = .ok (.iload 6, 2) := dgrp_at dg_b_106 9 rfl
theorem dX5_sure_76 : decode cX5_sure 76 = .ok (.iand, 1) := dgrp_at dg_b_106 10 rfl
theorem dX5_sure_77 : decode cX5_sure 77 = .ok (.istore_n 2, 1) := dgrp_at dg_b_106 11 rfl
theorem dX5_sure_78 : decode cX5_sure 78 = .ok (.iload_n 3, 1) := dgrp_at dg_b_106 12 rfl
theorem dX5_sure_79 : decode cX5_sure 79 = .ok (.iload 6, 2) := dgrp_at dg_b_106 13 rfl
theorem dX5_sure_81 : decode cX5_sure 81 = .ok (.ior, 1) := dgrp_at dg_b_106 14 rfl
theorem dX5_sure_82 : decode cX5_sure 82 = .ok (.istore_n 3, 1) := dgrp_at dg_b_106 15 rfl
theorem dX5_sure_83 : decode cX5_sure 83 = .ok (.iload 6, 2) := dgrp_at dg_b_106 16 rfl
theorem dX5_sure_85 : decode cX5_sure 85 = .ok (.invokestatic 67, 3) := dgrp_at dg_b_106 17 rfl
theorem dX5_sure_88 : decode cX5_sure 88 = .ok (.iload 4, 2) := dgrp_at dg_b_106 18 rfl
theorem dX5_sure_90 : decode cX5_sure 90 = .ok (.if_icmp .le 11, 3) := dgrp_at dg_b_106 19 rfl
theorem dX5_sure_93 : decode cX5_sure 93 = .ok (.iload 6, 2) := dgrp_at dg_b_106 20 rfl
theorem dX5_sure_95 : decode cX5_sure 95 = .ok (.invokestatic 67, 3) := dgrp_at dg_b_106 21 rfl
theorem dX5_sure_98 : decode cX5_sure 98 = .ok (.goto 5, 3) := dgrp_at dg_b_106 22 rfl
theorem dX5_sure_101 : decode cX5_sure 101 = .ok (.iload 4, 2) := dgrp_at dg_b_106 23 rfl
theorem dX5_sure_103 : decode cX5_sure 103 = .ok (.istore 4, 2) := dgrp_at dg_b_106 24 rfl
theorem dX5_sure_105 : decode cX5_sure 105 = .ok (.iload 6, 2) := dgrp_at dg_b_106 25 rfl
theorem dX5_sure_107 : decode cX5_sure 107 = .ok (.invokestatic 67, 3) := dgrp_at dg_b_106 26 rfl
theorem dX5_sure_110 : decode cX5_sure 110 = .ok (.iload 5, 2) := dgrp_at dg_b_106 27 rfl
theorem dX5_sure_112 : decode cX5_sure 112 = .ok (.if_icmp .ge 11, 3) := dgrp_at dg_b_106 28 rfl
theorem dX5_sure_115 : decode cX5_sure 115 = .ok (.iload 6, 2) := dgrp_at dg_b_106 29 rfl
theorem dX5_sure_117 : decode cX5_sure 117 = .ok (.invokestatic 67, 3) := dgrp_at dg_b_106 30 rfl
theorem dX5_sure_120 : decode cX5_sure 120 = .ok (.goto 5, 3) := dgrp_at dg_b_106 31 rfl
def dl_b_107 : List (Nat × Instr × Nat) := [(123, .iload 5, 2), (125, .istore 5, 2), (127, .iinc 6 1, 3), (130, .goto (-78), 3), (133, .iload_n 1, 1), (134, .ifCond .ne 7, 3), (137, .iload_n 2, 1), (138, .goto 24, 3), (141, .iload_n 1, 1), (142, .iconst 1, 1), (143, .if_icmp .ne 7, 3), (146, .iload_n 3, 1), (147, .goto 15, 3), (150, .iload_n 1, 1), (151, .iconst 2, 1), (152, .if_icmp .ne 8, 3), (155, .iload 4, 2), (157, .goto 5, 3), (160, .iload 5, 2), (162, .ireturn, 1)]
theorem dg_b_107 : dgrp cX5_sure dl_b_107 = true := by decide +kernel
theorem dX5_sure_123 : decode cX5_sure 123 = .ok (.iload 5, 2) := dgrp_at dg_b_107 0 rfl
theorem dX5_sure_125 : decode cX5_sure 125 = .ok (.istore 5, 2) := dgrp_at dg_b_107 1 rfl
theorem dX5_sure_127 : decode cX5_sure 127 = .ok (.iinc 6 1, 3) := dgrp_at dg_b_107 2 rfl
theorem dX5_sure_130 : decode cX5_sure 130 = .ok (.goto (-78), 3) := dgrp_at dg_b_107 3 rfl
theorem dX5_sure_133 : decode cX5_sure 133 = .ok (.iload_n 1, 1) := dgrp_at dg_b_107 4 rfl
theorem dX5_sure_134 : decode cX5_sure 134 = .ok (.ifCond .ne 7, 3) := dgrp_at dg_b_107 5 rfl
theorem dX5_sure_137 : decode cX5_sure 137 = .ok (.iload_n 2, 1) := dgrp_at dg_b_107 6 rfl
theorem dX5_sure_138 : decode cX5_sure 138 = .ok (.goto 24, 3) := dgrp_at dg_b_107 7 rfl
theorem dX5_sure_141 : decode cX5_sure 141 = .ok (.iload_n 1, 1) := dgrp_at dg_b_107 8 rfl
theorem dX5_sure_142 : decode cX5_sure 142 = .ok (.iconst 1, 1) := dgrp_at dg_b_107 9 rfl
theorem dX5_sure_143 : decode cX5_sure 143 = .ok (.if_icmp .ne 7, 3) := dgrp_at dg_b_107 10 rfl
theorem dX5_sure_146 : decode cX5_sure 146 = .ok (.iload_n 3, 1) := dgrp_at dg_b_107 11 rfl
theorem dX5_sure_147 : decode cX5_sure 147 = .ok (.goto 15, 3) := dgrp_at dg_b_107 12 rfl
theorem dX5_sure_150 : decode cX5_sure 150 = .ok (.iload_n 1, 1) := dgrp_at dg_b_107 13 rfl
theorem dX5_sure_151 : decode cX5_sure 151 = .ok (.iconst 2, 1) := dgrp_at dg_b_107 14 rfl
theorem dX5_sure_152 : decode cX5_sure 152 = .ok (.if_icmp .ne 8, 3) := dgrp_at dg_b_107 15 rfl
theorem dX5_sure_155 : decode cX5_sure 155 = .ok (.iload 4, 2) := dgrp_at dg_b_107 16 rfl
theorem dX5_sure_157 : decode cX5_sure 157 = .ok (.goto 5, 3) := dgrp_at dg_b_107 17 rfl
theorem dX5_sure_160 : decode cX5_sure 160 = .ok (.iload 5, 2) := dgrp_at dg_b_107 18 rfl
theorem dX5_sure_162 : decode cX5_sure 162 = .ok (.ireturn, 1) := dgrp_at dg_b_107 19 rfl
def dl_b_108 : List (Nat × Instr × Nat) := [(0, .aload_n 0, 1), (1, .invokevirtual 170, 3), (4, .iconst 0, 1), (5, .istore_n 1, 1), (6, .iload_n 1, 1), (7, .aload_n 0, 1), (8, .invokevirtual 58, 3), (11, .if_icmp .ge 64, 3), (14, .iload_n 1, 1), (15, .istore_n 2, 1), (16, .iconst 0, 1), (17, .istore_n 3, 1), (18, .iload_n 3, 1), (19, .sipush 256, 3), (22, .if_icmp .ge 26, 3), (25, .aload_n 0, 1), (26, .getfield 29, 3), (29, .iload_n 2, 1), (30, .iaload, 1), (31, .iload_n 2, 1), (32, .if_icmp .eq 16, 3), (35, .aload_n 0, 1), (36, .getfield 29, 3), (39, .iload_n 2, 1), (40, .iaload, 1), (41, .istore_n 2, 1), (42, .iinc 3 1, 3), (45, .goto (-27), 3), (48, .aload_n 0, 1), (49, .getfield 32, 3), (52, .iload_n 1, 1), (53, .aload_n 0, 1)]
theorem dg_b_108 : dgrp cX5_looksWhere dl_b_108 = true := by decide +kernel
theorem dX5_looksWhere_0 : decode cX5_looksWhere 0 = .ok (.aload_n 0, 1) := dgrp_at dg_b_108 0 rfl
theorem dX5_looksWhere_1 : decode cX5_looksWhere 1 = .ok (.invokevirtual 170, 3) := dgrp_at dg_b_108 1 rfl
theorem dX5_looksWhere_4 : decode cX5_looksWhere 4 = .ok (.iconst 0, 1) := dgrp_at dg_b_108 2 rfl
theorem dX5_looksWhere_5 : decode cX5_looksWhere 5 = .ok (.istore_n 1, 1) := dgrp_at dg_b_108 3 rfl
theorem dX5_looksWhere_6 : decode cX5_looksWhere 6 = .ok (.iload_n 1, 1) := dgrp_at dg_b_108 4 rfl
theorem dX5_looksWhere_7 : decode cX5_looksWhere 7 = .ok (.aload_n 0, 1) := dgrp_at dg_b_108 5 rfl
theorem dX5_looksWhere_8 : decode cX5_looksWhere 8 = .ok (.invokevirtual 58, 3) := dgrp_at dg_b_108 6 rfl
theorem dX5_looksWhere_11 : decode cX5_looksWhere 11 = .ok (.if_icmp .ge 64, 3) := dgrp_at dg_b_108 7 rfl
theorem dX5_looksWhere_14 : decode cX5_looksWhere 14 = .ok (.iload_n 1, 1) := dgrp_at dg_b_108 8 rfl
theorem dX5_looksWhere_15 : decode cX5_looksWhere 15 = .ok (.istore_n 2, 1) := dgrp_at dg_b_108 9 rfl
theorem dX5_looksWhere_16 : decode cX5_looksWhere 16 = .ok (.iconst 0, 1) := dgrp_at dg_b_108 10 rfl
theorem dX5_looksWhere_17 : decode cX5_looksWhere 17 = .ok (.istore_n 3, 1) := dgrp_at dg_b_108 11 rfl
theorem dX5_looksWhere_18 : decode cX5_looksWhere 18 = .ok (.iload_n 3, 1) := dgrp_at dg_b_108 12 rfl
theorem dX5_looksWhere_19 : decode cX5_looksWhere 19 = .ok (.sipush 256, 3) := dgrp_at dg_b_108 13 rfl
theorem dX5_looksWhere_22 : decode cX5_looksWhere 22 = .ok (.if_icmp .ge 26, 3) := dgrp_at dg_b_108 14 rfl
theorem dX5_looksWhere_25 : decode cX5_looksWhere 25 = .ok (.aload_n 0, 1) := dgrp_at dg_b_108 15 rfl
theorem dX5_looksWhere_26 : decode cX5_looksWhere 26 = .ok (.getfield 29, 3) := dgrp_at dg_b_108 16 rfl
theorem dX5_looksWhere_29 : decode cX5_looksWhere 29 = .ok (.iload_n 2, 1) := dgrp_at dg_b_108 17 rfl
theorem dX5_looksWhere_30 : decode cX5_looksWhere 30 = .ok (.iaload, 1) := dgrp_at dg_b_108 18 rfl
theorem dX5_looksWhere_31 : decode cX5_looksWhere 31 = .ok (.iload_n 2, 1) := dgrp_at dg_b_108 19 rfl
theorem dX5_looksWhere_32 : decode cX5_looksWhere 32 = .ok (.if_icmp .eq 16, 3) := dgrp_at dg_b_108 20 rfl
theorem dX5_looksWhere_35 : decode cX5_looksWhere 35 = .ok (.aload_n 0, 1) := dgrp_at dg_b_108 21 rfl
theorem dX5_looksWhere_36 : decode cX5_looksWhere 36 = .ok (.getfield 29, 3) := dgrp_at dg_b_108 22 rfl
theorem dX5_looksWhere_39 : decode cX5_looksWhere 39 = .ok (.iload_n 2, 1) := dgrp_at dg_b_108 23 rfl
theorem dX5_looksWhere_40 : decode cX5_looksWhere 40 = .ok (.iaload, 1) := dgrp_at dg_b_108 24 rfl
theorem dX5_looksWhere_41 : decode cX5_looksWhere 41 = .ok (.istore_n 2, 1) := dgrp_at dg_b_108 25 rfl
theorem dX5_looksWhere_42 : decode cX5_looksWhere 42 = .ok (.iinc 3 1, 3) := dgrp_at dg_b_108 26 rfl
theorem dX5_looksWhere_45 : decode cX5_looksWhere 45 = .ok (.goto (-27), 3) := dgrp_at dg_b_108 27 rfl
theorem dX5_looksWhere_48 : decode cX5_looksWhere 48 = .ok (.aload_n 0, 1) := dgrp_at dg_b_108 28 rfl
theorem dX5_looksWhere_49 : decode cX5_looksWhere 49 = .ok (.getfield 32, 3) := dgrp_at dg_b_108 29 rfl
theorem dX5_looksWhere_52 : decode cX5_looksWhere 52 = .ok (.iload_n 1, 1) := dgrp_at dg_b_108 30 rfl
theorem dX5_looksWhere_53 : decode cX5_looksWhere 53 = .ok (.aload_n 0, 1) := dgrp_at dg_b_108 31 rfl
def dl_b_109 : List (Nat × Instr × Nat) := [(54, .getfield 29, 3), (57, .iload_n 2, 1), (58, .iaload, 1), (59, .iload_n 2, 1), (60, .if_icmp .ne 7, 3), (63, .iload_n 2, 1), (64, .goto 4, 3), (67, .iconst (-1), 1), (68, .iastore, 1), (69, .iinc 1 1, 3), (72, .goto (-66), 3), (75, .return_, 1)]
theorem dg_b_109 : dgrp cX5_looksWhere dl_b_109 = true := by decide +kernel
theorem dX5_looksWhere_54 : decode cX5_looksWhere 54 = .ok (.getfield 29, 3) := dgrp_at dg_b_109 0 rfl
theorem dX5_looksWhere_57 : decode cX5_looksWhere 57 = .ok (.iload_n 2, 1) := dgrp_at dg_b_109 1 rfl
theorem dX5_looksWhere_58 : decode cX5_looksWhere 58 = .ok (.iaload, 1) := dgrp_at dg_b_109 2 rfl
theorem dX5_looksWhere_59 : decode cX5_looksWhere 59 = .ok (.iload_n 2, 1) := dgrp_at dg_b_109 3 rfl
theorem dX5_looksWhere_60 : decode cX5_looksWhere 60 = .ok (.if_icmp .ne 7, 3) := dgrp_at dg_b_109 4 rfl
theorem dX5_looksWhere_63 : decode cX5_looksWhere 63 = .ok (.iload_n 2, 1) := dgrp_at dg_b_109 5 rfl
theorem dX5_looksWhere_64 : decode cX5_looksWhere 64 = .ok (.goto 4, 3) := dgrp_at dg_b_109 6 rfl
theorem dX5_looksWhere_67 : decode cX5_looksWhere 67 = .ok (.iconst (-1), 1) := dgrp_at dg_b_109 7 rfl
theorem dX5_looksWhere_68 : decode cX5_looksWhere 68 = .ok (.iastore, 1) := dgrp_at dg_b_109 8 rfl
theorem dX5_looksWhere_69 : decode cX5_looksWhere 69 = .ok (.iinc 1 1, 3) := dgrp_at dg_b_109 9 rfl
theorem dX5_looksWhere_72 : decode cX5_looksWhere 72 = .ok (.goto (-66), 3) := dgrp_at dg_b_109 10 rfl
theorem dX5_looksWhere_75 : decode cX5_looksWhere 75 = .ok (.return_, 1) := dgrp_at dg_b_109 11 rfl
def dl_b_110 : List (Nat × Instr × Nat) := [(0, .aload_n 0, 1), (1, .invokevirtual 184, 3), (4, .iconst 0, 1), (5, .istore_n 1, 1), (6, .iconst 0, 1), (7, .istore_n 2, 1), (8, .iload_n 2, 1), (9, .aload_n 0, 1), (10, .invokevirtual 58, 3), (13, .if_icmp .ge 26, 3), (16, .iload_n 1, 1), (17, .aload_n 0, 1), (18, .getfield 32, 3), (21, .iload_n 2, 1), (22, .iaload, 1), (23, .ifCond .lt 7, 3), (26, .iconst 1, 1), (27, .goto 4, 3), (30, .iconst 0, 1), (31, .iadd, 1), (32, .istore_n 1, 1), (33, .iinc 2 1, 3), (36, .goto (-28), 3), (39, .iload_n 1, 1), (40, .ireturn, 1)]
theorem dg_b_110 : dgrp cX5_basin dl_b_110 = true := by decide +kernel
theorem dX5_basin_0 : decode cX5_basin 0 = .ok (.aload_n 0, 1) := dgrp_at dg_b_110 0 rfl
theorem dX5_basin_1 : decode cX5_basin 1 = .ok (.invokevirtual 184, 3) := dgrp_at dg_b_110 1 rfl
theorem dX5_basin_4 : decode cX5_basin 4 = .ok (.iconst 0, 1) := dgrp_at dg_b_110 2 rfl
theorem dX5_basin_5 : decode cX5_basin 5 = .ok (.istore_n 1, 1) := dgrp_at dg_b_110 3 rfl
theorem dX5_basin_6 : decode cX5_basin 6 = .ok (.iconst 0, 1) := dgrp_at dg_b_110 4 rfl
theorem dX5_basin_7 : decode cX5_basin 7 = .ok (.istore_n 2, 1) := dgrp_at dg_b_110 5 rfl
theorem dX5_basin_8 : decode cX5_basin 8 = .ok (.iload_n 2, 1) := dgrp_at dg_b_110 6 rfl
theorem dX5_basin_9 : decode cX5_basin 9 = .ok (.aload_n 0, 1) := dgrp_at dg_b_110 7 rfl
theorem dX5_basin_10 : decode cX5_basin 10 = .ok (.invokevirtual 58, 3) := dgrp_at dg_b_110 8 rfl
theorem dX5_basin_13 : decode cX5_basin 13 = .ok (.if_icmp .ge 26, 3) := dgrp_at dg_b_110 9 rfl
theorem dX5_basin_16 : decode cX5_basin 16 = .ok (.iload_n 1, 1) := dgrp_at dg_b_110 10 rfl
theorem dX5_basin_17 : decode cX5_basin 17 = .ok (.aload_n 0, 1) := dgrp_at dg_b_110 11 rfl
theorem dX5_basin_18 : decode cX5_basin 18 = .ok (.getfield 32, 3) := dgrp_at dg_b_110 12 rfl
theorem dX5_basin_21 : decode cX5_basin 21 = .ok (.iload_n 2, 1) := dgrp_at dg_b_110 13 rfl
theorem dX5_basin_22 : decode cX5_basin 22 = .ok (.iaload, 1) := dgrp_at dg_b_110 14 rfl
theorem dX5_basin_23 : decode cX5_basin 23 = .ok (.ifCond .lt 7, 3) := dgrp_at dg_b_110 15 rfl
theorem dX5_basin_26 : decode cX5_basin 26 = .ok (.iconst 1, 1) := dgrp_at dg_b_110 16 rfl
theorem dX5_basin_27 : decode cX5_basin 27 = .ok (.goto 4, 3) := dgrp_at dg_b_110 17 rfl
theorem dX5_basin_30 : decode cX5_basin 30 = .ok (.iconst 0, 1) := dgrp_at dg_b_110 18 rfl
theorem dX5_basin_31 : decode cX5_basin 31 = .ok (.iadd, 1) := dgrp_at dg_b_110 19 rfl
theorem dX5_basin_32 : decode cX5_basin 32 = .ok (.istore_n 1, 1) := dgrp_at dg_b_110 20 rfl
theorem dX5_basin_33 : decode cX5_basin 33 = .ok (.iinc 2 1, 3) := dgrp_at dg_b_110 21 rfl
theorem dX5_basin_36 : decode cX5_basin 36 = .ok (.goto (-28), 3) := dgrp_at dg_b_110 22 rfl
theorem dX5_basin_39 : decode cX5_basin 39 = .ok (.iload_n 1, 1) := dgrp_at dg_b_110 23 rfl
theorem dX5_basin_40 : decode cX5_basin 40 = .ok (.ireturn, 1) := dgrp_at dg_b_110 24 rfl
def dl_b_111 : List (Nat × Instr × Nat) := [(0, .aload_n 0, 1), (1, .iload_n 1, 1), (2, .invokevirtual 87, 3), (5, .ifCond .eq 13, 3), (8, .iload_n 2, 1), (9, .i2l, 1), (10, .lconst 0, 1), (11, .lconst 1, 1), (12, .invokestatic 54, 3), (15, .ifCond .ne 11, 3), (18, .aload_n 0, 1), (19, .ldc 48, 2), (21, .invokevirtual 50, 3), (24, .i2l, 1), (25, .lreturn, 1), (26, .aload_n 0, 1), (27, .invokevirtual 184, 3), (30, .iconst 0, 1), (31, .istore_n 3, 1), (32, .iconst 0, 1), (33, .istore 4, 2), (35, .iload 4, 2), (37, .aload_n 0, 1), (38, .invokevirtual 58, 3), (41, .if_icmp .ge 41, 3), (44, .iload_n 3, 1), (45, .aload_n 0, 1), (46, .getfield 32, 3), (49, .iload 4, 2), (51, .iaload, 1), (52, .ifCond .lt 21, 3), (55, .aload_n 0, 1)]
theorem dg_b_111 : dgrp cX5_odds dl_b_111 = true := by decide +kernel
theorem dX5_odds_0 : decode cX5_odds 0 = .ok (.aload_n 0, 1) := dgrp_at dg_b_111 0 rfl
theorem dX5_odds_1 : decode cX5_odds 1 = .ok (.iload_n 1, 1) := dgrp_at dg_b_111 1 rfl
theorem dX5_odds_2 : decode cX5_odds 2 = .ok (.invokevirtual 87, 3) := dgrp_at dg_b_111 2 rfl
theorem dX5_odds_5 : decode cX5_odds 5 = .ok (.ifCond .eq 13, 3) := dgrp_at dg_b_111 3 rfl
theorem dX5_odds_8 : decode cX5_odds 8 = .ok (.iload_n 2, 1) := dgrp_at dg_b_111 4 rfl
theorem dX5_odds_9 : decode cX5_odds 9 = .ok (.i2l, 1) := dgrp_at dg_b_111 5 rfl
theorem dX5_odds_10 : decode cX5_odds 10 = .ok (.lconst 0, 1) := dgrp_at dg_b_111 6 rfl
theorem dX5_odds_11 : decode cX5_odds 11 = .ok (.lconst 1, 1) := dgrp_at dg_b_111 7 rfl
theorem dX5_odds_12 : decode cX5_odds 12 = .ok (.invokestatic 54, 3) := dgrp_at dg_b_111 8 rfl
theorem dX5_odds_15 : decode cX5_odds 15 = .ok (.ifCond .ne 11, 3) := dgrp_at dg_b_111 9 rfl
theorem dX5_odds_18 : decode cX5_odds 18 = .ok (.aload_n 0, 1) := dgrp_at dg_b_111 10 rfl
theorem dX5_odds_19 : decode cX5_odds 19 = .ok (.ldc 48, 2) := dgrp_at dg_b_111 11 rfl
theorem dX5_odds_21 : decode cX5_odds 21 = .ok (.invokevirtual 50, 3) := dgrp_at dg_b_111 12 rfl
theorem dX5_odds_24 : decode cX5_odds 24 = .ok (.i2l, 1) := dgrp_at dg_b_111 13 rfl
theorem dX5_odds_25 : decode cX5_odds 25 = .ok (.lreturn, 1) := dgrp_at dg_b_111 14 rfl
theorem dX5_odds_26 : decode cX5_odds 26 = .ok (.aload_n 0, 1) := dgrp_at dg_b_111 15 rfl
theorem dX5_odds_27 : decode cX5_odds 27 = .ok (.invokevirtual 184, 3) := dgrp_at dg_b_111 16 rfl
theorem dX5_odds_30 : decode cX5_odds 30 = .ok (.iconst 0, 1) := dgrp_at dg_b_111 17 rfl
theorem dX5_odds_31 : decode cX5_odds 31 = .ok (.istore_n 3, 1) := dgrp_at dg_b_111 18 rfl
theorem dX5_odds_32 : decode cX5_odds 32 = .ok (.iconst 0, 1) := dgrp_at dg_b_111 19 rfl
theorem dX5_odds_33 : decode cX5_odds 33 = .ok (.istore 4, 2) := dgrp_at dg_b_111 20 rfl
theorem dX5_odds_35 : decode cX5_odds 35 = .ok (.iload 4, 2) := dgrp_at dg_b_111 21 rfl
theorem dX5_odds_37 : decode cX5_odds 37 = .ok (.aload_n 0, 1) := dgrp_at dg_b_111 22 rfl
theorem dX5_odds_38 : decode cX5_odds 38 = .ok (.invokevirtual 58, 3) := dgrp_at dg_b_111 23 rfl
theorem dX5_odds_41 : decode cX5_odds 41 = .ok (.if_icmp .ge 41, 3) := dgrp_at dg_b_111 24 rfl
theorem dX5_odds_44 : decode cX5_odds 44 = .ok (.iload_n 3, 1) := dgrp_at dg_b_111 25 rfl
theorem dX5_odds_45 : decode cX5_odds 45 = .ok (.aload_n 0, 1) := dgrp_at dg_b_111 26 rfl
theorem dX5_odds_46 : decode cX5_odds 46 = .ok (.getfield 32, 3) := dgrp_at dg_b_111 27 rfl
theorem dX5_odds_49 : decode cX5_odds 49 = .ok (.iload 4, 2) := dgrp_at dg_b_111 28 rfl
theorem dX5_odds_51 : decode cX5_odds 51 = .ok (.iaload, 1) := dgrp_at dg_b_111 29 rfl
theorem dX5_odds_52 : decode cX5_odds 52 = .ok (.ifCond .lt 21, 3) := dgrp_at dg_b_111 30 rfl
theorem dX5_odds_55 : decode cX5_odds 55 = .ok (.aload_n 0, 1) := dgrp_at dg_b_111 31 rfl
def dl_b_112 : List (Nat × Instr × Nat) := [(56, .getfield 32, 3), (59, .iload 4, 2), (61, .iaload, 1), (62, .iload_n 1, 1), (63, .invokestatic 74, 3), (66, .ifCond .eq 7, 3), (69, .iconst 1, 1), (70, .goto 4, 3), (73, .iconst 0, 1), (74, .iadd, 1), (75, .istore_n 3, 1), (76, .iinc 4 1, 3), (79, .goto (-44), 3), (82, .aload_n 0, 1), (83, .invokevirtual 58, 3), (86, .istore 4, 2), (88, .iload_n 3, 1), (89, .iconst 2, 1), (90, .irem, 1), (91, .ifCond .ne 22, 3), (94, .iload 4, 2), (96, .iconst 1, 1), (97, .if_icmp .le 16, 3), (100, .iload_n 3, 1), (101, .iconst 2, 1), (102, .idiv, 1), (103, .istore_n 3, 1), (104, .iload 4, 2), (106, .iconst 2, 1), (107, .idiv, 1), (108, .istore 4, 2), (110, .goto (-22), 3)]
theorem dg_b_112 : dgrp cX5_odds dl_b_112 = true := by decide +kernel
theorem dX5_odds_56 : decode cX5_odds 56 = .ok (.getfield 32, 3) := dgrp_at dg_b_112 0 rfl
theorem dX5_odds_59 : decode cX5_odds 59 = .ok (.iload 4, 2) := dgrp_at dg_b_112 1 rfl
theorem dX5_odds_61 : decode cX5_odds 61 = .ok (.iaload, 1) := dgrp_at dg_b_112 2 rfl
theorem dX5_odds_62 : decode cX5_odds 62 = .ok (.iload_n 1, 1) := dgrp_at dg_b_112 3 rfl
theorem dX5_odds_63 : decode cX5_odds 63 = .ok (.invokestatic 74, 3) := dgrp_at dg_b_112 4 rfl
theorem dX5_odds_66 : decode cX5_odds 66 = .ok (.ifCond .eq 7, 3) := dgrp_at dg_b_112 5 rfl
theorem dX5_odds_69 : decode cX5_odds 69 = .ok (.iconst 1, 1) := dgrp_at dg_b_112 6 rfl
theorem dX5_odds_70 : decode cX5_odds 70 = .ok (.goto 4, 3) := dgrp_at dg_b_112 7 rfl
theorem dX5_odds_73 : decode cX5_odds 73 = .ok (.iconst 0, 1) := dgrp_at dg_b_112 8 rfl
theorem dX5_odds_74 : decode cX5_odds 74 = .ok (.iadd, 1) := dgrp_at dg_b_112 9 rfl
theorem dX5_odds_75 : decode cX5_odds 75 = .ok (.istore_n 3, 1) := dgrp_at dg_b_112 10 rfl
theorem dX5_odds_76 : decode cX5_odds 76 = .ok (.iinc 4 1, 3) := dgrp_at dg_b_112 11 rfl
theorem dX5_odds_79 : decode cX5_odds 79 = .ok (.goto (-44), 3) := dgrp_at dg_b_112 12 rfl
theorem dX5_odds_82 : decode cX5_odds 82 = .ok (.aload_n 0, 1) := dgrp_at dg_b_112 13 rfl
theorem dX5_odds_83 : decode cX5_odds 83 = .ok (.invokevirtual 58, 3) := dgrp_at dg_b_112 14 rfl
theorem dX5_odds_86 : decode cX5_odds 86 = .ok (.istore 4, 2) := dgrp_at dg_b_112 15 rfl
theorem dX5_odds_88 : decode cX5_odds 88 = .ok (.iload_n 3, 1) := dgrp_at dg_b_112 16 rfl
theorem dX5_odds_89 : decode cX5_odds 89 = .ok (.iconst 2, 1) := dgrp_at dg_b_112 17 rfl
theorem dX5_odds_90 : decode cX5_odds 90 = .ok (.irem, 1) := dgrp_at dg_b_112 18 rfl
theorem dX5_odds_91 : decode cX5_odds 91 = .ok (.ifCond .ne 22, 3) := dgrp_at dg_b_112 19 rfl
theorem dX5_odds_94 : decode cX5_odds 94 = .ok (.iload 4, 2) := dgrp_at dg_b_112 20 rfl
theorem dX5_odds_96 : decode cX5_odds 96 = .ok (.iconst 1, 1) := dgrp_at dg_b_112 21 rfl
theorem dX5_odds_97 : decode cX5_odds 97 = .ok (.if_icmp .le 16, 3) := dgrp_at dg_b_112 22 rfl
theorem dX5_odds_100 : decode cX5_odds 100 = .ok (.iload_n 3, 1) := dgrp_at dg_b_112 23 rfl
theorem dX5_odds_101 : decode cX5_odds 101 = .ok (.iconst 2, 1) := dgrp_at dg_b_112 24 rfl
theorem dX5_odds_102 : decode cX5_odds 102 = .ok (.idiv, 1) := dgrp_at dg_b_112 25 rfl
theorem dX5_odds_103 : decode cX5_odds 103 = .ok (.istore_n 3, 1) := dgrp_at dg_b_112 26 rfl
theorem dX5_odds_104 : decode cX5_odds 104 = .ok (.iload 4, 2) := dgrp_at dg_b_112 27 rfl
theorem dX5_odds_106 : decode cX5_odds 106 = .ok (.iconst 2, 1) := dgrp_at dg_b_112 28 rfl
theorem dX5_odds_107 : decode cX5_odds 107 = .ok (.idiv, 1) := dgrp_at dg_b_112 29 rfl
theorem dX5_odds_108 : decode cX5_odds 108 = .ok (.istore 4, 2) := dgrp_at dg_b_112 30 rfl
theorem dX5_odds_110 : decode cX5_odds 110 = .ok (.goto (-22), 3) := dgrp_at dg_b_112 31 rfl
def dl_b_113 : List (Nat × Instr × Nat) := [(113, .iload_n 2, 1), (114, .ifCond .ne 8, 3), (117, .iload_n 3, 1), (118, .i2l, 1), (119, .goto 6, 3), (122, .iload 4, 2), (124, .i2l, 1), (125, .lreturn, 1)]
theorem dg_b_113 : dgrp cX5_odds dl_b_113 = true := by decide +kernel
theorem dX5_odds_113 : decode cX5_odds 113 = .ok (.iload_n 2, 1) := dgrp_at dg_b_113 0 rfl
theorem dX5_odds_114 : decode cX5_odds 114 = .ok (.ifCond .ne 8, 3) := dgrp_at dg_b_113 1 rfl
theorem dX5_odds_117 : decode cX5_odds 117 = .ok (.iload_n 3, 1) := dgrp_at dg_b_113 2 rfl
theorem dX5_odds_118 : decode cX5_odds 118 = .ok (.i2l, 1) := dgrp_at dg_b_113 3 rfl
theorem dX5_odds_119 : decode cX5_odds 119 = .ok (.goto 6, 3) := dgrp_at dg_b_113 4 rfl
theorem dX5_odds_122 : decode cX5_odds 122 = .ok (.iload 4, 2) := dgrp_at dg_b_113 5 rfl
theorem dX5_odds_124 : decode cX5_odds 124 = .ok (.i2l, 1) := dgrp_at dg_b_113 6 rfl
theorem dX5_odds_125 : decode cX5_odds 125 = .ok (.lreturn, 1) := dgrp_at dg_b_113 7 rfl
def dl_b_114 : List (Nat × Instr × Nat) := [(0, .iload_n 1, 1), (1, .istore_n 3, 1), (2, .iconst 0, 1), (3, .istore 4, 2), (5, .iload 4, 2), (7, .bipush 64, 2), (9, .if_icmp .ge 20, 3), (12, .aload_n 0, 1), (13, .getfield 29, 3), (16, .iload_n 3, 1), (17, .iaload, 1), (18, .iload_n 2, 1), (19, .iand, 1), (20, .iload_n 1, 1), (21, .ior, 1), (22, .istore_n 3, 1), (23, .iinc 4 1, 3), (26, .goto (-21), 3), (29, .iload_n 3, 1), (30, .ireturn, 1)]
theorem dg_b_114 : dgrp cX5_lastOf dl_b_114 = true := by decide +kernel
theorem dX5_lastOf_0 : decode cX5_lastOf 0 = .ok (.iload_n 1, 1) := dgrp_at dg_b_114 0 rfl
theorem dX5_lastOf_1 : decode cX5_lastOf 1 = .ok (.istore_n 3, 1) := dgrp_at dg_b_114 1 rfl
theorem dX5_lastOf_2 : decode cX5_lastOf 2 = .ok (.iconst 0, 1) := dgrp_at dg_b_114 2 rfl
theorem dX5_lastOf_3 : decode cX5_lastOf 3 = .ok (.istore 4, 2) := dgrp_at dg_b_114 3 rfl
theorem dX5_lastOf_5 : decode cX5_lastOf 5 = .ok (.iload 4, 2) := dgrp_at dg_b_114 4 rfl
theorem dX5_lastOf_7 : decode cX5_lastOf 7 = .ok (.bipush 64, 2) := dgrp_at dg_b_114 5 rfl
theorem dX5_lastOf_9 : decode cX5_lastOf 9 = .ok (.if_icmp .ge 20, 3) := dgrp_at dg_b_114 6 rfl
theorem dX5_lastOf_12 : decode cX5_lastOf 12 = .ok (.aload_n 0, 1) := dgrp_at dg_b_114 7 rfl
theorem dX5_lastOf_13 : decode cX5_lastOf 13 = .ok (.getfield 29, 3) := dgrp_at dg_b_114 8 rfl
theorem dX5_lastOf_16 : decode cX5_lastOf 16 = .ok (.iload_n 3, 1) := dgrp_at dg_b_114 9 rfl
theorem dX5_lastOf_17 : decode cX5_lastOf 17 = .ok (.iaload, 1) := dgrp_at dg_b_114 10 rfl
theorem dX5_lastOf_18 : decode cX5_lastOf 18 = .ok (.iload_n 2, 1) := dgrp_at dg_b_114 11 rfl
theorem dX5_lastOf_19 : decode cX5_lastOf 19 = .ok (.iand, 1) := dgrp_at dg_b_114 12 rfl
theorem dX5_lastOf_20 : decode cX5_lastOf 20 = .ok (.iload_n 1, 1) := dgrp_at dg_b_114 13 rfl
theorem dX5_lastOf_21 : decode cX5_lastOf 21 = .ok (.ior, 1) := dgrp_at dg_b_114 14 rfl
theorem dX5_lastOf_22 : decode cX5_lastOf 22 = .ok (.istore_n 3, 1) := dgrp_at dg_b_114 15 rfl
theorem dX5_lastOf_23 : decode cX5_lastOf 23 = .ok (.iinc 4 1, 3) := dgrp_at dg_b_114 16 rfl
theorem dX5_lastOf_26 : decode cX5_lastOf 26 = .ok (.goto (-21), 3) := dgrp_at dg_b_114 17 rfl
theorem dX5_lastOf_29 : decode cX5_lastOf 29 = .ok (.iload_n 3, 1) := dgrp_at dg_b_114 18 rfl
theorem dX5_lastOf_30 : decode cX5_lastOf 30 = .ok (.ireturn, 1) := dgrp_at dg_b_114 19 rfl
