theorem dX0_init_7 : decode cX0_init 7 = .ok (.newarray .int, 2) := by decide +kernel
theorem dX0_init_15 : decode cX0_init 15 = .ok (.newarray .int, 2) := by decide +kernel
theorem dX0_init_23 : decode cX0_init 23 = .ok (.newarray .long, 2) := by decide +kernel
theorem dX0_init_32 : decode cX0_init 32 = .ok (.newarray .int, 2) := by decide +kernel
theorem dX0_wouldComeAs_16 : decode cX0_wouldComeAs 16 = .ok (.tableswitch 116 0 5 #[40, 43, 60, 116, 77, 99], 40) := by decide +kernel
theorem dX1_init_7 : decode cX1_init 7 = .ok (.newarray .long, 2) := by decide +kernel
theorem dX2_init_7 : decode cX2_init 7 = .ok (.newarray .int, 2) := by decide +kernel
theorem dX3_init_8 : decode cX3_init 8 = .ok (.newarray .int, 2) := by decide +kernel
theorem dX3_init_17 : decode cX3_init 17 = .ok (.newarray .int, 2) := by decide +kernel
theorem dX3_init_26 : decode cX3_init 26 = .ok (.newarray .int, 2) := by decide +kernel
theorem dX4_init_85 : decode cX4_init 85 = .ok (.newarray .int, 2) := by decide +kernel
theorem dX4_of_19 : decode cX4_of 19 = .ok (.tableswitch 119 0 5 #[37, 47, 57, 69, 88, 107], 37) := by decide +kernel
theorem dX4_now_1 : decode cX4_now 1 = .ok (.tableswitch 102 0 4 #[35, 43, 54, 69, 87], 35) := by decide +kernel
theorem dX4_sure_113 : decode cX4_sure 113 = .ok (.tableswitch 34 0 2 #[27, 29, 31], 27) := by decide +kernel
def dl_a_0 : List (Nat × Instr × Nat) := [(0, .iload_n 0, 1), (1, .iload_n 0, 1), (2, .iconst 1, 1), (3, .iushr, 1), (4, .ldc_w 265, 3), (7, .iand, 1), (8, .isub, 1), (9, .istore_n 0, 1), (10, .iload_n 0, 1), (11, .ldc_w 266, 3), (14, .iand, 1), (15, .iload_n 0, 1), (16, .iconst 2, 1), (17, .iushr, 1), (18, .ldc_w 266, 3), (21, .iand, 1), (22, .iadd, 1), (23, .istore_n 0, 1), (24, .iload_n 0, 1), (25, .iload_n 0, 1), (26, .iconst 4, 1), (27, .iushr, 1), (28, .iadd, 1), (29, .ldc_w 267, 3), (32, .iand, 1), (33, .istore_n 0, 1), (34, .iload_n 0, 1), (35, .iload_n 0, 1), (36, .bipush 8, 2), (38, .iushr, 1), (39, .iadd, 1), (40, .istore_n 0, 1)]
theorem dg_a_0 : dgrp cJ6_bitCount_0f7a4 dl_a_0 = true := by decide +kernel
theorem dJ6_bitCount_0f7a4_0 : decode cJ6_bitCount_0f7a4 0 = .ok (.iload_n 0, 1) := dgrp_at dg_a_0 0 rfl
theorem dJ6_bitCount_0f7a4_1 : decode cJ6_bitCount_0f7a4 1 = .ok (.iload_n 0, 1) := dgrp_at dg_a_0 1 rfl
theorem dJ6_bitCount_0f7a4_2 : decode cJ6_bitCount_0f7a4 2 = .ok (.iconst 1, 1) := dgrp_at dg_a_0 2 rfl
theorem dJ6_bitCount_0f7a4_3 : decode cJ6_bitCount_0f7a4 3 = .ok (.iushr, 1) := dgrp_at dg_a_0 3 rfl
theorem dJ6_bitCount_0f7a4_4 : decode cJ6_bitCount_0f7a4 4 = .ok (.ldc_w 265, 3) := dgrp_at dg_a_0 4 rfl
theorem dJ6_bitCount_0f7a4_7 : decode cJ6_bitCount_0f7a4 7 = .ok (.iand, 1) := dgrp_at dg_a_0 5 rfl
theorem dJ6_bitCount_0f7a4_8 : decode cJ6_bitCount_0f7a4 8 = .ok (.isub, 1) := dgrp_at dg_a_0 6 rfl
theorem dJ6_bitCount_0f7a4_9 : decode cJ6_bitCount_0f7a4 9 = .ok (.istore_n 0, 1) := dgrp_at dg_a_0 7 rfl
theorem dJ6_bitCount_0f7a4_10 : decode cJ6_bitCount_0f7a4 10 = .ok (.iload_n 0, 1) := dgrp_at dg_a_0 8 rfl
theorem dJ6_bitCount_0f7a4_11 : decode cJ6_bitCount_0f7a4 11 = .ok (.ldc_w 266, 3) := dgrp_at dg_a_0 9 rfl
theorem dJ6_bitCount_0f7a4_14 : decode cJ6_bitCount_0f7a4 14 = .ok (.iand, 1) := dgrp_at dg_a_0 10 rfl
theorem dJ6_bitCount_0f7a4_15 : decode cJ6_bitCount_0f7a4 15 = .ok (.iload_n 0, 1) := dgrp_at dg_a_0 11 rfl
theorem dJ6_bitCount_0f7a4_16 : decode cJ6_bitCount_0f7a4 16 = .ok (.iconst 2, 1) := dgrp_at dg_a_0 12 rfl
theorem dJ6_bitCount_0f7a4_17 : decode cJ6_bitCount_0f7a4 17 = .ok (.iushr, 1) := dgrp_at dg_a_0 13 rfl
theorem dJ6_bitCount_0f7a4_18 : decode cJ6_bitCount_0f7a4 18 = .ok (.ldc_w 266, 3) := dgrp_at dg_a_0 14 rfl
theorem dJ6_bitCount_0f7a4_21 : decode cJ6_bitCount_0f7a4 21 = .ok (.iand, 1) := dgrp_at dg_a_0 15 rfl
theorem dJ6_bitCount_0f7a4_22 : decode cJ6_bitCount_0f7a4 22 = .ok (.iadd, 1) := dgrp_at dg_a_0 16 rfl
theorem dJ6_bitCount_0f7a4_23 : decode cJ6_bitCount_0f7a4 23 = .ok (.istore_n 0, 1) := dgrp_at dg_a_0 17 rfl
theorem dJ6_bitCount_0f7a4_24 : decode cJ6_bitCount_0f7a4 24 = .ok (.iload_n 0, 1) := dgrp_at dg_a_0 18 rfl
theorem dJ6_bitCount_0f7a4_25 : decode cJ6_bitCount_0f7a4 25 = .ok (.iload_n 0, 1) := dgrp_at dg_a_0 19 rfl
theorem dJ6_bitCount_0f7a4_26 : decode cJ6_bitCount_0f7a4 26 = .ok (.iconst 4, 1) := dgrp_at dg_a_0 20 rfl
theorem dJ6_bitCount_0f7a4_27 : decode cJ6_bitCount_0f7a4 27 = .ok (.iushr, 1) := dgrp_at dg_a_0 21 rfl
theorem dJ6_bitCount_0f7a4_28 : decode cJ6_bitCount_0f7a4 28 = .ok (.iadd, 1) := dgrp_at dg_a_0 22 rfl
theorem dJ6_bitCount_0f7a4_29 : decode cJ6_bitCount_0f7a4 29 = .ok (.ldc_w 267, 3) := dgrp_at dg_a_0 23 rfl
theorem dJ6_bitCount_0f7a4_32 : decode cJ6_bitCount_0f7a4 32 = .ok (.iand, 1) := dgrp_at dg_a_0 24 rfl
theorem dJ6_bitCount_0f7a4_33 : decode cJ6_bitCount_0f7a4 33 = .ok (.istore_n 0, 1) := dgrp_at dg_a_0 25 rfl
theorem dJ6_bitCount_0f7a4_34 : decode cJ6_bitCount_0f7a4 34 = .ok (.iload_n 0, 1) := dgrp_at dg_a_0 26 rfl
theorem dJ6_bitCount_0f7a4_35 : decode cJ6_bitCount_0f7a4 35 = .ok (.iload_n 0, 1) := dgrp_at dg_a_0 27 rfl
theorem dJ6_bitCount_0f7a4_36 : decode cJ6_bitCount_0f7a4 36 = .ok (.bipush 8, 2) := dgrp_at dg_a_0 28 rfl
theorem dJ6_bitCount_0f7a4_38 : decode cJ6_bitCount_0f7a4 38 = .ok (.iushr, 1) := dgrp_at dg_a_0 29 rfl
theorem dJ6_bitCount_0f7a4_39 : decode cJ6_bitCount_0f7a4 39 = .ok (.iadd, 1) := dgrp_at dg_a_0 30 rfl
theorem dJ6_bitCount_0f7a4_40 : decode cJ6_bitCount_0f7a4 40 = .ok (.istore_n 0, 1) := dgrp_at dg_a_0 31 rfl
def dl_a_1 : List (Nat × Instr × Nat) := [(41, .iload_n 0, 1), (42, .iload_n 0, 1), (43, .bipush 16, 2), (45, .iushr, 1), (46, .iadd, 1), (47, .istore_n 0, 1), (48, .iload_n 0, 1), (49, .bipush 63, 2), (51, .iand, 1), (52, .ireturn, 1)]
theorem dg_a_1 : dgrp cJ6_bitCount_0f7a4 dl_a_1 = true := by decide +kernel
theorem dJ6_bitCount_0f7a4_41 : decode cJ6_bitCount_0f7a4 41 = .ok (.iload_n 0, 1) := dgrp_at dg_a_1 0 rfl
theorem dJ6_bitCount_0f7a4_42 : decode cJ6_bitCount_0f7a4 42 = .ok (.iload_n 0, 1) := dgrp_at dg_a_1 1 rfl
theorem dJ6_bitCount_0f7a4_43 : decode cJ6_bitCount_0f7a4 43 = .ok (.bipush 16, 2) := dgrp_at dg_a_1 2 rfl
theorem dJ6_bitCount_0f7a4_45 : decode cJ6_bitCount_0f7a4 45 = .ok (.iushr, 1) := dgrp_at dg_a_1 3 rfl
theorem dJ6_bitCount_0f7a4_46 : decode cJ6_bitCount_0f7a4 46 = .ok (.iadd, 1) := dgrp_at dg_a_1 4 rfl
theorem dJ6_bitCount_0f7a4_47 : decode cJ6_bitCount_0f7a4 47 = .ok (.istore_n 0, 1) := dgrp_at dg_a_1 5 rfl
theorem dJ6_bitCount_0f7a4_48 : decode cJ6_bitCount_0f7a4 48 = .ok (.iload_n 0, 1) := dgrp_at dg_a_1 6 rfl
theorem dJ6_bitCount_0f7a4_49 : decode cJ6_bitCount_0f7a4 49 = .ok (.bipush 63, 2) := dgrp_at dg_a_1 7 rfl
theorem dJ6_bitCount_0f7a4_51 : decode cJ6_bitCount_0f7a4 51 = .ok (.iand, 1) := dgrp_at dg_a_1 8 rfl
theorem dJ6_bitCount_0f7a4_52 : decode cJ6_bitCount_0f7a4 52 = .ok (.ireturn, 1) := dgrp_at dg_a_1 9 rfl
def dl_a_2 : List (Nat × Instr × Nat) := [(0, .iconst 0, 1), (1, .istore_n 3, 1), (2, .aload_n 0, 1), (3, .arraylength, 1), (4, .istore 4, 2), (6, .iload_n 3, 1), (7, .iload 4, 2), (9, .if_icmp .ge 13, 3), (12, .aload_n 0, 1), (13, .iload_n 3, 1), (14, .lload_n 1, 1), (15, .lastore, 1), (16, .iinc 3 1, 3), (19, .goto (-13), 3), (22, .return_, 1)]
theorem dg_a_2 : dgrp cJ7_fill_d0a16 dl_a_2 = true := by decide +kernel
theorem dJ7_fill_d0a16_0 : decode cJ7_fill_d0a16 0 = .ok (.iconst 0, 1) := dgrp_at dg_a_2 0 rfl
theorem dJ7_fill_d0a16_1 : decode cJ7_fill_d0a16 1 = .ok (.istore_n 3, 1) := dgrp_at dg_a_2 1 rfl
theorem dJ7_fill_d0a16_2 : decode cJ7_fill_d0a16 2 = .ok (.aload_n 0, 1) := dgrp_at dg_a_2 2 rfl
theorem dJ7_fill_d0a16_3 : decode cJ7_fill_d0a16 3 = .ok (.arraylength, 1) := dgrp_at dg_a_2 3 rfl
theorem dJ7_fill_d0a16_4 : decode cJ7_fill_d0a16 4 = .ok (.istore 4, 2) := dgrp_at dg_a_2 4 rfl
theorem dJ7_fill_d0a16_6 : decode cJ7_fill_d0a16 6 = .ok (.iload_n 3, 1) := dgrp_at dg_a_2 5 rfl
theorem dJ7_fill_d0a16_7 : decode cJ7_fill_d0a16 7 = .ok (.iload 4, 2) := dgrp_at dg_a_2 6 rfl
theorem dJ7_fill_d0a16_9 : decode cJ7_fill_d0a16 9 = .ok (.if_icmp .ge 13, 3) := dgrp_at dg_a_2 7 rfl
theorem dJ7_fill_d0a16_12 : decode cJ7_fill_d0a16 12 = .ok (.aload_n 0, 1) := dgrp_at dg_a_2 8 rfl
theorem dJ7_fill_d0a16_13 : decode cJ7_fill_d0a16 13 = .ok (.iload_n 3, 1) := dgrp_at dg_a_2 9 rfl
theorem dJ7_fill_d0a16_14 : decode cJ7_fill_d0a16 14 = .ok (.lload_n 1, 1) := dgrp_at dg_a_2 10 rfl
theorem dJ7_fill_d0a16_15 : decode cJ7_fill_d0a16 15 = .ok (.lastore, 1) := dgrp_at dg_a_2 11 rfl
theorem dJ7_fill_d0a16_16 : decode cJ7_fill_d0a16 16 = .ok (.iinc 3 1, 3) := dgrp_at dg_a_2 12 rfl
theorem dJ7_fill_d0a16_19 : decode cJ7_fill_d0a16 19 = .ok (.goto (-13), 3) := dgrp_at dg_a_2 13 rfl
theorem dJ7_fill_d0a16_22 : decode cJ7_fill_d0a16 22 = .ok (.return_, 1) := dgrp_at dg_a_2 14 rfl
def dl_a_3 : List (Nat × Instr × Nat) := [(0, .iconst 0, 1), (1, .istore_n 2, 1), (2, .aload_n 0, 1), (3, .arraylength, 1), (4, .istore_n 3, 1), (5, .iload_n 2, 1), (6, .iload_n 3, 1), (7, .if_icmp .ge 13, 3), (10, .aload_n 0, 1), (11, .iload_n 2, 1), (12, .iload_n 1, 1), (13, .iastore, 1), (14, .iinc 2 1, 3), (17, .goto (-12), 3), (20, .return_, 1)]
theorem dg_a_3 : dgrp cJ7_fill_53178 dl_a_3 = true := by decide +kernel
theorem dJ7_fill_53178_0 : decode cJ7_fill_53178 0 = .ok (.iconst 0, 1) := dgrp_at dg_a_3 0 rfl
theorem dJ7_fill_53178_1 : decode cJ7_fill_53178 1 = .ok (.istore_n 2, 1) := dgrp_at dg_a_3 1 rfl
theorem dJ7_fill_53178_2 : decode cJ7_fill_53178 2 = .ok (.aload_n 0, 1) := dgrp_at dg_a_3 2 rfl
theorem dJ7_fill_53178_3 : decode cJ7_fill_53178 3 = .ok (.arraylength, 1) := dgrp_at dg_a_3 3 rfl
theorem dJ7_fill_53178_4 : decode cJ7_fill_53178 4 = .ok (.istore_n 3, 1) := dgrp_at dg_a_3 4 rfl
theorem dJ7_fill_53178_5 : decode cJ7_fill_53178 5 = .ok (.iload_n 2, 1) := dgrp_at dg_a_3 5 rfl
theorem dJ7_fill_53178_6 : decode cJ7_fill_53178 6 = .ok (.iload_n 3, 1) := dgrp_at dg_a_3 6 rfl
theorem dJ7_fill_53178_7 : decode cJ7_fill_53178 7 = .ok (.if_icmp .ge 13, 3) := dgrp_at dg_a_3 7 rfl
theorem dJ7_fill_53178_10 : decode cJ7_fill_53178 10 = .ok (.aload_n 0, 1) := dgrp_at dg_a_3 8 rfl
theorem dJ7_fill_53178_11 : decode cJ7_fill_53178 11 = .ok (.iload_n 2, 1) := dgrp_at dg_a_3 9 rfl
theorem dJ7_fill_53178_12 : decode cJ7_fill_53178 12 = .ok (.iload_n 1, 1) := dgrp_at dg_a_3 10 rfl
theorem dJ7_fill_53178_13 : decode cJ7_fill_53178 13 = .ok (.iastore, 1) := dgrp_at dg_a_3 11 rfl
theorem dJ7_fill_53178_14 : decode cJ7_fill_53178 14 = .ok (.iinc 2 1, 3) := dgrp_at dg_a_3 12 rfl
theorem dJ7_fill_53178_17 : decode cJ7_fill_53178 17 = .ok (.goto (-12), 3) := dgrp_at dg_a_3 13 rfl
theorem dJ7_fill_53178_20 : decode cJ7_fill_53178 20 = .ok (.return_, 1) := dgrp_at dg_a_3 14 rfl
def dl_a_4 : List (Nat × Instr × Nat) := [(0, .iload_n 0, 1), (1, .iload_n 1, 1), (2, .if_icmp .lt 7, 3), (5, .iload_n 0, 1), (6, .goto 4, 3), (9, .iload_n 1, 1), (10, .ireturn, 1)]
theorem dg_a_4 : dgrp cJ9_max_7cf53 dl_a_4 = true := by decide +kernel
theorem dJ9_max_7cf53_0 : decode cJ9_max_7cf53 0 = .ok (.iload_n 0, 1) := dgrp_at dg_a_4 0 rfl
theorem dJ9_max_7cf53_1 : decode cJ9_max_7cf53 1 = .ok (.iload_n 1, 1) := dgrp_at dg_a_4 1 rfl
theorem dJ9_max_7cf53_2 : decode cJ9_max_7cf53 2 = .ok (.if_icmp .lt 7, 3) := dgrp_at dg_a_4 2 rfl
theorem dJ9_max_7cf53_5 : decode cJ9_max_7cf53 5 = .ok (.iload_n 0, 1) := dgrp_at dg_a_4 3 rfl
theorem dJ9_max_7cf53_6 : decode cJ9_max_7cf53 6 = .ok (.goto 4, 3) := dgrp_at dg_a_4 4 rfl
theorem dJ9_max_7cf53_9 : decode cJ9_max_7cf53 9 = .ok (.iload_n 1, 1) := dgrp_at dg_a_4 5 rfl
theorem dJ9_max_7cf53_10 : decode cJ9_max_7cf53 10 = .ok (.ireturn, 1) := dgrp_at dg_a_4 6 rfl
def dl_a_5 : List (Nat × Instr × Nat) := [(0, .iload_n 0, 1), (1, .iload_n 1, 1), (2, .if_icmp .gt 7, 3), (5, .iload_n 0, 1), (6, .goto 4, 3), (9, .iload_n 1, 1), (10, .ireturn, 1)]
theorem dg_a_5 : dgrp cJ9_min_7cf53 dl_a_5 = true := by decide +kernel
theorem dJ9_min_7cf53_0 : decode cJ9_min_7cf53 0 = .ok (.iload_n 0, 1) := dgrp_at dg_a_5 0 rfl
theorem dJ9_min_7cf53_1 : decode cJ9_min_7cf53 1 = .ok (.iload_n 1, 1) := dgrp_at dg_a_5 1 rfl
theorem dJ9_min_7cf53_2 : decode cJ9_min_7cf53 2 = .ok (.if_icmp .gt 7, 3) := dgrp_at dg_a_5 2 rfl
theorem dJ9_min_7cf53_5 : decode cJ9_min_7cf53 5 = .ok (.iload_n 0, 1) := dgrp_at dg_a_5 3 rfl
theorem dJ9_min_7cf53_6 : decode cJ9_min_7cf53 6 = .ok (.goto 4, 3) := dgrp_at dg_a_5 4 rfl
theorem dJ9_min_7cf53_9 : decode cJ9_min_7cf53 9 = .ok (.iload_n 1, 1) := dgrp_at dg_a_5 5 rfl
theorem dJ9_min_7cf53_10 : decode cJ9_min_7cf53 10 = .ok (.ireturn, 1) := dgrp_at dg_a_5 6 rfl
def dl_a_6 : List (Nat × Instr × Nat) := [(0, .aload_n 0, 1), (1, .invokespecial 3, 3), (4, .aload_n 0, 1), (5, .bipush 8, 2), (9, .putfield 9, 3), (12, .aload_n 0, 1), (13, .bipush 8, 2), (17, .putfield 15, 3), (20, .aload_n 0, 1), (21, .bipush 32, 2), (25, .putfield 18, 3), (28, .aload_n 0, 1), (29, .sipush 256, 3), (34, .putfield 22, 3), (37, .aload_n 0, 1), (38, .getfield 18, 3), (41, .ldc2_w 25, 3), (44, .invokestatic 27, 3), (47, .aload_n 0, 1), (48, .getfield 22, 3), (51, .iconst (-1), 1), (52, .invokestatic 33, 3), (55, .return_, 1)]
theorem dg_a_6 : dgrp cX0_init dl_a_6 = true := by decide +kernel
theorem dX0_init_0 : decode cX0_init 0 = .ok (.aload_n 0, 1) := dgrp_at dg_a_6 0 rfl
theorem dX0_init_1 : decode cX0_init 1 = .ok (.invokespecial 3, 3) := dgrp_at dg_a_6 1 rfl
theorem dX0_init_4 : decode cX0_init 4 = .ok (.aload_n 0, 1) := dgrp_at dg_a_6 2 rfl
theorem dX0_init_5 : decode cX0_init 5 = .ok (.bipush 8, 2) := dgrp_at dg_a_6 3 rfl
theorem dX0_init_9 : decode cX0_init 9 = .ok (.putfield 9, 3) := dgrp_at dg_a_6 4 rfl
theorem dX0_init_12 : decode cX0_init 12 = .ok (.aload_n 0, 1) := dgrp_at dg_a_6 5 rfl
theorem dX0_init_13 : decode cX0_init 13 = .ok (.bipush 8, 2) := dgrp_at dg_a_6 6 rfl
theorem dX0_init_17 : decode cX0_init 17 = .ok (.putfield 15, 3) := dgrp_at dg_a_6 7 rfl
theorem dX0_init_20 : decode cX0_init 20 = .ok (.aload_n 0, 1) := dgrp_at dg_a_6 8 rfl
theorem dX0_init_21 : decode cX0_init 21 = .ok (.bipush 32, 2) := dgrp_at dg_a_6 9 rfl
theorem dX0_init_25 : decode cX0_init 25 = .ok (.putfield 18, 3) := dgrp_at dg_a_6 10 rfl
theorem dX0_init_28 : decode cX0_init 28 = .ok (.aload_n 0, 1) := dgrp_at dg_a_6 11 rfl
theorem dX0_init_29 : decode cX0_init 29 = .ok (.sipush 256, 3) := dgrp_at dg_a_6 12 rfl
theorem dX0_init_34 : decode cX0_init 34 = .ok (.putfield 22, 3) := dgrp_at dg_a_6 13 rfl
theorem dX0_init_37 : decode cX0_init 37 = .ok (.aload_n 0, 1) := dgrp_at dg_a_6 14 rfl
theorem dX0_init_38 : decode cX0_init 38 = .ok (.getfield 18, 3) := dgrp_at dg_a_6 15 rfl
theorem dX0_init_41 : decode cX0_init 41 = .ok (.ldc2_w 25, 3) := dgrp_at dg_a_6 16 rfl
theorem dX0_init_44 : decode cX0_init 44 = .ok (.invokestatic 27, 3) := dgrp_at dg_a_6 17 rfl
theorem dX0_init_47 : decode cX0_init 47 = .ok (.aload_n 0, 1) := dgrp_at dg_a_6 18 rfl
theorem dX0_init_48 : decode cX0_init 48 = .ok (.getfield 22, 3) := dgrp_at dg_a_6 19 rfl
theorem dX0_init_51 : decode cX0_init 51 = .ok (.iconst (-1), 1) := dgrp_at dg_a_6 20 rfl
theorem dX0_init_52 : decode cX0_init 52 = .ok (.invokestatic 33, 3) := dgrp_at dg_a_6 21 rfl
theorem dX0_init_55 : decode cX0_init 55 = .ok (.return_, 1) := dgrp_at dg_a_6 22 rfl
def dl_a_7 : List (Nat × Instr × Nat) := [(0, .iload_n 1, 1), (1, .ifCond .lt 15, 3), (4, .iload_n 1, 1), (5, .aload_n 0, 1), (6, .getfield 36, 3), (9, .if_icmp .ge 7, 3), (12, .iconst 1, 1), (13, .goto 4, 3), (16, .iconst 0, 1), (17, .ireturn, 1)]
theorem dg_a_7 : dgrp cX0_has dl_a_7 = true := by decide +kernel
theorem dX0_has_0 : decode cX0_has 0 = .ok (.iload_n 1, 1) := dgrp_at dg_a_7 0 rfl
theorem dX0_has_1 : decode cX0_has 1 = .ok (.ifCond .lt 15, 3) := dgrp_at dg_a_7 1 rfl
theorem dX0_has_4 : decode cX0_has 4 = .ok (.iload_n 1, 1) := dgrp_at dg_a_7 2 rfl
theorem dX0_has_5 : decode cX0_has 5 = .ok (.aload_n 0, 1) := dgrp_at dg_a_7 3 rfl
theorem dX0_has_6 : decode cX0_has 6 = .ok (.getfield 36, 3) := dgrp_at dg_a_7 4 rfl
theorem dX0_has_9 : decode cX0_has 9 = .ok (.if_icmp .ge 7, 3) := dgrp_at dg_a_7 5 rfl
theorem dX0_has_12 : decode cX0_has 12 = .ok (.iconst 1, 1) := dgrp_at dg_a_7 6 rfl
theorem dX0_has_13 : decode cX0_has 13 = .ok (.goto 4, 3) := dgrp_at dg_a_7 7 rfl
theorem dX0_has_16 : decode cX0_has 16 = .ok (.iconst 0, 1) := dgrp_at dg_a_7 8 rfl
theorem dX0_has_17 : decode cX0_has 17 = .ok (.ireturn, 1) := dgrp_at dg_a_7 9 rfl
def dl_a_8 : List (Nat × Instr × Nat) := [(0, .iload_n 1, 1), (1, .ifCond .lt 15, 3), (4, .iload_n 1, 1), (5, .aload_n 0, 1), (6, .invokevirtual 40, 3), (9, .if_icmp .ge 7, 3), (12, .iconst 1, 1), (13, .goto 4, 3), (16, .iconst 0, 1), (17, .ireturn, 1)]
theorem dg_a_8 : dgrp cX0_isSet dl_a_8 = true := by decide +kernel
theorem dX0_isSet_0 : decode cX0_isSet 0 = .ok (.iload_n 1, 1) := dgrp_at dg_a_8 0 rfl
theorem dX0_isSet_1 : decode cX0_isSet 1 = .ok (.ifCond .lt 15, 3) := dgrp_at dg_a_8 1 rfl
theorem dX0_isSet_4 : decode cX0_isSet 4 = .ok (.iload_n 1, 1) := dgrp_at dg_a_8 2 rfl
theorem dX0_isSet_5 : decode cX0_isSet 5 = .ok (.aload_n 0, 1) := dgrp_at dg_a_8 3 rfl
theorem dX0_isSet_6 : decode cX0_isSet 6 = .ok (.invokevirtual 40, 3) := dgrp_at dg_a_8 4 rfl
theorem dX0_isSet_9 : decode cX0_isSet 9 = .ok (.if_icmp .ge 7, 3) := dgrp_at dg_a_8 5 rfl
theorem dX0_isSet_12 : decode cX0_isSet 12 = .ok (.iconst 1, 1) := dgrp_at dg_a_8 6 rfl
theorem dX0_isSet_13 : decode cX0_isSet 13 = .ok (.goto 4, 3) := dgrp_at dg_a_8 7 rfl
theorem dX0_isSet_16 : decode cX0_isSet 16 = .ok (.iconst 0, 1) := dgrp_at dg_a_8 8 rfl
theorem dX0_isSet_17 : decode cX0_isSet 17 = .ok (.ireturn, 1) := dgrp_at dg_a_8 9 rfl
def dl_a_9 : List (Nat × Instr × Nat) := [(0, .iconst 1, 1), (1, .aload_n 0, 1), (2, .getfield 36, 3), (5, .ishl, 1), (6, .ireturn, 1)]
theorem dg_a_9 : dgrp cX0_lists dl_a_9 = true := by decide +kernel
theorem dX0_lists_0 : decode cX0_lists 0 = .ok (.iconst 1, 1) := dgrp_at dg_a_9 0 rfl
theorem dX0_lists_1 : decode cX0_lists 1 = .ok (.aload_n 0, 1) := dgrp_at dg_a_9 1 rfl
theorem dX0_lists_2 : decode cX0_lists 2 = .ok (.getfield 36, 3) := dgrp_at dg_a_9 2 rfl
theorem dX0_lists_5 : decode cX0_lists 5 = .ok (.ishl, 1) := dgrp_at dg_a_9 3 rfl
theorem dX0_lists_6 : decode cX0_lists 6 = .ok (.ireturn, 1) := dgrp_at dg_a_9 4 rfl
def dl_a_10 : List (Nat × Instr × Nat) := [(0, .aload_n 0, 1), (1, .invokevirtual 40, 3), (4, .iconst 1, 1), (5, .isub, 1), (6, .ireturn, 1)]
theorem dg_a_10 : dgrp cX0_everyone dl_a_10 = true := by decide +kernel
theorem dX0_everyone_0 : decode cX0_everyone 0 = .ok (.aload_n 0, 1) := dgrp_at dg_a_10 0 rfl
theorem dX0_everyone_1 : decode cX0_everyone 1 = .ok (.invokevirtual 40, 3) := dgrp_at dg_a_10 1 rfl
theorem dX0_everyone_4 : decode cX0_everyone 4 = .ok (.iconst 1, 1) := dgrp_at dg_a_10 2 rfl
theorem dX0_everyone_5 : decode cX0_everyone 5 = .ok (.isub, 1) := dgrp_at dg_a_10 3 rfl
theorem dX0_everyone_6 : decode cX0_everyone 6 = .ok (.ireturn, 1) := dgrp_at dg_a_10 4 rfl
def dl_a_11 : List (Nat × Instr × Nat) := [(0, .aload_n 0, 1), (1, .getfield 36, 3), (4, .istore_n 3, 1), (5, .aload_n 0, 1), (6, .getfield 9, 3), (9, .iload_n 3, 1), (10, .iload_n 1, 1), (11, .iastore, 1), (12, .aload_n 0, 1), (13, .getfield 15, 3), (16, .iload_n 3, 1), (17, .iload_n 2, 1), (18, .iastore, 1), (19, .aload_n 0, 1), (20, .dup, 1), (21, .getfield 36, 3), (24, .iconst 1, 1), (25, .iadd, 1), (26, .putfield 36, 3), (29, .aload_n 0, 1), (30, .getfield 22, 3), (33, .iconst (-1), 1), (34, .invokestatic 33, 3), (37, .iload_n 3, 1), (38, .ireturn, 1)]
theorem dg_a_11 : dgrp cX0_welcome dl_a_11 = true := by decide +kernel
theorem dX0_welcome_0 : decode cX0_welcome 0 = .ok (.aload_n 0, 1) := dgrp_at dg_a_11 0 rfl
theorem dX0_welcome_1 : decode cX0_welcome 1 = .ok (.getfield 36, 3) := dgrp_at dg_a_11 1 rfl
theorem dX0_welcome_4 : decode cX0_welcome 4 = .ok (.istore_n 3, 1) := dgrp_at dg_a_11 2 rfl
theorem dX0_welcome_5 : decode cX0_welcome 5 = .ok (.aload_n 0, 1) := dgrp_at dg_a_11 3 rfl
theorem dX0_welcome_6 : decode cX0_welcome 6 = .ok (.getfield 9, 3) := dgrp_at dg_a_11 4 rfl
theorem dX0_welcome_9 : decode cX0_welcome 9 = .ok (.iload_n 3, 1) := dgrp_at dg_a_11 5 rfl
theorem dX0_welcome_10 : decode cX0_welcome 10 = .ok (.iload_n 1, 1) := dgrp_at dg_a_11 6 rfl
theorem dX0_welcome_11 : decode cX0_welcome 11 = .ok (.iastore, 1) := dgrp_at dg_a_11 7 rfl
theorem dX0_welcome_12 : decode cX0_welcome 12 = .ok (.aload_n 0, 1) := dgrp_at dg_a_11 8 rfl
theorem dX0_welcome_13 : decode cX0_welcome 13 = .ok (.getfield 15, 3) := dgrp_at dg_a_11 9 rfl
theorem dX0_welcome_16 : decode cX0_welcome 16 = .ok (.iload_n 3, 1) := dgrp_at dg_a_11 10 rfl
theorem dX0_welcome_17 : decode cX0_welcome 17 = .ok (.iload_n 2, 1) := dgrp_at dg_a_11 11 rfl
theorem dX0_welcome_18 : decode cX0_welcome 18 = .ok (.iastore, 1) := dgrp_at dg_a_11 12 rfl
theorem dX0_welcome_19 : decode cX0_welcome 19 = .ok (.aload_n 0, 1) := dgrp_at dg_a_11 13 rfl
theorem dX0_welcome_20 : decode cX0_welcome 20 = .ok (.dup, 1) := dgrp_at dg_a_11 14 rfl
theorem dX0_welcome_21 : decode cX0_welcome 21 = .ok (.getfield 36, 3) := dgrp_at dg_a_11 15 rfl
theorem dX0_welcome_24 : decode cX0_welcome 24 = .ok (.iconst 1, 1) := dgrp_at dg_a_11 16 rfl
theorem dX0_welcome_25 : decode cX0_welcome 25 = .ok (.iadd, 1) := dgrp_at dg_a_11 17 rfl
theorem dX0_welcome_26 : decode cX0_welcome 26 = .ok (.putfield 36, 3) := dgrp_at dg_a_11 18 rfl
theorem dX0_welcome_29 : decode cX0_welcome 29 = .ok (.aload_n 0, 1) := dgrp_at dg_a_11 19 rfl
theorem dX0_welcome_30 : decode cX0_welcome 30 = .ok (.getfield 22, 3) := dgrp_at dg_a_11 20 rfl
theorem dX0_welcome_33 : decode cX0_welcome 33 = .ok (.iconst (-1), 1) := dgrp_at dg_a_11 21 rfl
theorem dX0_welcome_34 : decode cX0_welcome 34 = .ok (.invokestatic 33, 3) := dgrp_at dg_a_11 22 rfl
theorem dX0_welcome_37 : decode cX0_welcome 37 = .ok (.iload_n 3, 1) := dgrp_at dg_a_11 23 rfl
theorem dX0_welcome_38 : decode cX0_welcome 38 = .ok (.ireturn, 1) := dgrp_at dg_a_11 24 rfl
def dl_a_12 : List (Nat × Instr × Nat) := [(0, .aload_n 0, 1), (1, .getfield 9, 3), (4, .iload_n 1, 1), (5, .iaload, 1), (6, .istore_n 3, 1), (7, .aload_n 0, 1), (8, .getfield 9, 3), (11, .iload_n 1, 1), (12, .iload_n 2, 1), (13, .iastore, 1), (14, .aload_n 0, 1), (15, .getfield 22, 3), (18, .iconst (-1), 1), (19, .invokestatic 33, 3), (22, .iload_n 3, 1), (23, .ireturn, 1)]
theorem dg_a_12 : dgrp cX0_turnInto dl_a_12 = true := by decide +kernel
theorem dX0_turnInto_0 : decode cX0_turnInto 0 = .ok (.aload_n 0, 1) := dgrp_at dg_a_12 0 rfl
theorem dX0_turnInto_1 : decode cX0_turnInto 1 = .ok (.getfield 9, 3) := dgrp_at dg_a_12 1 rfl
theorem dX0_turnInto_4 : decode cX0_turnInto 4 = .ok (.iload_n 1, 1) := dgrp_at dg_a_12 2 rfl
theorem dX0_turnInto_5 : decode cX0_turnInto 5 = .ok (.iaload, 1) := dgrp_at dg_a_12 3 rfl
theorem dX0_turnInto_6 : decode cX0_turnInto 6 = .ok (.istore_n 3, 1) := dgrp_at dg_a_12 4 rfl
theorem dX0_turnInto_7 : decode cX0_turnInto 7 = .ok (.aload_n 0, 1) := dgrp_at dg_a_12 5 rfl
theorem dX0_turnInto_8 : decode cX0_turnInto 8 = .ok (.getfield 9, 3) := dgrp_at dg_a_12 6 rfl
theorem dX0_turnInto_11 : decode cX0_turnInto 11 = .ok (.iload_n 1, 1) := dgrp_at dg_a_12 7 rfl
theorem dX0_turnInto_12 : decode cX0_turnInto 12 = .ok (.iload_n 2, 1) := dgrp_at dg_a_12 8 rfl
theorem dX0_turnInto_13 : decode cX0_turnInto 13 = .ok (.iastore, 1) := dgrp_at dg_a_12 9 rfl
theorem dX0_turnInto_14 : decode cX0_turnInto 14 = .ok (.aload_n 0, 1) := dgrp_at dg_a_12 10 rfl
theorem dX0_turnInto_15 : decode cX0_turnInto 15 = .ok (.getfield 22, 3) := dgrp_at dg_a_12 11 rfl
theorem dX0_turnInto_18 : decode cX0_turnInto 18 = .ok (.iconst (-1), 1) := dgrp_at dg_a_12 12 rfl
theorem dX0_turnInto_19 : decode cX0_turnInto 19 = .ok (.invokestatic 33, 3) := dgrp_at dg_a_12 13 rfl
theorem dX0_turnInto_22 : decode cX0_turnInto 22 = .ok (.iload_n 3, 1) := dgrp_at dg_a_12 14 rfl
theorem dX0_turnInto_23 : decode cX0_turnInto 23 = .ok (.ireturn, 1) := dgrp_at dg_a_12 15 rfl
def dl_a_13 : List (Nat × Instr × Nat) := [(0, .aload_n 0, 1), (1, .getfield 18, 3), (4, .iload_n 1, 1), (5, .iconst 4, 1), (6, .imul, 1), (7, .iload_n 2, 1), (8, .iadd, 1), (9, .lload_n 3, 1), (10, .lastore, 1), (11, .aload_n 0, 1), (12, .dup, 1), (13, .getfield 44, 3), (16, .iconst 1, 1), (17, .iload_n 1, 1), (18, .ishl, 1), (19, .ior, 1), (20, .putfield 44, 3), (23, .aload_n 0, 1), (24, .getfield 22, 3), (27, .iconst (-1), 1), (28, .invokestatic 33, 3), (31, .return_, 1)]
theorem dg_a_13 : dgrp cX0_tell dl_a_13 = true := by decide +kernel
theorem dX0_tell_0 : decode cX0_tell 0 = .ok (.aload_n 0, 1) := dgrp_at dg_a_13 0 rfl
theorem dX0_tell_1 : decode cX0_tell 1 = .ok (.getfield 18, 3) := dgrp_at dg_a_13 1 rfl
theorem dX0_tell_4 : decode cX0_tell 4 = .ok (.iload_n 1, 1) := dgrp_at dg_a_13 2 rfl
theorem dX0_tell_5 : decode cX0_tell 5 = .ok (.iconst 4, 1) := dgrp_at dg_a_13 3 rfl
theorem dX0_tell_6 : decode cX0_tell 6 = .ok (.imul, 1) := dgrp_at dg_a_13 4 rfl
theorem dX0_tell_7 : decode cX0_tell 7 = .ok (.iload_n 2, 1) := dgrp_at dg_a_13 5 rfl
theorem dX0_tell_8 : decode cX0_tell 8 = .ok (.iadd, 1) := dgrp_at dg_a_13 6 rfl
theorem dX0_tell_9 : decode cX0_tell 9 = .ok (.lload_n 3, 1) := dgrp_at dg_a_13 7 rfl
theorem dX0_tell_10 : decode cX0_tell 10 = .ok (.lastore, 1) := dgrp_at dg_a_13 8 rfl
theorem dX0_tell_11 : decode cX0_tell 11 = .ok (.aload_n 0, 1) := dgrp_at dg_a_13 9 rfl
theorem dX0_tell_12 : decode cX0_tell 12 = .ok (.dup, 1) := dgrp_at dg_a_13 10 rfl
theorem dX0_tell_13 : decode cX0_tell 13 = .ok (.getfield 44, 3) := dgrp_at dg_a_13 11 rfl
theorem dX0_tell_16 : decode cX0_tell 16 = .ok (.iconst 1, 1) := dgrp_at dg_a_13 12 rfl
theorem dX0_tell_17 : decode cX0_tell 17 = .ok (.iload_n 1, 1) := dgrp_at dg_a_13 13 rfl
theorem dX0_tell_18 : decode cX0_tell 18 = .ok (.ishl, 1) := dgrp_at dg_a_13 14 rfl
theorem dX0_tell_19 : decode cX0_tell 19 = .ok (.ior, 1) := dgrp_at dg_a_13 15 rfl
theorem dX0_tell_20 : decode cX0_tell 20 = .ok (.putfield 44, 3) := dgrp_at dg_a_13 16 rfl
theorem dX0_tell_23 : decode cX0_tell 23 = .ok (.aload_n 0, 1) := dgrp_at dg_a_13 17 rfl
theorem dX0_tell_24 : decode cX0_tell 24 = .ok (.getfield 22, 3) := dgrp_at dg_a_13 18 rfl
theorem dX0_tell_27 : decode cX0_tell 27 = .ok (.iconst (-1), 1) := dgrp_at dg_a_13 19 rfl
theorem dX0_tell_28 : decode cX0_tell 28 = .ok (.invokestatic 33, 3) := dgrp_at dg_a_13 20 rfl
theorem dX0_tell_31 : decode cX0_tell 31 = .ok (.return_, 1) := dgrp_at dg_a_13 21 rfl
def dl_a_14 : List (Nat × Instr × Nat) := [(0, .aload_n 0, 1), (1, .aload_n 1, 1), (2, .getfield 36, 3), (5, .putfield 36, 3), (8, .aload_n 0, 1), (9, .aload_n 1, 1), (10, .getfield 47, 3), (13, .putfield 47, 3), (16, .aload_n 0, 1), (17, .aload_n 1, 1), (18, .getfield 44, 3), (21, .putfield 44, 3), (24, .aload_n 1, 1), (25, .getfield 9, 3), (28, .iconst 0, 1), (29, .aload_n 0, 1), (30, .getfield 9, 3), (33, .iconst 0, 1), (34, .bipush 8, 2), (36, .invokestatic 50, 3), (39, .aload_n 1, 1), (40, .getfield 15, 3), (43, .iconst 0, 1), (44, .aload_n 0, 1), (45, .getfield 15, 3), (48, .iconst 0, 1), (49, .bipush 8, 2), (51, .invokestatic 50, 3), (54, .aload_n 1, 1), (55, .getfield 18, 3), (58, .iconst 0, 1), (59, .aload_n 0, 1)]
theorem dg_a_14 : dgrp cX0_take dl_a_14 = true := by decide +kernel
theorem dX0_take_0 : decode cX0_take 0 = .ok (.aload_n 0, 1) := dgrp_at dg_a_14 0 rfl
theorem dX0_take_1 : decode cX0_take 1 = .ok (.aload_n 1, 1) := dgrp_at dg_a_14 1 rfl
theorem dX0_take_2 : decode cX0_take 2 = .ok (.getfield 36, 3) := dgrp_at dg_a_14 2 rfl
theorem dX0_take_5 : decode cX0_take 5 = .ok (.putfield 36, 3) := dgrp_at dg_a_14 3 rfl
theorem dX0_take_8 : decode cX0_take 8 = .ok (.aload_n 0, 1) := dgrp_at dg_a_14 4 rfl
theorem dX0_take_9 : decode cX0_take 9 = .ok (.aload_n 1, 1) := dgrp_at dg_a_14 5 rfl
theorem dX0_take_10 : decode cX0_take 10 = .ok (.getfield 47, 3) := dgrp_at dg_a_14 6 rfl
theorem dX0_take_13 : decode cX0_take 13 = .ok (.putfield 47, 3) := dgrp_at dg_a_14 7 rfl
theorem dX0_take_16 : decode cX0_take 16 = .ok (.aload_n 0, 1) := dgrp_at dg_a_14 8 rfl
theorem dX0_take_17 : decode cX0_take 17 = .ok (.aload_n 1, 1) := dgrp_at dg_a_14 9 rfl
theorem dX0_take_18 : decode cX0_take 18 = .ok (.getfield 44, 3) := dgrp_at dg_a_14 10 rfl
theorem dX0_take_21 : decode cX0_take 21 = .ok (.putfield 44, 3) := dgrp_at dg_a_14 11 rfl
theorem dX0_take_24 : decode cX0_take 24 = .ok (.aload_n 1, 1) := dgrp_at dg_a_14 12 rfl
theorem dX0_take_25 : decode cX0_take 25 = .ok (.getfield 9, 3) := dgrp_at dg_a_14 13 rfl
theorem dX0_take_28 : decode cX0_take 28 = .ok (.iconst 0, 1) := dgrp_at dg_a_14 14 rfl
theorem dX0_take_29 : decode cX0_take 29 = .ok (.aload_n 0, 1) := dgrp_at dg_a_14 15 rfl
theorem dX0_take_30 : decode cX0_take 30 = .ok (.getfield 9, 3) := dgrp_at dg_a_14 16 rfl
theorem dX0_take_33 : decode cX0_take 33 = .ok (.iconst 0, 1) := dgrp_at dg_a_14 17 rfl
theorem dX0_take_34 : decode cX0_take 34 = .ok (.bipush 8, 2) := dgrp_at dg_a_14 18 rfl
theorem dX0_take_36 : decode cX0_take 36 = .ok (.invokestatic 50, 3) := dgrp_at dg_a_14 19 rfl
theorem dX0_take_39 : decode cX0_take 39 = .ok (.aload_n 1, 1) := dgrp_at dg_a_14 20 rfl
theorem dX0_take_40 : decode cX0_take 40 = .ok (.getfield 15, 3) := dgrp_at dg_a_14 21 rfl
theorem dX0_take_43 : decode cX0_take 43 = .ok (.iconst 0, 1) := dgrp_at dg_a_14 22 rfl
theorem dX0_take_44 : decode cX0_take 44 = .ok (.aload_n 0, 1) := dgrp_at dg_a_14 23 rfl
theorem dX0_take_45 : decode cX0_take 45 = .ok (.getfield 15, 3) := dgrp_at dg_a_14 24 rfl
theorem dX0_take_48 : decode cX0_take 48 = .ok (.iconst 0, 1) := dgrp_at dg_a_14 25 rfl
theorem dX0_take_49 : decode cX0_take 49 = .ok (.bipush 8, 2) := dgrp_at dg_a_14 26 rfl
theorem dX0_take_51 : decode cX0_take 51 = .ok (.invokestatic 50, 3) := dgrp_at dg_a_14 27 rfl
theorem dX0_take_54 : decode cX0_take 54 = .ok (.aload_n 1, 1) := dgrp_at dg_a_14 28 rfl
theorem dX0_take_55 : decode cX0_take 55 = .ok (.getfield 18, 3) := dgrp_at dg_a_14 29 rfl
theorem dX0_take_58 : decode cX0_take 58 = .ok (.iconst 0, 1) := dgrp_at dg_a_14 30 rfl
theorem dX0_take_59 : decode cX0_take 59 = .ok (.aload_n 0, 1) := dgrp_at dg_a_14 31 rfl
def dl_a_15 : List (Nat × Instr × Nat) := [(60, .getfield 18, 3), (63, .iconst 0, 1), (64, .bipush 32, 2), (66, .invokestatic 50, 3), (69, .aload_n 0, 1), (70, .getfield 22, 3), (73, .iconst (-1), 1), (74, .invokestatic 33, 3), (77, .return_, 1)]
theorem dg_a_15 : dgrp cX0_take dl_a_15 = true := by decide +kernel
theorem dX0_take_60 : decode cX0_take 60 = .ok (.getfield 18, 3) := dgrp_at dg_a_15 0 rfl
theorem dX0_take_63 : decode cX0_take 63 = .ok (.iconst 0, 1) := dgrp_at dg_a_15 1 rfl
theorem dX0_take_64 : decode cX0_take 64 = .ok (.bipush 32, 2) := dgrp_at dg_a_15 2 rfl
theorem dX0_take_66 : decode cX0_take 66 = .ok (.invokestatic 50, 3) := dgrp_at dg_a_15 3 rfl
theorem dX0_take_69 : decode cX0_take 69 = .ok (.aload_n 0, 1) := dgrp_at dg_a_15 4 rfl
theorem dX0_take_70 : decode cX0_take 70 = .ok (.getfield 22, 3) := dgrp_at dg_a_15 5 rfl
theorem dX0_take_73 : decode cX0_take 73 = .ok (.iconst (-1), 1) := dgrp_at dg_a_15 6 rfl
theorem dX0_take_74 : decode cX0_take 74 = .ok (.invokestatic 33, 3) := dgrp_at dg_a_15 7 rfl
theorem dX0_take_77 : decode cX0_take 77 = .ok (.return_, 1) := dgrp_at dg_a_15 8 rfl
def dl_a_16 : List (Nat × Instr × Nat) := [(0, .iconst 0, 1), (1, .istore_n 2, 1), (2, .iconst 0, 1), (3, .istore_n 3, 1), (4, .iload_n 3, 1), (5, .aload_n 0, 1), (6, .getfield 36, 3), (9, .if_icmp .ge 30, 3), (12, .iload_n 2, 1), (13, .iload_n 3, 1), (14, .iload_n 1, 1), (15, .invokestatic 56, 3), (18, .ifCond .eq 12, 3), (21, .aload_n 0, 1), (22, .getfield 15, 3), (25, .iload_n 3, 1), (26, .iaload, 1), (27, .goto 4, 3), (30, .iconst 0, 1), (31, .iadd, 1), (32, .istore_n 2, 1), (33, .iinc 3 1, 3), (36, .goto (-32), 3), (39, .iload_n 2, 1), (40, .ireturn, 1)]
theorem dg_a_16 : dgrp cX0_costsOf dl_a_16 = true := by decide +kernel
theorem dX0_costsOf_0 : decode cX0_costsOf 0 = .ok (.iconst 0, 1) := dgrp_at dg_a_16 0 rfl
theorem dX0_costsOf_1 : decode cX0_costsOf 1 = .ok (.istore_n 2, 1) := dgrp_at dg_a_16 1 rfl
theorem dX0_costsOf_2 : decode cX0_costsOf 2 = .ok (.iconst 0, 1) := dgrp_at dg_a_16 2 rfl
theorem dX0_costsOf_3 : decode cX0_costsOf 3 = .ok (.istore_n 3, 1) := dgrp_at dg_a_16 3 rfl
theorem dX0_costsOf_4 : decode cX0_costsOf 4 = .ok (.iload_n 3, 1) := dgrp_at dg_a_16 4 rfl
theorem dX0_costsOf_5 : decode cX0_costsOf 5 = .ok (.aload_n 0, 1) := dgrp_at dg_a_16 5 rfl
theorem dX0_costsOf_6 : decode cX0_costsOf 6 = .ok (.getfield 36, 3) := dgrp_at dg_a_16 6 rfl
theorem dX0_costsOf_9 : decode cX0_costsOf 9 = .ok (.if_icmp .ge 30, 3) := dgrp_at dg_a_16 7 rfl
theorem dX0_costsOf_12 : decode cX0_costsOf 12 = .ok (.iload_n 2, 1) := dgrp_at dg_a_16 8 rfl
theorem dX0_costsOf_13 : decode cX0_costsOf 13 = .ok (.iload_n 3, 1) := dgrp_at dg_a_16 9 rfl
theorem dX0_costsOf_14 : decode cX0_costsOf 14 = .ok (.iload_n 1, 1) := dgrp_at dg_a_16 10 rfl
theorem dX0_costsOf_15 : decode cX0_costsOf 15 = .ok (.invokestatic 56, 3) := dgrp_at dg_a_16 11 rfl
theorem dX0_costsOf_18 : decode cX0_costsOf 18 = .ok (.ifCond .eq 12, 3) := dgrp_at dg_a_16 12 rfl
theorem dX0_costsOf_21 : decode cX0_costsOf 21 = .ok (.aload_n 0, 1) := dgrp_at dg_a_16 13 rfl
theorem dX0_costsOf_22 : decode cX0_costsOf 22 = .ok (.getfield 15, 3) := dgrp_at dg_a_16 14 rfl
theorem dX0_costsOf_25 : decode cX0_costsOf 25 = .ok (.iload_n 3, 1) := dgrp_at dg_a_16 15 rfl
theorem dX0_costsOf_26 : decode cX0_costsOf 26 = .ok (.iaload, 1) := dgrp_at dg_a_16 16 rfl
theorem dX0_costsOf_27 : decode cX0_costsOf 27 = .ok (.goto 4, 3) := dgrp_at dg_a_16 17 rfl
theorem dX0_costsOf_30 : decode cX0_costsOf 30 = .ok (.iconst 0, 1) := dgrp_at dg_a_16 18 rfl
theorem dX0_costsOf_31 : decode cX0_costsOf 31 = .ok (.iadd, 1) := dgrp_at dg_a_16 19 rfl
theorem dX0_costsOf_32 : decode cX0_costsOf 32 = .ok (.istore_n 2, 1) := dgrp_at dg_a_16 20 rfl
theorem dX0_costsOf_33 : decode cX0_costsOf 33 = .ok (.iinc 3 1, 3) := dgrp_at dg_a_16 21 rfl
theorem dX0_costsOf_36 : decode cX0_costsOf 36 = .ok (.goto (-32), 3) := dgrp_at dg_a_16 22 rfl
theorem dX0_costsOf_39 : decode cX0_costsOf 39 = .ok (.iload_n 2, 1) := dgrp_at dg_a_16 23 rfl
theorem dX0_costsOf_40 : decode cX0_costsOf 40 = .ok (.ireturn, 1) := dgrp_at dg_a_16 24 rfl
def dl_a_17 : List (Nat × Instr × Nat) := [(0, .iload_n 2, 1), (1, .sipush 255, 3), (4, .iand, 1), (5, .bipush 64, 2), (7, .idiv, 1), (8, .istore_n 3, 1), (9, .aload_n 0, 1), (10, .getfield 18, 3), (13, .iload_n 1, 1), (14, .iconst 4, 1), (15, .imul, 1), (16, .iload_n 3, 1), (17, .iadd, 1), (18, .laload, 1), (19, .iload_n 2, 1), (20, .bipush 64, 2), (22, .irem, 1), (23, .lushr, 1), (24, .lconst 1, 1), (25, .land, 1), (26, .lconst 0, 1), (27, .lcmp, 1), (28, .ifCond .eq 7, 3), (31, .iconst 1, 1), (32, .goto 4, 3), (35, .iconst 0, 1), (36, .ireturn, 1)]
theorem dg_a_17 : dgrp cX0_termHolds dl_a_17 = true := by decide +kernel
theorem dX0_termHolds_0 : decode cX0_termHolds 0 = .ok (.iload_n 2, 1) := dgrp_at dg_a_17 0 rfl
theorem dX0_termHolds_1 : decode cX0_termHolds 1 = .ok (.sipush 255, 3) := dgrp_at dg_a_17 1 rfl
theorem dX0_termHolds_4 : decode cX0_termHolds 4 = .ok (.iand, 1) := dgrp_at dg_a_17 2 rfl
theorem dX0_termHolds_5 : decode cX0_termHolds 5 = .ok (.bipush 64, 2) := dgrp_at dg_a_17 3 rfl
theorem dX0_termHolds_7 : decode cX0_termHolds 7 = .ok (.idiv, 1) := dgrp_at dg_a_17 4 rfl
theorem dX0_termHolds_8 : decode cX0_termHolds 8 = .ok (.istore_n 3, 1) := dgrp_at dg_a_17 5 rfl
theorem dX0_termHolds_9 : decode cX0_termHolds 9 = .ok (.aload_n 0, 1) := dgrp_at dg_a_17 6 rfl
theorem dX0_termHolds_10 : decode cX0_termHolds 10 = .ok (.getfield 18, 3) := dgrp_at dg_a_17 7 rfl
theorem dX0_termHolds_13 : decode cX0_termHolds 13 = .ok (.iload_n 1, 1) := dgrp_at dg_a_17 8 rfl
theorem dX0_termHolds_14 : decode cX0_termHolds 14 = .ok (.iconst 4, 1) := dgrp_at dg_a_17 9 rfl
theorem dX0_termHolds_15 : decode cX0_termHolds 15 = .ok (.imul, 1) := dgrp_at dg_a_17 10 rfl
theorem dX0_termHolds_16 : decode cX0_termHolds 16 = .ok (.iload_n 3, 1) := dgrp_at dg_a_17 11 rfl
theorem dX0_termHolds_17 : decode cX0_termHolds 17 = .ok (.iadd, 1) := dgrp_at dg_a_17 12 rfl
theorem dX0_termHolds_18 : decode cX0_termHolds 18 = .ok (.laload, 1) := dgrp_at dg_a_17 13 rfl
theorem dX0_termHolds_19 : decode cX0_termHolds 19 = .ok (.iload_n 2, 1) := dgrp_at dg_a_17 14 rfl
theorem dX0_termHolds_20 : decode cX0_termHolds 20 = .ok (.bipush 64, 2) := dgrp_at dg_a_17 15 rfl
theorem dX0_termHolds_22 : decode cX0_termHolds 22 = .ok (.irem, 1) := dgrp_at dg_a_17 16 rfl
theorem dX0_termHolds_23 : decode cX0_termHolds 23 = .ok (.lushr, 1) := dgrp_at dg_a_17 17 rfl
theorem dX0_termHolds_24 : decode cX0_termHolds 24 = .ok (.lconst 1, 1) := dgrp_at dg_a_17 18 rfl
theorem dX0_termHolds_25 : decode cX0_termHolds 25 = .ok (.land, 1) := dgrp_at dg_a_17 19 rfl
theorem dX0_termHolds_26 : decode cX0_termHolds 26 = .ok (.lconst 0, 1) := dgrp_at dg_a_17 20 rfl
theorem dX0_termHolds_27 : decode cX0_termHolds 27 = .ok (.lcmp, 1) := dgrp_at dg_a_17 21 rfl
theorem dX0_termHolds_28 : decode cX0_termHolds 28 = .ok (.ifCond .eq 7, 3) := dgrp_at dg_a_17 22 rfl
theorem dX0_termHolds_31 : decode cX0_termHolds 31 = .ok (.iconst 1, 1) := dgrp_at dg_a_17 23 rfl
theorem dX0_termHolds_32 : decode cX0_termHolds 32 = .ok (.goto 4, 3) := dgrp_at dg_a_17 24 rfl
theorem dX0_termHolds_35 : decode cX0_termHolds 35 = .ok (.iconst 0, 1) := dgrp_at dg_a_17 25 rfl
theorem dX0_termHolds_36 : decode cX0_termHolds 36 = .ok (.ireturn, 1) := dgrp_at dg_a_17 26 rfl
def dl_a_18 : List (Nat × Instr × Nat) := [(0, .aload_n 0, 1), (1, .iload_n 2, 1), (2, .iload_n 3, 1), (3, .invokevirtual 60, 3), (6, .istore 4, 2), (8, .iload_n 2, 1), (9, .iload_n 3, 1), (10, .invokestatic 63, 3), (13, .istore 5, 2), (15, .iload_n 1, 1), (56, .iload 4, 2), (58, .ireturn, 1), (59, .iload 4, 2), (61, .ifCond .ne 9, 3), (64, .iload 5, 2), (66, .iconst 4, 1), (67, .if_icmp .lt 7, 3), (70, .iconst 1, 1), (71, .goto 4, 3), (74, .iconst 0, 1), (75, .ireturn, 1), (76, .iload 4, 2), (78, .ifCond .eq 13, 3), (81, .iload 5, 2), (83, .iconst 4, 1), (84, .if_icmp .gt 7, 3), (87, .iconst 1, 1), (88, .goto 4, 3), (91, .iconst 0, 1), (92, .ireturn, 1), (93, .iload 4, 2), (95, .ifCond .ne 14, 3)]
theorem dg_a_18 : dgrp cX0_wouldComeAs dl_a_18 = true := by decide +kernel
theorem dX0_wouldComeAs_0 : decode cX0_wouldComeAs 0 = .ok (.aload_n 0, 1) := dgrp_at dg_a_18 0 rfl
theorem dX0_wouldComeAs_1 : decode cX0_wouldComeAs 1 = .ok (.iload_n 2, 1) := dgrp_at dg_a_18 1 rfl
theorem dX0_wouldComeAs_2 : decode cX0_wouldComeAs 2 = .ok (.iload_n 3, 1) := dgrp_at dg_a_18 2 rfl
theorem dX0_wouldComeAs_3 : decode cX0_wouldComeAs 3 = .ok (.invokevirtual 60, 3) := dgrp_at dg_a_18 3 rfl
theorem dX0_wouldComeAs_6 : decode cX0_wouldComeAs 6 = .ok (.istore 4, 2) := dgrp_at dg_a_18 4 rfl
theorem dX0_wouldComeAs_8 : decode cX0_wouldComeAs 8 = .ok (.iload_n 2, 1) := dgrp_at dg_a_18 5 rfl
theorem dX0_wouldComeAs_9 : decode cX0_wouldComeAs 9 = .ok (.iload_n 3, 1) := dgrp_at dg_a_18 6 rfl
theorem dX0_wouldComeAs_10 : decode cX0_wouldComeAs 10 = .ok (.invokestatic 63, 3) := dgrp_at dg_a_18 7 rfl
theorem dX0_wouldComeAs_13 : decode cX0_wouldComeAs 13 = .ok (.istore 5, 2) := dgrp_at dg_a_18 8 rfl
theorem dX0_wouldComeAs_15 : decode cX0_wouldComeAs 15 = .ok (.iload_n 1, 1) := dgrp_at dg_a_18 9 rfl
theorem dX0_wouldComeAs_56 : decode cX0_wouldComeAs 56 = .ok (.iload 4, 2) := dgrp_at dg_a_18 10 rfl
theorem dX0_wouldComeAs_58 : decode cX0_wouldComeAs 58 = .ok (.ireturn, 1) := dgrp_at dg_a_18 11 rfl
theorem dX0_wouldComeAs_59 : decode cX0_wouldComeAs 59 = .ok (.iload 4, 2) := dgrp_at dg_a_18 12 rfl
theorem dX0_wouldComeAs_61 : decode cX0_wouldComeAs 61 = .ok (.ifCond .ne 9, 3) := dgrp_at dg_a_18 13 rfl
theorem dX0_wouldComeAs_64 : decode cX0_wouldComeAs 64 = .ok (.iload 5, 2) := dgrp_at dg_a_18 14 rfl
theorem dX0_wouldComeAs_66 : decode cX0_wouldComeAs 66 = .ok (.iconst 4, 1) := dgrp_at dg_a_18 15 rfl
theorem dX0_wouldComeAs_67 : decode cX0_wouldComeAs 67 = .ok (.if_icmp .lt 7, 3) := dgrp_at dg_a_18 16 rfl
theorem dX0_wouldComeAs_70 : decode cX0_wouldComeAs 70 = .ok (.iconst 1, 1) := dgrp_at dg_a_18 17 rfl
theorem dX0_wouldComeAs_71 : decode cX0_wouldComeAs 71 = .ok (.goto 4, 3) := dgrp_at dg_a_18 18 rfl
theorem dX0_wouldComeAs_74 : decode cX0_wouldComeAs 74 = .ok (.iconst 0, 1) := dgrp_at dg_a_18 19 rfl
theorem dX0_wouldComeAs_75 : decode cX0_wouldComeAs 75 = .ok (.ireturn, 1) := dgrp_at dg_a_18 20 rfl
theorem dX0_wouldComeAs_76 : decode cX0_wouldComeAs 76 = .ok (.iload 4, 2) := dgrp_at dg_a_18 21 rfl
theorem dX0_wouldComeAs_78 : decode cX0_wouldComeAs 78 = .ok (.ifCond .eq 13, 3) := dgrp_at dg_a_18 22 rfl
theorem dX0_wouldComeAs_81 : decode cX0_wouldComeAs 81 = .ok (.iload 5, 2) := dgrp_at dg_a_18 23 rfl
theorem dX0_wouldComeAs_83 : decode cX0_wouldComeAs 83 = .ok (.iconst 4, 1) := dgrp_at dg_a_18 24 rfl
theorem dX0_wouldComeAs_84 : decode cX0_wouldComeAs 84 = .ok (.if_icmp .gt 7, 3) := dgrp_at dg_a_18 25 rfl
theorem dX0_wouldComeAs_87 : decode cX0_wouldComeAs 87 = .ok (.iconst 1, 1) := dgrp_at dg_a_18 26 rfl
theorem dX0_wouldComeAs_88 : decode cX0_wouldComeAs 88 = .ok (.goto 4, 3) := dgrp_at dg_a_18 27 rfl
theorem dX0_wouldComeAs_91 : decode cX0_wouldComeAs 91 = .ok (.iconst 0, 1) := dgrp_at dg_a_18 28 rfl
theorem dX0_wouldComeAs_92 : decode cX0_wouldComeAs 92 = .ok (.ireturn, 1) := dgrp_at dg_a_18 29 rfl
theorem dX0_wouldComeAs_93 : decode cX0_wouldComeAs 93 = .ok (.iload 4, 2) := dgrp_at dg_a_18 30 rfl
theorem dX0_wouldComeAs_95 : decode cX0_wouldComeAs 95 = .ok (.ifCond .ne 14, 3) := dgrp_at dg_a_18 31 rfl
def dl_a_19 : List (Nat × Instr × Nat) := [(98, .iload 5, 2), (100, .iconst 4, 1), (101, .if_icmp .ge 8, 3), (104, .iload 5, 2), (106, .ifCond .ne 7, 3), (109, .iconst 1, 1), (110, .goto 4, 3), (113, .iconst 0, 1), (114, .ireturn, 1), (115, .iload 4, 2), (117, .ifCond .eq 9, 3), (120, .iload 5, 2), (122, .iconst 4, 1), (123, .if_icmp .le 7, 3), (126, .iconst 1, 1), (127, .goto 4, 3), (130, .iconst 0, 1), (131, .ireturn, 1), (132, .iconst 0, 1), (133, .ireturn, 1)]
theorem dg_a_19 : dgrp cX0_wouldComeAs dl_a_19 = true := by decide +kernel
theorem dX0_wouldComeAs_98 : decode cX0_wouldComeAs 98 = .ok (.iload 5, 2) := dgrp_at dg_a_19 0 rfl
theorem dX0_wouldComeAs_100 : decode cX0_wouldComeAs 100 = .ok (.iconst 4, 1) := dgrp_at dg_a_19 1 rfl
theorem dX0_wouldComeAs_101 : decode cX0_wouldComeAs 101 = .ok (.if_icmp .ge 8, 3) := dgrp_at dg_a_19 2 rfl
theorem dX0_wouldComeAs_104 : decode cX0_wouldComeAs 104 = .ok (.iload 5, 2) := dgrp_at dg_a_19 3 rfl
theorem dX0_wouldComeAs_106 : decode cX0_wouldComeAs 106 = .ok (.ifCond .ne 7, 3) := dgrp_at dg_a_19 4 rfl
theorem dX0_wouldComeAs_109 : decode cX0_wouldComeAs 109 = .ok (.iconst 1, 1) := dgrp_at dg_a_19 5 rfl
theorem dX0_wouldComeAs_110 : decode cX0_wouldComeAs 110 = .ok (.goto 4, 3) := dgrp_at dg_a_19 6 rfl
theorem dX0_wouldComeAs_113 : decode cX0_wouldComeAs 113 = .ok (.iconst 0, 1) := dgrp_at dg_a_19 7 rfl
theorem dX0_wouldComeAs_114 : decode cX0_wouldComeAs 114 = .ok (.ireturn, 1) := dgrp_at dg_a_19 8 rfl
theorem dX0_wouldComeAs_115 : decode cX0_wouldComeAs 115 = .ok (.iload 4, 2) := dgrp_at dg_a_19 9 rfl
theorem dX0_wouldComeAs_117 : decode cX0_wouldComeAs 117 = .ok (.ifCond .eq 9, 3) := dgrp_at dg_a_19 10 rfl
theorem dX0_wouldComeAs_120 : decode cX0_wouldComeAs 120 = .ok (.iload 5, 2) := dgrp_at dg_a_19 11 rfl
theorem dX0_wouldComeAs_122 : decode cX0_wouldComeAs 122 = .ok (.iconst 4, 1) := dgrp_at dg_a_19 12 rfl
theorem dX0_wouldComeAs_123 : decode cX0_wouldComeAs 123 = .ok (.if_icmp .le 7, 3) := dgrp_at dg_a_19 13 rfl
theorem dX0_wouldComeAs_126 : decode cX0_wouldComeAs 126 = .ok (.iconst 1, 1) := dgrp_at dg_a_19 14 rfl
theorem dX0_wouldComeAs_127 : decode cX0_wouldComeAs 127 = .ok (.goto 4, 3) := dgrp_at dg_a_19 15 rfl
theorem dX0_wouldComeAs_130 : decode cX0_wouldComeAs 130 = .ok (.iconst 0, 1) := dgrp_at dg_a_19 16 rfl
theorem dX0_wouldComeAs_131 : decode cX0_wouldComeAs 131 = .ok (.ireturn, 1) := dgrp_at dg_a_19 17 rfl
theorem dX0_wouldComeAs_132 : decode cX0_wouldComeAs 132 = .ok (.iconst 0, 1) := dgrp_at dg_a_19 18 rfl
theorem dX0_wouldComeAs_133 : decode cX0_wouldComeAs 133 = .ok (.ireturn, 1) := dgrp_at dg_a_19 19 rfl
def dl_a_20 : List (Nat × Instr × Nat) := [(0, .iload_n 1, 1), (1, .sipush 255, 3), (4, .iand, 1), (5, .istore_n 2, 1), (6, .aload_n 0, 1), (7, .getfield 22, 3), (10, .iload_n 2, 1), (11, .iaload, 1), (12, .iconst (-1), 1), (13, .if_icmp .ne 58, 3), (16, .iconst 0, 1), (17, .istore_n 3, 1), (18, .iconst 0, 1), (19, .istore 4, 2), (21, .iload 4, 2), (23, .aload_n 0, 1), (24, .getfield 36, 3), (27, .if_icmp .ge 37, 3), (30, .iload_n 3, 1), (31, .aload_n 0, 1), (32, .aload_n 0, 1), (33, .getfield 9, 3), (36, .iload 4, 2), (38, .iaload, 1), (39, .iload 4, 2), (41, .iload_n 2, 1), (42, .invokevirtual 67, 3), (45, .ifCond .eq 10, 3), (48, .iconst 1, 1), (49, .iload 4, 2), (51, .ishl, 1), (52, .goto 4, 3)]
theorem dg_a_20 : dgrp cX0_comers dl_a_20 = true := by decide +kernel
theorem dX0_comers_0 : decode cX0_comers 0 = .ok (.iload_n 1, 1) := dgrp_at dg_a_20 0 rfl
theorem dX0_comers_1 : decode cX0_comers 1 = .ok (.sipush 255, 3) := dgrp_at dg_a_20 1 rfl
theorem dX0_comers_4 : decode cX0_comers 4 = .ok (.iand, 1) := dgrp_at dg_a_20 2 rfl
theorem dX0_comers_5 : decode cX0_comers 5 = .ok (.istore_n 2, 1) := dgrp_at dg_a_20 3 rfl
theorem dX0_comers_6 : decode cX0_comers 6 = .ok (.aload_n 0, 1) := dgrp_at dg_a_20 4 rfl
theorem dX0_comers_7 : decode cX0_comers 7 = .ok (.getfield 22, 3) := dgrp_at dg_a_20 5 rfl
theorem dX0_comers_10 : decode cX0_comers 10 = .ok (.iload_n 2, 1) := dgrp_at dg_a_20 6 rfl
theorem dX0_comers_11 : decode cX0_comers 11 = .ok (.iaload, 1) := dgrp_at dg_a_20 7 rfl
theorem dX0_comers_12 : decode cX0_comers 12 = .ok (.iconst (-1), 1) := dgrp_at dg_a_20 8 rfl
theorem dX0_comers_13 : decode cX0_comers 13 = .ok (.if_icmp .ne 58, 3) := dgrp_at dg_a_20 9 rfl
theorem dX0_comers_16 : decode cX0_comers 16 = .ok (.iconst 0, 1) := dgrp_at dg_a_20 10 rfl
theorem dX0_comers_17 : decode cX0_comers 17 = .ok (.istore_n 3, 1) := dgrp_at dg_a_20 11 rfl
theorem dX0_comers_18 : decode cX0_comers 18 = .ok (.iconst 0, 1) := dgrp_at dg_a_20 12 rfl
theorem dX0_comers_19 : decode cX0_comers 19 = .ok (.istore 4, 2) := dgrp_at dg_a_20 13 rfl
theorem dX0_comers_21 : decode cX0_comers 21 = .ok (.iload 4, 2) := dgrp_at dg_a_20 14 rfl
theorem dX0_comers_23 : decode cX0_comers 23 = .ok (.aload_n 0, 1) := dgrp_at dg_a_20 15 rfl
theorem dX0_comers_24 : decode cX0_comers 24 = .ok (.getfield 36, 3) := dgrp_at dg_a_20 16 rfl
theorem dX0_comers_27 : decode cX0_comers 27 = .ok (.if_icmp .ge 37, 3) := dgrp_at dg_a_20 17 rfl
theorem dX0_comers_30 : decode cX0_comers 30 = .ok (.iload_n 3, 1) := dgrp_at dg_a_20 18 rfl
theorem dX0_comers_31 : decode cX0_comers 31 = .ok (.aload_n 0, 1) := dgrp_at dg_a_20 19 rfl
theorem dX0_comers_32 : decode cX0_comers 32 = .ok (.aload_n 0, 1) := dgrp_at dg_a_20 20 rfl
theorem dX0_comers_33 : decode cX0_comers 33 = .ok (.getfield 9, 3) := dgrp_at dg_a_20 21 rfl
theorem dX0_comers_36 : decode cX0_comers 36 = .ok (.iload 4, 2) := dgrp_at dg_a_20 22 rfl
theorem dX0_comers_38 : decode cX0_comers 38 = .ok (.iaload, 1) := dgrp_at dg_a_20 23 rfl
theorem dX0_comers_39 : decode cX0_comers 39 = .ok (.iload 4, 2) := dgrp_at dg_a_20 24 rfl
theorem dX0_comers_41 : decode cX0_comers 41 = .ok (.iload_n 2, 1) := dgrp_at dg_a_20 25 rfl
theorem dX0_comers_42 : decode cX0_comers 42 = .ok (.invokevirtual 67, 3) := dgrp_at dg_a_20 26 rfl
theorem dX0_comers_45 : decode cX0_comers 45 = .ok (.ifCond .eq 10, 3) := dgrp_at dg_a_20 27 rfl
theorem dX0_comers_48 : decode cX0_comers 48 = .ok (.iconst 1, 1) := dgrp_at dg_a_20 28 rfl
theorem dX0_comers_49 : decode cX0_comers 49 = .ok (.iload 4, 2) := dgrp_at dg_a_20 29 rfl
theorem dX0_comers_51 : decode cX0_comers 51 = .ok (.ishl, 1) := dgrp_at dg_a_20 30 rfl
theorem dX0_comers_52 : decode cX0_comers 52 = .ok (.goto 4, 3) := dgrp_at dg_a_20 31 rfl
def dl_a_21 : List (Nat × Instr × Nat) := [(55, .iconst 0, 1), (56, .ior, 1), (57, .istore_n 3, 1), (58, .iinc 4 1, 3), (61, .goto (-40), 3), (64, .aload_n 0, 1), (65, .getfield 22, 3), (68, .iload_n 2, 1), (69, .iload_n 3, 1), (70, .iastore, 1), (71, .aload_n 0, 1), (72, .getfield 22, 3), (75, .iload_n 2, 1), (76, .iaload, 1), (77, .ireturn, 1)]
theorem dg_a_21 : dgrp cX0_comers dl_a_21 = true := by decide +kernel
theorem dX0_comers_55 : decode cX0_comers 55 = .ok (.iconst 0, 1) := dgrp_at dg_a_21 0 rfl
theorem dX0_comers_56 : decode cX0_comers 56 = .ok (.ior, 1) := dgrp_at dg_a_21 1 rfl
theorem dX0_comers_57 : decode cX0_comers 57 = .ok (.istore_n 3, 1) := dgrp_at dg_a_21 2 rfl
theorem dX0_comers_58 : decode cX0_comers 58 = .ok (.iinc 4 1, 3) := dgrp_at dg_a_21 3 rfl
theorem dX0_comers_61 : decode cX0_comers 61 = .ok (.goto (-40), 3) := dgrp_at dg_a_21 4 rfl
theorem dX0_comers_64 : decode cX0_comers 64 = .ok (.aload_n 0, 1) := dgrp_at dg_a_21 5 rfl
theorem dX0_comers_65 : decode cX0_comers 65 = .ok (.getfield 22, 3) := dgrp_at dg_a_21 6 rfl
theorem dX0_comers_68 : decode cX0_comers 68 = .ok (.iload_n 2, 1) := dgrp_at dg_a_21 7 rfl
theorem dX0_comers_69 : decode cX0_comers 69 = .ok (.iload_n 3, 1) := dgrp_at dg_a_21 8 rfl
theorem dX0_comers_70 : decode cX0_comers 70 = .ok (.iastore, 1) := dgrp_at dg_a_21 9 rfl
theorem dX0_comers_71 : decode cX0_comers 71 = .ok (.aload_n 0, 1) := dgrp_at dg_a_21 10 rfl
theorem dX0_comers_72 : decode cX0_comers 72 = .ok (.getfield 22, 3) := dgrp_at dg_a_21 11 rfl
theorem dX0_comers_75 : decode cX0_comers 75 = .ok (.iload_n 2, 1) := dgrp_at dg_a_21 12 rfl
theorem dX0_comers_76 : decode cX0_comers 76 = .ok (.iaload, 1) := dgrp_at dg_a_21 13 rfl
theorem dX0_comers_77 : decode cX0_comers 77 = .ok (.ireturn, 1) := dgrp_at dg_a_21 14 rfl
def dl_a_22 : List (Nat × Instr × Nat) := [(0, .aload_n 0, 1), (1, .iload_n 3, 1), (2, .invokevirtual 71, 3), (5, .iconst 1, 1), (6, .iload_n 1, 1), (7, .ishl, 1), (8, .iconst (-1), 1), (9, .ixor, 1), (10, .iand, 1), (11, .istore 4, 2), (13, .aload_n 0, 1), (14, .iload_n 2, 1), (15, .iload_n 1, 1), (16, .iload_n 3, 1), (17, .invokevirtual 67, 3), (20, .ifCond .eq 12, 3), (23, .iload 4, 2), (25, .iconst 1, 1), (26, .iload_n 1, 1), (27, .ishl, 1), (28, .ior, 1), (29, .goto 5, 3), (32, .iload 4, 2), (34, .ireturn, 1)]
theorem dg_a_22 : dgrp cX0_comersAs dl_a_22 = true := by decide +kernel
theorem dX0_comersAs_0 : decode cX0_comersAs 0 = .ok (.aload_n 0, 1) := dgrp_at dg_a_22 0 rfl
theorem dX0_comersAs_1 : decode cX0_comersAs 1 = .ok (.iload_n 3, 1) := dgrp_at dg_a_22 1 rfl
theorem dX0_comersAs_2 : decode cX0_comersAs 2 = .ok (.invokevirtual 71, 3) := dgrp_at dg_a_22 2 rfl
theorem dX0_comersAs_5 : decode cX0_comersAs 5 = .ok (.iconst 1, 1) := dgrp_at dg_a_22 3 rfl
theorem dX0_comersAs_6 : decode cX0_comersAs 6 = .ok (.iload_n 1, 1) := dgrp_at dg_a_22 4 rfl
theorem dX0_comersAs_7 : decode cX0_comersAs 7 = .ok (.ishl, 1) := dgrp_at dg_a_22 5 rfl
theorem dX0_comersAs_8 : decode cX0_comersAs 8 = .ok (.iconst (-1), 1) := dgrp_at dg_a_22 6 rfl
theorem dX0_comersAs_9 : decode cX0_comersAs 9 = .ok (.ixor, 1) := dgrp_at dg_a_22 7 rfl
theorem dX0_comersAs_10 : decode cX0_comersAs 10 = .ok (.iand, 1) := dgrp_at dg_a_22 8 rfl
theorem dX0_comersAs_11 : decode cX0_comersAs 11 = .ok (.istore 4, 2) := dgrp_at dg_a_22 9 rfl
theorem dX0_comersAs_13 : decode cX0_comersAs 13 = .ok (.aload_n 0, 1) := dgrp_at dg_a_22 10 rfl
theorem dX0_comersAs_14 : decode cX0_comersAs 14 = .ok (.iload_n 2, 1) := dgrp_at dg_a_22 11 rfl
theorem dX0_comersAs_15 : decode cX0_comersAs 15 = .ok (.iload_n 1, 1) := dgrp_at dg_a_22 12 rfl
theorem dX0_comersAs_16 : decode cX0_comersAs 16 = .ok (.iload_n 3, 1) := dgrp_at dg_a_22 13 rfl
theorem dX0_comersAs_17 : decode cX0_comersAs 17 = .ok (.invokevirtual 67, 3) := dgrp_at dg_a_22 14 rfl
theorem dX0_comersAs_20 : decode cX0_comersAs 20 = .ok (.ifCond .eq 12, 3) := dgrp_at dg_a_22 15 rfl
theorem dX0_comersAs_23 : decode cX0_comersAs 23 = .ok (.iload 4, 2) := dgrp_at dg_a_22 16 rfl
theorem dX0_comersAs_25 : decode cX0_comersAs 25 = .ok (.iconst 1, 1) := dgrp_at dg_a_22 17 rfl
theorem dX0_comersAs_26 : decode cX0_comersAs 26 = .ok (.iload_n 1, 1) := dgrp_at dg_a_22 18 rfl
theorem dX0_comersAs_27 : decode cX0_comersAs 27 = .ok (.ishl, 1) := dgrp_at dg_a_22 19 rfl
theorem dX0_comersAs_28 : decode cX0_comersAs 28 = .ok (.ior, 1) := dgrp_at dg_a_22 20 rfl
theorem dX0_comersAs_29 : decode cX0_comersAs 29 = .ok (.goto 5, 3) := dgrp_at dg_a_22 21 rfl
theorem dX0_comersAs_32 : decode cX0_comersAs 32 = .ok (.iload 4, 2) := dgrp_at dg_a_22 22 rfl
theorem dX0_comersAs_34 : decode cX0_comersAs 34 = .ok (.ireturn, 1) := dgrp_at dg_a_22 23 rfl
def dl_a_23 : List (Nat × Instr × Nat) := [(0, .aload_n 0, 1), (1, .iload_n 1, 1), (2, .invokevirtual 71, 3), (5, .iload_n 1, 1), (6, .if_icmp .ne 7, 3), (9, .iconst 1, 1), (10, .goto 4, 3), (13, .iconst 0, 1), (14, .ireturn, 1)]
theorem dg_a_23 : dgrp cX0_isSettled dl_a_23 = true := by decide +kernel
theorem dX0_isSettled_0 : decode cX0_isSettled 0 = .ok (.aload_n 0, 1) := dgrp_at dg_a_23 0 rfl
theorem dX0_isSettled_1 : decode cX0_isSettled 1 = .ok (.iload_n 1, 1) := dgrp_at dg_a_23 1 rfl
theorem dX0_isSettled_2 : decode cX0_isSettled 2 = .ok (.invokevirtual 71, 3) := dgrp_at dg_a_23 2 rfl
theorem dX0_isSettled_5 : decode cX0_isSettled 5 = .ok (.iload_n 1, 1) := dgrp_at dg_a_23 3 rfl
theorem dX0_isSettled_6 : decode cX0_isSettled 6 = .ok (.if_icmp .ne 7, 3) := dgrp_at dg_a_23 4 rfl
theorem dX0_isSettled_9 : decode cX0_isSettled 9 = .ok (.iconst 1, 1) := dgrp_at dg_a_23 5 rfl
theorem dX0_isSettled_10 : decode cX0_isSettled 10 = .ok (.goto 4, 3) := dgrp_at dg_a_23 6 rfl
theorem dX0_isSettled_13 : decode cX0_isSettled 13 = .ok (.iconst 0, 1) := dgrp_at dg_a_23 7 rfl
theorem dX0_isSettled_14 : decode cX0_isSettled 14 = .ok (.ireturn, 1) := dgrp_at dg_a_23 8 rfl
def dl_a_24 : List (Nat × Instr × Nat) := [(0, .iconst 0, 1), (1, .istore_n 3, 1), (2, .iconst 0, 1), (3, .istore 4, 2), (5, .iload 4, 2), (7, .aload_n 0, 1), (8, .invokevirtual 40, 3), (11, .if_icmp .ge 33, 3), (14, .iload_n 3, 1), (15, .aload_n 0, 1), (16, .iload_n 1, 1), (17, .iload_n 2, 1), (18, .iload 4, 2), (20, .invokevirtual 75, 3), (23, .iload 4, 2), (25, .if_icmp .ne 7, 3), (28, .iconst 1, 1), (29, .goto 4, 3), (32, .iconst 0, 1), (33, .invokestatic 79, 3), (36, .iadd, 1), (37, .istore_n 3, 1), (38, .iinc 4 1, 3), (41, .goto (-36), 3), (44, .iload_n 3, 1), (45, .ireturn, 1)]
theorem dg_a_24 : dgrp cX0_settledAs dl_a_24 = true := by decide +kernel
theorem dX0_settledAs_0 : decode cX0_settledAs 0 = .ok (.iconst 0, 1) := dgrp_at dg_a_24 0 rfl
theorem dX0_settledAs_1 : decode cX0_settledAs 1 = .ok (.istore_n 3, 1) := dgrp_at dg_a_24 1 rfl
theorem dX0_settledAs_2 : decode cX0_settledAs 2 = .ok (.iconst 0, 1) := dgrp_at dg_a_24 2 rfl
theorem dX0_settledAs_3 : decode cX0_settledAs 3 = .ok (.istore 4, 2) := dgrp_at dg_a_24 3 rfl
theorem dX0_settledAs_5 : decode cX0_settledAs 5 = .ok (.iload 4, 2) := dgrp_at dg_a_24 4 rfl
theorem dX0_settledAs_7 : decode cX0_settledAs 7 = .ok (.aload_n 0, 1) := dgrp_at dg_a_24 5 rfl
theorem dX0_settledAs_8 : decode cX0_settledAs 8 = .ok (.invokevirtual 40, 3) := dgrp_at dg_a_24 6 rfl
theorem dX0_settledAs_11 : decode cX0_settledAs 11 = .ok (.if_icmp .ge 33, 3) := dgrp_at dg_a_24 7 rfl
theorem dX0_settledAs_14 : decode cX0_settledAs 14 = .ok (.iload_n 3, 1) := dgrp_at dg_a_24 8 rfl
theorem dX0_settledAs_15 : decode cX0_settledAs 15 = .ok (.aload_n 0, 1) := dgrp_at dg_a_24 9 rfl
theorem dX0_settledAs_16 : decode cX0_settledAs 16 = .ok (.iload_n 1, 1) := dgrp_at dg_a_24 10 rfl
theorem dX0_settledAs_17 : decode cX0_settledAs 17 = .ok (.iload_n 2, 1) := dgrp_at dg_a_24 11 rfl
theorem dX0_settledAs_18 : decode cX0_settledAs 18 = .ok (.iload 4, 2) := dgrp_at dg_a_24 12 rfl
theorem dX0_settledAs_20 : decode cX0_settledAs 20 = .ok (.invokevirtual 75, 3) := dgrp_at dg_a_24 13 rfl
theorem dX0_settledAs_23 : decode cX0_settledAs 23 = .ok (.iload 4, 2) := dgrp_at dg_a_24 14 rfl
theorem dX0_settledAs_25 : decode cX0_settledAs 25 = .ok (.if_icmp .ne 7, 3) := dgrp_at dg_a_24 15 rfl
theorem dX0_settledAs_28 : decode cX0_settledAs 28 = .ok (.iconst 1, 1) := dgrp_at dg_a_24 16 rfl
theorem dX0_settledAs_29 : decode cX0_settledAs 29 = .ok (.goto 4, 3) := dgrp_at dg_a_24 17 rfl
theorem dX0_settledAs_32 : decode cX0_settledAs 32 = .ok (.iconst 0, 1) := dgrp_at dg_a_24 18 rfl
theorem dX0_settledAs_33 : decode cX0_settledAs 33 = .ok (.invokestatic 79, 3) := dgrp_at dg_a_24 19 rfl
theorem dX0_settledAs_36 : decode cX0_settledAs 36 = .ok (.iadd, 1) := dgrp_at dg_a_24 20 rfl
theorem dX0_settledAs_37 : decode cX0_settledAs 37 = .ok (.istore_n 3, 1) := dgrp_at dg_a_24 21 rfl
theorem dX0_settledAs_38 : decode cX0_settledAs 38 = .ok (.iinc 4 1, 3) := dgrp_at dg_a_24 22 rfl
theorem dX0_settledAs_41 : decode cX0_settledAs 41 = .ok (.goto (-36), 3) := dgrp_at dg_a_24 23 rfl
theorem dX0_settledAs_44 : decode cX0_settledAs 44 = .ok (.iload_n 3, 1) := dgrp_at dg_a_24 24 rfl
theorem dX0_settledAs_45 : decode cX0_settledAs 45 = .ok (.ireturn, 1) := dgrp_at dg_a_24 25 rfl
def dl_a_25 : List (Nat × Instr × Nat) := [(0, .iload_n 2, 1), (1, .iconst 1, 1), (2, .iload_n 1, 1), (3, .ishl, 1), (4, .iconst (-1), 1), (5, .ixor, 1), (6, .iand, 1), (7, .aload_n 0, 1), (8, .iload_n 2, 1), (9, .invokevirtual 71, 3), (12, .iconst 1, 1), (13, .iload_n 1, 1), (14, .ishl, 1), (15, .iand, 1), (16, .ior, 1), (17, .ireturn, 1)]
theorem dg_a_25 : dgrp cX0_called dl_a_25 = true := by decide +kernel
theorem dX0_called_0 : decode cX0_called 0 = .ok (.iload_n 2, 1) := dgrp_at dg_a_25 0 rfl
theorem dX0_called_1 : decode cX0_called 1 = .ok (.iconst 1, 1) := dgrp_at dg_a_25 1 rfl
theorem dX0_called_2 : decode cX0_called 2 = .ok (.iload_n 1, 1) := dgrp_at dg_a_25 2 rfl
theorem dX0_called_3 : decode cX0_called 3 = .ok (.ishl, 1) := dgrp_at dg_a_25 3 rfl
theorem dX0_called_4 : decode cX0_called 4 = .ok (.iconst (-1), 1) := dgrp_at dg_a_25 4 rfl
theorem dX0_called_5 : decode cX0_called 5 = .ok (.ixor, 1) := dgrp_at dg_a_25 5 rfl
theorem dX0_called_6 : decode cX0_called 6 = .ok (.iand, 1) := dgrp_at dg_a_25 6 rfl
theorem dX0_called_7 : decode cX0_called 7 = .ok (.aload_n 0, 1) := dgrp_at dg_a_25 7 rfl
theorem dX0_called_8 : decode cX0_called 8 = .ok (.iload_n 2, 1) := dgrp_at dg_a_25 8 rfl
theorem dX0_called_9 : decode cX0_called 9 = .ok (.invokevirtual 71, 3) := dgrp_at dg_a_25 9 rfl
theorem dX0_called_12 : decode cX0_called 12 = .ok (.iconst 1, 1) := dgrp_at dg_a_25 10 rfl
theorem dX0_called_13 : decode cX0_called 13 = .ok (.iload_n 1, 1) := dgrp_at dg_a_25 11 rfl
theorem dX0_called_14 : decode cX0_called 14 = .ok (.ishl, 1) := dgrp_at dg_a_25 12 rfl
theorem dX0_called_15 : decode cX0_called 15 = .ok (.iand, 1) := dgrp_at dg_a_25 13 rfl
theorem dX0_called_16 : decode cX0_called 16 = .ok (.ior, 1) := dgrp_at dg_a_25 14 rfl
theorem dX0_called_17 : decode cX0_called 17 = .ok (.ireturn, 1) := dgrp_at dg_a_25 15 rfl
def dl_a_26 : List (Nat × Instr × Nat) := [(0, .aload_n 0, 1), (1, .getfield 47, 3), (4, .istore_n 2, 1), (5, .aload_n 0, 1), (6, .aload_n 0, 1), (7, .iload_n 1, 1), (8, .iload_n 2, 1), (9, .invokevirtual 83, 3), (12, .putfield 47, 3), (15, .aload_n 0, 1), (16, .getfield 47, 3), (19, .iload_n 2, 1), (20, .if_icmp .eq 7, 3), (23, .iconst 1, 1), (24, .goto 4, 3), (27, .iconst 0, 1), (28, .invokestatic 79, 3), (31, .ireturn, 1)]
theorem dg_a_26 : dgrp cX0_ringUp dl_a_26 = true := by decide +kernel
theorem dX0_ringUp_0 : decode cX0_ringUp 0 = .ok (.aload_n 0, 1) := dgrp_at dg_a_26 0 rfl
theorem dX0_ringUp_1 : decode cX0_ringUp 1 = .ok (.getfield 47, 3) := dgrp_at dg_a_26 1 rfl
theorem dX0_ringUp_4 : decode cX0_ringUp 4 = .ok (.istore_n 2, 1) := dgrp_at dg_a_26 2 rfl
theorem dX0_ringUp_5 : decode cX0_ringUp 5 = .ok (.aload_n 0, 1) := dgrp_at dg_a_26 3 rfl
theorem dX0_ringUp_6 : decode cX0_ringUp 6 = .ok (.aload_n 0, 1) := dgrp_at dg_a_26 4 rfl
theorem dX0_ringUp_7 : decode cX0_ringUp 7 = .ok (.iload_n 1, 1) := dgrp_at dg_a_26 5 rfl
theorem dX0_ringUp_8 : decode cX0_ringUp 8 = .ok (.iload_n 2, 1) := dgrp_at dg_a_26 6 rfl
theorem dX0_ringUp_9 : decode cX0_ringUp 9 = .ok (.invokevirtual 83, 3) := dgrp_at dg_a_26 7 rfl
theorem dX0_ringUp_12 : decode cX0_ringUp 12 = .ok (.putfield 47, 3) := dgrp_at dg_a_26 8 rfl
theorem dX0_ringUp_15 : decode cX0_ringUp 15 = .ok (.aload_n 0, 1) := dgrp_at dg_a_26 9 rfl
theorem dX0_ringUp_16 : decode cX0_ringUp 16 = .ok (.getfield 47, 3) := dgrp_at dg_a_26 10 rfl
theorem dX0_ringUp_19 : decode cX0_ringUp 19 = .ok (.iload_n 2, 1) := dgrp_at dg_a_26 11 rfl
theorem dX0_ringUp_20 : decode cX0_ringUp 20 = .ok (.if_icmp .eq 7, 3) := dgrp_at dg_a_26 12 rfl
theorem dX0_ringUp_23 : decode cX0_ringUp 23 = .ok (.iconst 1, 1) := dgrp_at dg_a_26 13 rfl
theorem dX0_ringUp_24 : decode cX0_ringUp 24 = .ok (.goto 4, 3) := dgrp_at dg_a_26 14 rfl
theorem dX0_ringUp_27 : decode cX0_ringUp 27 = .ok (.iconst 0, 1) := dgrp_at dg_a_26 15 rfl
theorem dX0_ringUp_28 : decode cX0_ringUp 28 = .ok (.invokestatic 79, 3) := dgrp_at dg_a_26 16 rfl
theorem dX0_ringUp_31 : decode cX0_ringUp 31 = .ok (.ireturn, 1) := dgrp_at dg_a_26 17 rfl
def dl_a_27 : List (Nat × Instr × Nat) := [(0, .iload_n 1, 1), (1, .istore_n 3, 1), (2, .iconst 0, 1), (3, .istore 4, 2), (5, .iload 4, 2), (7, .iload_n 2, 1), (8, .if_icmp .ge 23, 3), (11, .aload_n 0, 1), (12, .iload_n 3, 1), (13, .invokevirtual 86, 3), (16, .ifCond .ne 15, 3), (19, .aload_n 0, 1), (20, .iload_n 3, 1), (21, .invokevirtual 71, 3), (24, .istore_n 3, 1), (25, .iinc 4 1, 3), (28, .goto (-23), 3), (31, .iload_n 3, 1), (32, .ireturn, 1)]
theorem dg_a_27 : dgrp cX0_behind dl_a_27 = true := by decide +kernel
theorem dX0_behind_0 : decode cX0_behind 0 = .ok (.iload_n 1, 1) := dgrp_at dg_a_27 0 rfl
theorem dX0_behind_1 : decode cX0_behind 1 = .ok (.istore_n 3, 1) := dgrp_at dg_a_27 1 rfl
theorem dX0_behind_2 : decode cX0_behind 2 = .ok (.iconst 0, 1) := dgrp_at dg_a_27 2 rfl
theorem dX0_behind_3 : decode cX0_behind 3 = .ok (.istore 4, 2) := dgrp_at dg_a_27 3 rfl
theorem dX0_behind_5 : decode cX0_behind 5 = .ok (.iload 4, 2) := dgrp_at dg_a_27 4 rfl
theorem dX0_behind_7 : decode cX0_behind 7 = .ok (.iload_n 2, 1) := dgrp_at dg_a_27 5 rfl
theorem dX0_behind_8 : decode cX0_behind 8 = .ok (.if_icmp .ge 23, 3) := dgrp_at dg_a_27 6 rfl
theorem dX0_behind_11 : decode cX0_behind 11 = .ok (.aload_n 0, 1) := dgrp_at dg_a_27 7 rfl
theorem dX0_behind_12 : decode cX0_behind 12 = .ok (.iload_n 3, 1) := dgrp_at dg_a_27 8 rfl
theorem dX0_behind_13 : decode cX0_behind 13 = .ok (.invokevirtual 86, 3) := dgrp_at dg_a_27 9 rfl
theorem dX0_behind_16 : decode cX0_behind 16 = .ok (.ifCond .ne 15, 3) := dgrp_at dg_a_27 10 rfl
theorem dX0_behind_19 : decode cX0_behind 19 = .ok (.aload_n 0, 1) := dgrp_at dg_a_27 11 rfl
theorem dX0_behind_20 : decode cX0_behind 20 = .ok (.iload_n 3, 1) := dgrp_at dg_a_27 12 rfl
theorem dX0_behind_21 : decode cX0_behind 21 = .ok (.invokevirtual 71, 3) := dgrp_at dg_a_27 13 rfl
theorem dX0_behind_24 : decode cX0_behind 24 = .ok (.istore_n 3, 1) := dgrp_at dg_a_27 14 rfl
theorem dX0_behind_25 : decode cX0_behind 25 = .ok (.iinc 4 1, 3) := dgrp_at dg_a_27 15 rfl
theorem dX0_behind_28 : decode cX0_behind 28 = .ok (.goto (-23), 3) := dgrp_at dg_a_27 16 rfl
theorem dX0_behind_31 : decode cX0_behind 31 = .ok (.iload_n 3, 1) := dgrp_at dg_a_27 17 rfl
theorem dX0_behind_32 : decode cX0_behind 32 = .ok (.ireturn, 1) := dgrp_at dg_a_27 18 rfl
def dl_a_28 : List (Nat × Instr × Nat) := [(0, .aload_n 0, 1), (1, .aload_n 0, 1), (2, .getfield 47, 3), (5, .sipush 256, 3), (8, .invokevirtual 90, 3), (11, .istore_n 1, 1), (12, .aload_n 0, 1), (13, .iload_n 1, 1), (14, .invokevirtual 71, 3), (17, .istore_n 2, 1), (18, .iconst 1, 1), (19, .istore_n 3, 1), (20, .iconst 0, 1), (21, .istore 4, 2), (23, .iload 4, 2), (25, .sipush 256, 3), (28, .if_icmp .ge 23, 3), (31, .iload_n 2, 1), (32, .iload_n 1, 1), (33, .if_icmp .eq 18, 3), (36, .aload_n 0, 1), (37, .iload_n 2, 1), (38, .invokevirtual 71, 3), (41, .istore_n 2, 1), (42, .iinc 3 1, 3), (45, .iinc 4 1, 3), (48, .goto (-25), 3), (51, .iload_n 3, 1), (52, .ireturn, 1)]
theorem dg_a_28 : dgrp cX0_ringLength dl_a_28 = true := by decide +kernel
theorem dX0_ringLength_0 : decode cX0_ringLength 0 = .ok (.aload_n 0, 1) := dgrp_at dg_a_28 0 rfl
theorem dX0_ringLength_1 : decode cX0_ringLength 1 = .ok (.aload_n 0, 1) := dgrp_at dg_a_28 1 rfl
theorem dX0_ringLength_2 : decode cX0_ringLength 2 = .ok (.getfield 47, 3) := dgrp_at dg_a_28 2 rfl
theorem dX0_ringLength_5 : decode cX0_ringLength 5 = .ok (.sipush 256, 3) := dgrp_at dg_a_28 3 rfl
theorem dX0_ringLength_8 : decode cX0_ringLength 8 = .ok (.invokevirtual 90, 3) := dgrp_at dg_a_28 4 rfl
theorem dX0_ringLength_11 : decode cX0_ringLength 11 = .ok (.istore_n 1, 1) := dgrp_at dg_a_28 5 rfl
theorem dX0_ringLength_12 : decode cX0_ringLength 12 = .ok (.aload_n 0, 1) := dgrp_at dg_a_28 6 rfl
theorem dX0_ringLength_13 : decode cX0_ringLength 13 = .ok (.iload_n 1, 1) := dgrp_at dg_a_28 7 rfl
theorem dX0_ringLength_14 : decode cX0_ringLength 14 = .ok (.invokevirtual 71, 3) := dgrp_at dg_a_28 8 rfl
theorem dX0_ringLength_17 : decode cX0_ringLength 17 = .ok (.istore_n 2, 1) := dgrp_at dg_a_28 9 rfl
theorem dX0_ringLength_18 : decode cX0_ringLength 18 = .ok (.iconst 1, 1) := dgrp_at dg_a_28 10 rfl
theorem dX0_ringLength_19 : decode cX0_ringLength 19 = .ok (.istore_n 3, 1) := dgrp_at dg_a_28 11 rfl
theorem dX0_ringLength_20 : decode cX0_ringLength 20 = .ok (.iconst 0, 1) := dgrp_at dg_a_28 12 rfl
theorem dX0_ringLength_21 : decode cX0_ringLength 21 = .ok (.istore 4, 2) := dgrp_at dg_a_28 13 rfl
theorem dX0_ringLength_23 : decode cX0_ringLength 23 = .ok (.iload 4, 2) := dgrp_at dg_a_28 14 rfl
theorem dX0_ringLength_25 : decode cX0_ringLength 25 = .ok (.sipush 256, 3) := dgrp_at dg_a_28 15 rfl
theorem dX0_ringLength_28 : decode cX0_ringLength 28 = .ok (.if_icmp .ge 23, 3) := dgrp_at dg_a_28 16 rfl
theorem dX0_ringLength_31 : decode cX0_ringLength 31 = .ok (.iload_n 2, 1) := dgrp_at dg_a_28 17 rfl
theorem dX0_ringLength_32 : decode cX0_ringLength 32 = .ok (.iload_n 1, 1) := dgrp_at dg_a_28 18 rfl
theorem dX0_ringLength_33 : decode cX0_ringLength 33 = .ok (.if_icmp .eq 18, 3) := dgrp_at dg_a_28 19 rfl
theorem dX0_ringLength_36 : decode cX0_ringLength 36 = .ok (.aload_n 0, 1) := dgrp_at dg_a_28 20 rfl
theorem dX0_ringLength_37 : decode cX0_ringLength 37 = .ok (.iload_n 2, 1) := dgrp_at dg_a_28 21 rfl
theorem dX0_ringLength_38 : decode cX0_ringLength 38 = .ok (.invokevirtual 71, 3) := dgrp_at dg_a_28 22 rfl
theorem dX0_ringLength_41 : decode cX0_ringLength 41 = .ok (.istore_n 2, 1) := dgrp_at dg_a_28 23 rfl
theorem dX0_ringLength_42 : decode cX0_ringLength 42 = .ok (.iinc 3 1, 3) := dgrp_at dg_a_28 24 rfl
theorem dX0_ringLength_45 : decode cX0_ringLength 45 = .ok (.iinc 4 1, 3) := dgrp_at dg_a_28 25 rfl
theorem dX0_ringLength_48 : decode cX0_ringLength 48 = .ok (.goto (-25), 3) := dgrp_at dg_a_28 26 rfl
theorem dX0_ringLength_51 : decode cX0_ringLength 51 = .ok (.iload_n 3, 1) := dgrp_at dg_a_28 27 rfl
theorem dX0_ringLength_52 : decode cX0_ringLength 52 = .ok (.ireturn, 1) := dgrp_at dg_a_28 28 rfl
def dl_a_29 : List (Nat × Instr × Nat) := [(0, .aload_n 0, 1), (1, .getfield 47, 3), (4, .istore_n 2, 1), (5, .aload_n 0, 1), (6, .aload_n 0, 1), (7, .getfield 47, 3), (10, .iload_n 1, 1), (11, .invokevirtual 90, 3), (14, .istore_n 3, 1), (15, .iconst 0, 1), (16, .istore 4, 2), (18, .iconst 0, 1), (19, .istore 5, 2), (21, .iload 5, 2), (23, .sipush 256, 3), (26, .if_icmp .ge 29, 3), (29, .iload_n 2, 1), (30, .iload_n 3, 1), (31, .if_icmp .eq 24, 3), (34, .aload_n 0, 1), (35, .iload_n 2, 1), (36, .invokevirtual 71, 3), (39, .istore_n 2, 1), (40, .aload_n 0, 1), (41, .iload_n 3, 1), (42, .invokevirtual 71, 3), (45, .istore_n 3, 1), (46, .iinc 4 1, 3), (49, .iinc 5 1, 3), (52, .goto (-31), 3), (55, .iload 4, 2), (57, .ireturn, 1)]
theorem dg_a_29 : dgrp cX0_roundsToRing dl_a_29 = true := by decide +kernel
theorem dX0_roundsToRing_0 : decode cX0_roundsToRing 0 = .ok (.aload_n 0, 1) := dgrp_at dg_a_29 0 rfl
theorem dX0_roundsToRing_1 : decode cX0_roundsToRing 1 = .ok (.getfield 47, 3) := dgrp_at dg_a_29 1 rfl
theorem dX0_roundsToRing_4 : decode cX0_roundsToRing 4 = .ok (.istore_n 2, 1) := dgrp_at dg_a_29 2 rfl
theorem dX0_roundsToRing_5 : decode cX0_roundsToRing 5 = .ok (.aload_n 0, 1) := dgrp_at dg_a_29 3 rfl
theorem dX0_roundsToRing_6 : decode cX0_roundsToRing 6 = .ok (.aload_n 0, 1) := dgrp_at dg_a_29 4 rfl
theorem dX0_roundsToRing_7 : decode cX0_roundsToRing 7 = .ok (.getfield 47, 3) := dgrp_at dg_a_29 5 rfl
theorem dX0_roundsToRing_10 : decode cX0_roundsToRing 10 = .ok (.iload_n 1, 1) := dgrp_at dg_a_29 6 rfl
theorem dX0_roundsToRing_11 : decode cX0_roundsToRing 11 = .ok (.invokevirtual 90, 3) := dgrp_at dg_a_29 7 rfl
theorem dX0_roundsToRing_14 : decode cX0_roundsToRing 14 = .ok (.istore_n 3, 1) := dgrp_at dg_a_29 8 rfl
theorem dX0_roundsToRing_15 : decode cX0_roundsToRing 15 = .ok (.iconst 0, 1) := dgrp_at dg_a_29 9 rfl
theorem dX0_roundsToRing_16 : decode cX0_roundsToRing 16 = .ok (.istore 4, 2) := dgrp_at dg_a_29 10 rfl
theorem dX0_roundsToRing_18 : decode cX0_roundsToRing 18 = .ok (.iconst 0, 1) := dgrp_at dg_a_29 11 rfl
theorem dX0_roundsToRing_19 : decode cX0_roundsToRing 19 = .ok (.istore 5, 2) := dgrp_at dg_a_29 12 rfl
theorem dX0_roundsToRing_21 : decode cX0_roundsToRing 21 = .ok (.iload 5, 2) := dgrp_at dg_a_29 13 rfl
theorem dX0_roundsToRing_23 : decode cX0_roundsToRing 23 = .ok (.sipush 256, 3) := dgrp_at dg_a_29 14 rfl
theorem dX0_roundsToRing_26 : decode cX0_roundsToRing 26 = .ok (.if_icmp .ge 29, 3) := dgrp_at dg_a_29 15 rfl
theorem dX0_roundsToRing_29 : decode cX0_roundsToRing 29 = .ok (.iload_n 2, 1) := dgrp_at dg_a_29 16 rfl
theorem dX0_roundsToRing_30 : decode cX0_roundsToRing 30 = .ok (.iload_n 3, 1) := dgrp_at dg_a_29 17 rfl
theorem dX0_roundsToRing_31 : decode cX0_roundsToRing 31 = .ok (.if_icmp .eq 24, 3) := dgrp_at dg_a_29 18 rfl
theorem dX0_roundsToRing_34 : decode cX0_roundsToRing 34 = .ok (.aload_n 0, 1) := dgrp_at dg_a_29 19 rfl
theorem dX0_roundsToRing_35 : decode cX0_roundsToRing 35 = .ok (.iload_n 2, 1) := dgrp_at dg_a_29 20 rfl
theorem dX0_roundsToRing_36 : decode cX0_roundsToRing 36 = .ok (.invokevirtual 71, 3) := dgrp_at dg_a_29 21 rfl
theorem dX0_roundsToRing_39 : decode cX0_roundsToRing 39 = .ok (.istore_n 2, 1) := dgrp_at dg_a_29 22 rfl
theorem dX0_roundsToRing_40 : decode cX0_roundsToRing 40 = .ok (.aload_n 0, 1) := dgrp_at dg_a_29 23 rfl
theorem dX0_roundsToRing_41 : decode cX0_roundsToRing 41 = .ok (.iload_n 3, 1) := dgrp_at dg_a_29 24 rfl
theorem dX0_roundsToRing_42 : decode cX0_roundsToRing 42 = .ok (.invokevirtual 71, 3) := dgrp_at dg_a_29 25 rfl
theorem dX0_roundsToRing_45 : decode cX0_roundsToRing 45 = .ok (.istore_n 3, 1) := dgrp_at dg_a_29 26 rfl
theorem dX0_roundsToRing_46 : decode cX0_roundsToRing 46 = .ok (.iinc 4 1, 3) := dgrp_at dg_a_29 27 rfl
theorem dX0_roundsToRing_49 : decode cX0_roundsToRing 49 = .ok (.iinc 5 1, 3) := dgrp_at dg_a_29 28 rfl
theorem dX0_roundsToRing_52 : decode cX0_roundsToRing 52 = .ok (.goto (-31), 3) := dgrp_at dg_a_29 29 rfl
theorem dX0_roundsToRing_55 : decode cX0_roundsToRing 55 = .ok (.iload 4, 2) := dgrp_at dg_a_29 30 rfl
theorem dX0_roundsToRing_57 : decode cX0_roundsToRing 57 = .ok (.ireturn, 1) := dgrp_at dg_a_29 31 rfl
def dl_a_30 : List (Nat × Instr × Nat) := [(0, .iload_n 1, 1), (1, .istore_n 3, 1), (2, .iconst (-1), 1), (3, .istore 4, 2), (5, .iconst 0, 1), (6, .istore 5, 2), (8, .iload 5, 2), (10, .bipush 64, 2), (12, .if_icmp .ge 28, 3), (15, .iload_n 3, 1), (16, .iload 4, 2), (18, .if_icmp .eq 22, 3), (21, .iload_n 3, 1), (22, .istore 4, 2), (24, .aload_n 0, 1), (25, .iload_n 3, 1), (26, .invokevirtual 71, 3), (29, .iload_n 2, 1), (30, .iand, 1), (31, .iload_n 1, 1), (32, .ior, 1), (33, .istore_n 3, 1), (34, .iinc 5 1, 3), (37, .goto (-29), 3), (40, .iload_n 3, 1), (41, .ireturn, 1)]
theorem dg_a_30 : dgrp cX0_lastOf dl_a_30 = true := by decide +kernel
theorem dX0_lastOf_0 : decode cX0_lastOf 0 = .ok (.iload_n 1, 1) := dgrp_at dg_a_30 0 rfl
theorem dX0_lastOf_1 : decode cX0_lastOf 1 = .ok (.istore_n 3, 1) := dgrp_at dg_a_30 1 rfl
theorem dX0_lastOf_2 : decode cX0_lastOf 2 = .ok (.iconst (-1), 1) := dgrp_at dg_a_30 2 rfl
theorem dX0_lastOf_3 : decode cX0_lastOf 3 = .ok (.istore 4, 2) := dgrp_at dg_a_30 3 rfl
theorem dX0_lastOf_5 : decode cX0_lastOf 5 = .ok (.iconst 0, 1) := dgrp_at dg_a_30 4 rfl
theorem dX0_lastOf_6 : decode cX0_lastOf 6 = .ok (.istore 5, 2) := dgrp_at dg_a_30 5 rfl
theorem dX0_lastOf_8 : decode cX0_lastOf 8 = .ok (.iload 5, 2) := dgrp_at dg_a_30 6 rfl
theorem dX0_lastOf_10 : decode cX0_lastOf 10 = .ok (.bipush 64, 2) := dgrp_at dg_a_30 7 rfl
theorem dX0_lastOf_12 : decode cX0_lastOf 12 = .ok (.if_icmp .ge 28, 3) := dgrp_at dg_a_30 8 rfl
theorem dX0_lastOf_15 : decode cX0_lastOf 15 = .ok (.iload_n 3, 1) := dgrp_at dg_a_30 9 rfl
theorem dX0_lastOf_16 : decode cX0_lastOf 16 = .ok (.iload 4, 2) := dgrp_at dg_a_30 10 rfl
theorem dX0_lastOf_18 : decode cX0_lastOf 18 = .ok (.if_icmp .eq 22, 3) := dgrp_at dg_a_30 11 rfl
theorem dX0_lastOf_21 : decode cX0_lastOf 21 = .ok (.iload_n 3, 1) := dgrp_at dg_a_30 12 rfl
theorem dX0_lastOf_22 : decode cX0_lastOf 22 = .ok (.istore 4, 2) := dgrp_at dg_a_30 13 rfl
theorem dX0_lastOf_24 : decode cX0_lastOf 24 = .ok (.aload_n 0, 1) := dgrp_at dg_a_30 14 rfl
theorem dX0_lastOf_25 : decode cX0_lastOf 25 = .ok (.iload_n 3, 1) := dgrp_at dg_a_30 15 rfl
theorem dX0_lastOf_26 : decode cX0_lastOf 26 = .ok (.invokevirtual 71, 3) := dgrp_at dg_a_30 16 rfl
theorem dX0_lastOf_29 : decode cX0_lastOf 29 = .ok (.iload_n 2, 1) := dgrp_at dg_a_30 17 rfl
theorem dX0_lastOf_30 : decode cX0_lastOf 30 = .ok (.iand, 1) := dgrp_at dg_a_30 18 rfl
theorem dX0_lastOf_31 : decode cX0_lastOf 31 = .ok (.iload_n 1, 1) := dgrp_at dg_a_30 19 rfl
theorem dX0_lastOf_32 : decode cX0_lastOf 32 = .ok (.ior, 1) := dgrp_at dg_a_30 20 rfl
theorem dX0_lastOf_33 : decode cX0_lastOf 33 = .ok (.istore_n 3, 1) := dgrp_at dg_a_30 21 rfl
theorem dX0_lastOf_34 : decode cX0_lastOf 34 = .ok (.iinc 5 1, 3) := dgrp_at dg_a_30 22 rfl
theorem dX0_lastOf_37 : decode cX0_lastOf 37 = .ok (.goto (-29), 3) := dgrp_at dg_a_30 23 rfl
theorem dX0_lastOf_40 : decode cX0_lastOf 40 = .ok (.iload_n 3, 1) := dgrp_at dg_a_30 24 rfl
theorem dX0_lastOf_41 : decode cX0_lastOf 41 = .ok (.ireturn, 1) := dgrp_at dg_a_30 25 rfl
def dl_a_31 : List (Nat × Instr × Nat) := [(0, .aload_n 0, 1), (1, .invokespecial 3, 3), (4, .aload_n 0, 1), (5, .bipush 40, 2), (9, .putfield 9, 3), (12, .return_, 1)]
theorem dg_a_31 : dgrp cX1_init dl_a_31 = true := by decide +kernel
theorem dX1_init_0 : decode cX1_init 0 = .ok (.aload_n 0, 1) := dgrp_at dg_a_31 0 rfl
theorem dX1_init_1 : decode cX1_init 1 = .ok (.invokespecial 3, 3) := dgrp_at dg_a_31 1 rfl
theorem dX1_init_4 : decode cX1_init 4 = .ok (.aload_n 0, 1) := dgrp_at dg_a_31 2 rfl
theorem dX1_init_5 : decode cX1_init 5 = .ok (.bipush 40, 2) := dgrp_at dg_a_31 3 rfl
theorem dX1_init_9 : decode cX1_init 9 = .ok (.putfield 9, 3) := dgrp_at dg_a_31 4 rfl
theorem dX1_init_12 : decode cX1_init 12 = .ok (.return_, 1) := dgrp_at dg_a_31 5 rfl
def dl_a_32 : List (Nat × Instr × Nat) := [(0, .aload_n 0, 1), (1, .getfield 15, 3), (4, .ifCond .ne 7, 3), (7, .iconst 1, 1), (8, .goto 4, 3), (11, .iconst 0, 1), (12, .ireturn, 1)]
theorem dg_a_32 : dgrp cX1_isMissing dl_a_32 = true := by decide +kernel
theorem dX1_isMissing_0 : decode cX1_isMissing 0 = .ok (.aload_n 0, 1) := dgrp_at dg_a_32 0 rfl
theorem dX1_isMissing_1 : decode cX1_isMissing 1 = .ok (.getfield 15, 3) := dgrp_at dg_a_32 1 rfl
theorem dX1_isMissing_4 : decode cX1_isMissing 4 = .ok (.ifCond .ne 7, 3) := dgrp_at dg_a_32 2 rfl
theorem dX1_isMissing_7 : decode cX1_isMissing 7 = .ok (.iconst 1, 1) := dgrp_at dg_a_32 3 rfl
theorem dX1_isMissing_8 : decode cX1_isMissing 8 = .ok (.goto 4, 3) := dgrp_at dg_a_32 4 rfl
theorem dX1_isMissing_11 : decode cX1_isMissing 11 = .ok (.iconst 0, 1) := dgrp_at dg_a_32 5 rfl
theorem dX1_isMissing_12 : decode cX1_isMissing 12 = .ok (.ireturn, 1) := dgrp_at dg_a_32 6 rfl
def dl_a_33 : List (Nat × Instr × Nat) := [(0, .aload_n 0, 1), (1, .iload_n 1, 1), (2, .putfield 15, 3), (5, .aload_n 0, 1), (6, .iload_n 1, 1), (7, .ifCond .ne 7, 3), (10, .iconst 0, 1), (11, .goto 4, 3), (14, .iload_n 2, 1), (15, .putfield 19, 3), (18, .aload_n 0, 1), (19, .getfield 9, 3), (22, .lconst 0, 1), (23, .invokestatic 22, 3), (26, .aload_n 0, 1), (27, .getfield 19, 3), (30, .ireturn, 1)]
theorem dg_a_33 : dgrp cX1_lay dl_a_33 = true := by decide +kernel
theorem dX1_lay_0 : decode cX1_lay 0 = .ok (.aload_n 0, 1) := dgrp_at dg_a_33 0 rfl
theorem dX1_lay_1 : decode cX1_lay 1 = .ok (.iload_n 1, 1) := dgrp_at dg_a_33 1 rfl
theorem dX1_lay_2 : decode cX1_lay 2 = .ok (.putfield 15, 3) := dgrp_at dg_a_33 2 rfl
theorem dX1_lay_5 : decode cX1_lay 5 = .ok (.aload_n 0, 1) := dgrp_at dg_a_33 3 rfl
theorem dX1_lay_6 : decode cX1_lay 6 = .ok (.iload_n 1, 1) := dgrp_at dg_a_33 4 rfl
theorem dX1_lay_7 : decode cX1_lay 7 = .ok (.ifCond .ne 7, 3) := dgrp_at dg_a_33 5 rfl
theorem dX1_lay_10 : decode cX1_lay 10 = .ok (.iconst 0, 1) := dgrp_at dg_a_33 6 rfl
theorem dX1_lay_11 : decode cX1_lay 11 = .ok (.goto 4, 3) := dgrp_at dg_a_33 7 rfl
theorem dX1_lay_14 : decode cX1_lay 14 = .ok (.iload_n 2, 1) := dgrp_at dg_a_33 8 rfl
theorem dX1_lay_15 : decode cX1_lay 15 = .ok (.putfield 19, 3) := dgrp_at dg_a_33 9 rfl
theorem dX1_lay_18 : decode cX1_lay 18 = .ok (.aload_n 0, 1) := dgrp_at dg_a_33 10 rfl
theorem dX1_lay_19 : decode cX1_lay 19 = .ok (.getfield 9, 3) := dgrp_at dg_a_33 11 rfl
theorem dX1_lay_22 : decode cX1_lay 22 = .ok (.lconst 0, 1) := dgrp_at dg_a_33 12 rfl
theorem dX1_lay_23 : decode cX1_lay 23 = .ok (.invokestatic 22, 3) := dgrp_at dg_a_33 13 rfl
theorem dX1_lay_26 : decode cX1_lay 26 = .ok (.aload_n 0, 1) := dgrp_at dg_a_33 14 rfl
theorem dX1_lay_27 : decode cX1_lay 27 = .ok (.getfield 19, 3) := dgrp_at dg_a_33 15 rfl
theorem dX1_lay_30 : decode cX1_lay 30 = .ok (.ireturn, 1) := dgrp_at dg_a_33 16 rfl
def dl_a_34 : List (Nat × Instr × Nat) := [(0, .aload_n 0, 1), (1, .getfield 9, 3), (4, .iload_n 1, 1), (5, .laload, 1), (6, .lstore 4, 2), (8, .aload_n 0, 1), (9, .getfield 9, 3), (12, .iload_n 1, 1), (13, .aload_n 0, 1), (14, .getfield 15, 3), (17, .bipush 8, 2), (19, .if_icmp .ne 10, 3), (22, .lload_n 2, 1), (23, .l2i, 1), (24, .i2b, 1), (25, .i2l, 1), (26, .goto 20, 3), (29, .aload_n 0, 1), (30, .getfield 15, 3), (33, .bipush 16, 2), (35, .if_icmp .ne 10, 3), (38, .lload_n 2, 1), (39, .l2i, 1), (40, .i2s, 1), (41, .i2l, 1), (42, .goto 4, 3), (45, .lload_n 2, 1), (46, .lastore, 1), (47, .lload 4, 2), (49, .lreturn, 1)]
theorem dg_a_34 : dgrp cX1_put dl_a_34 = true := by decide +kernel
theorem dX1_put_0 : decode cX1_put 0 = .ok (.aload_n 0, 1) := dgrp_at dg_a_34 0 rfl
theorem dX1_put_1 : decode cX1_put 1 = .ok (.getfield 9, 3) := dgrp_at dg_a_34 1 rfl
theorem dX1_put_4 : decode cX1_put 4 = .ok (.iload_n 1, 1) := dgrp_at dg_a_34 2 rfl
theorem dX1_put_5 : decode cX1_put 5 = .ok (.laload, 1) := dgrp_at dg_a_34 3 rfl
theorem dX1_put_6 : decode cX1_put 6 = .ok (.lstore 4, 2) := dgrp_at dg_a_34 4 rfl
theorem dX1_put_8 : decode cX1_put 8 = .ok (.aload_n 0, 1) := dgrp_at dg_a_34 5 rfl
theorem dX1_put_9 : decode cX1_put 9 = .ok (.getfield 9, 3) := dgrp_at dg_a_34 6 rfl
theorem dX1_put_12 : decode cX1_put 12 = .ok (.iload_n 1, 1) := dgrp_at dg_a_34 7 rfl
theorem dX1_put_13 : decode cX1_put 13 = .ok (.aload_n 0, 1) := dgrp_at dg_a_34 8 rfl
theorem dX1_put_14 : decode cX1_put 14 = .ok (.getfield 15, 3) := dgrp_at dg_a_34 9 rfl
theorem dX1_put_17 : decode cX1_put 17 = .ok (.bipush 8, 2) := dgrp_at dg_a_34 10 rfl
theorem dX1_put_19 : decode cX1_put 19 = .ok (.if_icmp .ne 10, 3) := dgrp_at dg_a_34 11 rfl
theorem dX1_put_22 : decode cX1_put 22 = .ok (.lload_n 2, 1) := dgrp_at dg_a_34 12 rfl
theorem dX1_put_23 : decode cX1_put 23 = .ok (.l2i, 1) := dgrp_at dg_a_34 13 rfl
theorem dX1_put_24 : decode cX1_put 24 = .ok (.i2b, 1) := dgrp_at dg_a_34 14 rfl
theorem dX1_put_25 : decode cX1_put 25 = .ok (.i2l, 1) := dgrp_at dg_a_34 15 rfl
theorem dX1_put_26 : decode cX1_put 26 = .ok (.goto 20, 3) := dgrp_at dg_a_34 16 rfl
theorem dX1_put_29 : decode cX1_put 29 = .ok (.aload_n 0, 1) := dgrp_at dg_a_34 17 rfl
theorem dX1_put_30 : decode cX1_put 30 = .ok (.getfield 15, 3) := dgrp_at dg_a_34 18 rfl
theorem dX1_put_33 : decode cX1_put 33 = .ok (.bipush 16, 2) := dgrp_at dg_a_34 19 rfl
theorem dX1_put_35 : decode cX1_put 35 = .ok (.if_icmp .ne 10, 3) := dgrp_at dg_a_34 20 rfl
theorem dX1_put_38 : decode cX1_put 38 = .ok (.lload_n 2, 1) := dgrp_at dg_a_34 21 rfl
theorem dX1_put_39 : decode cX1_put 39 = .ok (.l2i, 1) := dgrp_at dg_a_34 22 rfl
theorem dX1_put_40 : decode cX1_put 40 = .ok (.i2s, 1) := dgrp_at dg_a_34 23 rfl
theorem dX1_put_41 : decode cX1_put 41 = .ok (.i2l, 1) := dgrp_at dg_a_34 24 rfl
theorem dX1_put_42 : decode cX1_put 42 = .ok (.goto 4, 3) := dgrp_at dg_a_34 25 rfl
theorem dX1_put_45 : decode cX1_put 45 = .ok (.lload_n 2, 1) := dgrp_at dg_a_34 26 rfl
theorem dX1_put_46 : decode cX1_put 46 = .ok (.lastore, 1) := dgrp_at dg_a_34 27 rfl
theorem dX1_put_47 : decode cX1_put 47 = .ok (.lload 4, 2) := dgrp_at dg_a_34 28 rfl
theorem dX1_put_49 : decode cX1_put 49 = .ok (.lreturn, 1) := dgrp_at dg_a_34 29 rfl
def dl_a_35 : List (Nat × Instr × Nat) := [(0, .iload_n 1, 1), (1, .ifCond .lt 29, 3), (4, .iload_n 2, 1), (5, .ifCond .lt 25, 3), (8, .iload_n 2, 1), (9, .aload_n 0, 1), (10, .getfield 19, 3), (13, .if_icmp .gt 17, 3), (16, .iload_n 1, 1), (17, .aload_n 0, 1), (18, .getfield 19, 3), (21, .iload_n 2, 1), (22, .isub, 1), (23, .if_icmp .gt 7, 3), (26, .iconst 1, 1), (27, .goto 4, 3), (30, .iconst 0, 1), (31, .ireturn, 1)]
theorem dg_a_35 : dgrp cX1_hasRun dl_a_35 = true := by decide +kernel
theorem dX1_hasRun_0 : decode cX1_hasRun 0 = .ok (.iload_n 1, 1) := dgrp_at dg_a_35 0 rfl
theorem dX1_hasRun_1 : decode cX1_hasRun 1 = .ok (.ifCond .lt 29, 3) := dgrp_at dg_a_35 1 rfl
theorem dX1_hasRun_4 : decode cX1_hasRun 4 = .ok (.iload_n 2, 1) := dgrp_at dg_a_35 2 rfl
theorem dX1_hasRun_5 : decode cX1_hasRun 5 = .ok (.ifCond .lt 25, 3) := dgrp_at dg_a_35 3 rfl
theorem dX1_hasRun_8 : decode cX1_hasRun 8 = .ok (.iload_n 2, 1) := dgrp_at dg_a_35 4 rfl
theorem dX1_hasRun_9 : decode cX1_hasRun 9 = .ok (.aload_n 0, 1) := dgrp_at dg_a_35 5 rfl
theorem dX1_hasRun_10 : decode cX1_hasRun 10 = .ok (.getfield 19, 3) := dgrp_at dg_a_35 6 rfl
theorem dX1_hasRun_13 : decode cX1_hasRun 13 = .ok (.if_icmp .gt 17, 3) := dgrp_at dg_a_35 7 rfl
theorem dX1_hasRun_16 : decode cX1_hasRun 16 = .ok (.iload_n 1, 1) := dgrp_at dg_a_35 8 rfl
theorem dX1_hasRun_17 : decode cX1_hasRun 17 = .ok (.aload_n 0, 1) := dgrp_at dg_a_35 9 rfl
theorem dX1_hasRun_18 : decode cX1_hasRun 18 = .ok (.getfield 19, 3) := dgrp_at dg_a_35 10 rfl
theorem dX1_hasRun_21 : decode cX1_hasRun 21 = .ok (.iload_n 2, 1) := dgrp_at dg_a_35 11 rfl
theorem dX1_hasRun_22 : decode cX1_hasRun 22 = .ok (.isub, 1) := dgrp_at dg_a_35 12 rfl
theorem dX1_hasRun_23 : decode cX1_hasRun 23 = .ok (.if_icmp .gt 7, 3) := dgrp_at dg_a_35 13 rfl
theorem dX1_hasRun_26 : decode cX1_hasRun 26 = .ok (.iconst 1, 1) := dgrp_at dg_a_35 14 rfl
theorem dX1_hasRun_27 : decode cX1_hasRun 27 = .ok (.goto 4, 3) := dgrp_at dg_a_35 15 rfl
theorem dX1_hasRun_30 : decode cX1_hasRun 30 = .ok (.iconst 0, 1) := dgrp_at dg_a_35 16 rfl
theorem dX1_hasRun_31 : decode cX1_hasRun 31 = .ok (.ireturn, 1) := dgrp_at dg_a_35 17 rfl
def dl_a_36 : List (Nat × Instr × Nat) := [(0, .aload_n 0, 1), (1, .getfield 15, 3), (4, .bipush 8, 2), (6, .if_icmp .ne 16, 3), (9, .aload_n 0, 1), (10, .getfield 9, 3), (13, .iload_n 1, 1), (14, .laload, 1), (15, .ldc2_w 28, 3), (18, .land, 1), (19, .goto 31, 3), (22, .aload_n 0, 1), (23, .getfield 15, 3), (26, .bipush 16, 2), (28, .if_icmp .ne 16, 3), (31, .aload_n 0, 1), (32, .getfield 9, 3), (35, .iload_n 1, 1), (36, .laload, 1), (37, .ldc2_w 30, 3), (40, .land, 1), (41, .goto 9, 3), (44, .aload_n 0, 1), (45, .getfield 9, 3), (48, .iload_n 1, 1), (49, .laload, 1), (50, .lreturn, 1)]
theorem dg_a_36 : dgrp cX1_bitsAt dl_a_36 = true := by decide +kernel
theorem dX1_bitsAt_0 : decode cX1_bitsAt 0 = .ok (.aload_n 0, 1) := dgrp_at dg_a_36 0 rfl
theorem dX1_bitsAt_1 : decode cX1_bitsAt 1 = .ok (.getfield 15, 3) := dgrp_at dg_a_36 1 rfl
theorem dX1_bitsAt_4 : decode cX1_bitsAt 4 = .ok (.bipush 8, 2) := dgrp_at dg_a_36 2 rfl
theorem dX1_bitsAt_6 : decode cX1_bitsAt 6 = .ok (.if_icmp .ne 16, 3) := dgrp_at dg_a_36 3 rfl
theorem dX1_bitsAt_9 : decode cX1_bitsAt 9 = .ok (.aload_n 0, 1) := dgrp_at dg_a_36 4 rfl
theorem dX1_bitsAt_10 : decode cX1_bitsAt 10 = .ok (.getfield 9, 3) := dgrp_at dg_a_36 5 rfl
theorem dX1_bitsAt_13 : decode cX1_bitsAt 13 = .ok (.iload_n 1, 1) := dgrp_at dg_a_36 6 rfl
theorem dX1_bitsAt_14 : decode cX1_bitsAt 14 = .ok (.laload, 1) := dgrp_at dg_a_36 7 rfl
theorem dX1_bitsAt_15 : decode cX1_bitsAt 15 = .ok (.ldc2_w 28, 3) := dgrp_at dg_a_36 8 rfl
theorem dX1_bitsAt_18 : decode cX1_bitsAt 18 = .ok (.land, 1) := dgrp_at dg_a_36 9 rfl
theorem dX1_bitsAt_19 : decode cX1_bitsAt 19 = .ok (.goto 31, 3) := dgrp_at dg_a_36 10 rfl
theorem dX1_bitsAt_22 : decode cX1_bitsAt 22 = .ok (.aload_n 0, 1) := dgrp_at dg_a_36 11 rfl
theorem dX1_bitsAt_23 : decode cX1_bitsAt 23 = .ok (.getfield 15, 3) := dgrp_at dg_a_36 12 rfl
theorem dX1_bitsAt_26 : decode cX1_bitsAt 26 = .ok (.bipush 16, 2) := dgrp_at dg_a_36 13 rfl
theorem dX1_bitsAt_28 : decode cX1_bitsAt 28 = .ok (.if_icmp .ne 16, 3) := dgrp_at dg_a_36 14 rfl
theorem dX1_bitsAt_31 : decode cX1_bitsAt 31 = .ok (.aload_n 0, 1) := dgrp_at dg_a_36 15 rfl
theorem dX1_bitsAt_32 : decode cX1_bitsAt 32 = .ok (.getfield 9, 3) := dgrp_at dg_a_36 16 rfl
theorem dX1_bitsAt_35 : decode cX1_bitsAt 35 = .ok (.iload_n 1, 1) := dgrp_at dg_a_36 17 rfl
theorem dX1_bitsAt_36 : decode cX1_bitsAt 36 = .ok (.laload, 1) := dgrp_at dg_a_36 18 rfl
theorem dX1_bitsAt_37 : decode cX1_bitsAt 37 = .ok (.ldc2_w 30, 3) := dgrp_at dg_a_36 19 rfl
theorem dX1_bitsAt_40 : decode cX1_bitsAt 40 = .ok (.land, 1) := dgrp_at dg_a_36 20 rfl
theorem dX1_bitsAt_41 : decode cX1_bitsAt 41 = .ok (.goto 9, 3) := dgrp_at dg_a_36 21 rfl
theorem dX1_bitsAt_44 : decode cX1_bitsAt 44 = .ok (.aload_n 0, 1) := dgrp_at dg_a_36 22 rfl
theorem dX1_bitsAt_45 : decode cX1_bitsAt 45 = .ok (.getfield 9, 3) := dgrp_at dg_a_36 23 rfl
theorem dX1_bitsAt_48 : decode cX1_bitsAt 48 = .ok (.iload_n 1, 1) := dgrp_at dg_a_36 24 rfl
theorem dX1_bitsAt_49 : decode cX1_bitsAt 49 = .ok (.laload, 1) := dgrp_at dg_a_36 25 rfl
theorem dX1_bitsAt_50 : decode cX1_bitsAt 50 = .ok (.lreturn, 1) := dgrp_at dg_a_36 26 rfl
def dl_a_37 : List (Nat × Instr × Nat) := [(0, .iconst 0, 1), (1, .istore_n 2, 1), (2, .iload_n 2, 1), (3, .aload_n 0, 1), (4, .getfield 19, 3), (7, .if_icmp .ge 28, 3), (10, .aload_n 0, 1), (11, .iload_n 2, 1), (12, .invokevirtual 32, 3), (15, .iload_n 1, 1), (16, .i2l, 1), (17, .ldc2_w 36, 3), (20, .lxor, 1), (21, .land, 1), (22, .lconst 0, 1), (23, .lcmp, 1), (24, .ifCond .eq 5, 3), (27, .iconst 0, 1), (28, .ireturn, 1), (29, .iinc 2 1, 3), (32, .goto (-30), 3), (35, .iconst 1, 1), (36, .ireturn, 1)]
theorem dg_a_37 : dgrp cX1_holdsOnly dl_a_37 = true := by decide +kernel
theorem dX1_holdsOnly_0 : decode cX1_holdsOnly 0 = .ok (.iconst 0, 1) := dgrp_at dg_a_37 0 rfl
theorem dX1_holdsOnly_1 : decode cX1_holdsOnly 1 = .ok (.istore_n 2, 1) := dgrp_at dg_a_37 1 rfl
theorem dX1_holdsOnly_2 : decode cX1_holdsOnly 2 = .ok (.iload_n 2, 1) := dgrp_at dg_a_37 2 rfl
theorem dX1_holdsOnly_3 : decode cX1_holdsOnly 3 = .ok (.aload_n 0, 1) := dgrp_at dg_a_37 3 rfl
theorem dX1_holdsOnly_4 : decode cX1_holdsOnly 4 = .ok (.getfield 19, 3) := dgrp_at dg_a_37 4 rfl
theorem dX1_holdsOnly_7 : decode cX1_holdsOnly 7 = .ok (.if_icmp .ge 28, 3) := dgrp_at dg_a_37 5 rfl
theorem dX1_holdsOnly_10 : decode cX1_holdsOnly 10 = .ok (.aload_n 0, 1) := dgrp_at dg_a_37 6 rfl
theorem dX1_holdsOnly_11 : decode cX1_holdsOnly 11 = .ok (.iload_n 2, 1) := dgrp_at dg_a_37 7 rfl
theorem dX1_holdsOnly_12 : decode cX1_holdsOnly 12 = .ok (.invokevirtual 32, 3) := dgrp_at dg_a_37 8 rfl
theorem dX1_holdsOnly_15 : decode cX1_holdsOnly 15 = .ok (.iload_n 1, 1) := dgrp_at dg_a_37 9 rfl
theorem dX1_holdsOnly_16 : decode cX1_holdsOnly 16 = .ok (.i2l, 1) := dgrp_at dg_a_37 10 rfl
theorem dX1_holdsOnly_17 : decode cX1_holdsOnly 17 = .ok (.ldc2_w 36, 3) := dgrp_at dg_a_37 11 rfl
theorem dX1_holdsOnly_20 : decode cX1_holdsOnly 20 = .ok (.lxor, 1) := dgrp_at dg_a_37 12 rfl
theorem dX1_holdsOnly_21 : decode cX1_holdsOnly 21 = .ok (.land, 1) := dgrp_at dg_a_37 13 rfl
theorem dX1_holdsOnly_22 : decode cX1_holdsOnly 22 = .ok (.lconst 0, 1) := dgrp_at dg_a_37 14 rfl
theorem dX1_holdsOnly_23 : decode cX1_holdsOnly 23 = .ok (.lcmp, 1) := dgrp_at dg_a_37 15 rfl
theorem dX1_holdsOnly_24 : decode cX1_holdsOnly 24 = .ok (.ifCond .eq 5, 3) := dgrp_at dg_a_37 16 rfl
theorem dX1_holdsOnly_27 : decode cX1_holdsOnly 27 = .ok (.iconst 0, 1) := dgrp_at dg_a_37 17 rfl
theorem dX1_holdsOnly_28 : decode cX1_holdsOnly 28 = .ok (.ireturn, 1) := dgrp_at dg_a_37 18 rfl
theorem dX1_holdsOnly_29 : decode cX1_holdsOnly 29 = .ok (.iinc 2 1, 3) := dgrp_at dg_a_37 19 rfl
theorem dX1_holdsOnly_32 : decode cX1_holdsOnly 32 = .ok (.goto (-30), 3) := dgrp_at dg_a_37 20 rfl
theorem dX1_holdsOnly_35 : decode cX1_holdsOnly 35 = .ok (.iconst 1, 1) := dgrp_at dg_a_37 21 rfl
theorem dX1_holdsOnly_36 : decode cX1_holdsOnly 36 = .ok (.ireturn, 1) := dgrp_at dg_a_37 22 rfl
def dl_a_38 : List (Nat × Instr × Nat) := [(0, .aload_n 0, 1), (1, .iload_n 1, 1), (2, .invokevirtual 32, 3), (5, .l2i, 1), (6, .sipush 255, 3), (9, .iand, 1), (10, .ireturn, 1)]
theorem dg_a_38 : dgrp cX1_listAt dl_a_38 = true := by decide +kernel
theorem dX1_listAt_0 : decode cX1_listAt 0 = .ok (.aload_n 0, 1) := dgrp_at dg_a_38 0 rfl
theorem dX1_listAt_1 : decode cX1_listAt 1 = .ok (.iload_n 1, 1) := dgrp_at dg_a_38 1 rfl
theorem dX1_listAt_2 : decode cX1_listAt 2 = .ok (.invokevirtual 32, 3) := dgrp_at dg_a_38 2 rfl
theorem dX1_listAt_5 : decode cX1_listAt 5 = .ok (.l2i, 1) := dgrp_at dg_a_38 3 rfl
theorem dX1_listAt_6 : decode cX1_listAt 6 = .ok (.sipush 255, 3) := dgrp_at dg_a_38 4 rfl
theorem dX1_listAt_9 : decode cX1_listAt 9 = .ok (.iand, 1) := dgrp_at dg_a_38 5 rfl
theorem dX1_listAt_10 : decode cX1_listAt 10 = .ok (.ireturn, 1) := dgrp_at dg_a_38 6 rfl
def dl_a_39 : List (Nat × Instr × Nat) := [(0, .aload_n 0, 1), (1, .invokespecial 3, 3), (4, .aload_n 0, 1), (5, .bipush 60, 2), (9, .putfield 9, 3), (12, .aload_n 0, 1), (13, .iconst (-1), 1), (14, .putfield 15, 3), (17, .return_, 1)]
theorem dg_a_39 : dgrp cX2_init dl_a_39 = true := by decide +kernel
theorem dX2_init_0 : decode cX2_init 0 = .ok (.aload_n 0, 1) := dgrp_at dg_a_39 0 rfl
theorem dX2_init_1 : decode cX2_init 1 = .ok (.invokespecial 3, 3) := dgrp_at dg_a_39 1 rfl
theorem dX2_init_4 : decode cX2_init 4 = .ok (.aload_n 0, 1) := dgrp_at dg_a_39 2 rfl
theorem dX2_init_5 : decode cX2_init 5 = .ok (.bipush 60, 2) := dgrp_at dg_a_39 3 rfl
theorem dX2_init_9 : decode cX2_init 9 = .ok (.putfield 9, 3) := dgrp_at dg_a_39 4 rfl
theorem dX2_init_12 : decode cX2_init 12 = .ok (.aload_n 0, 1) := dgrp_at dg_a_39 5 rfl
theorem dX2_init_13 : decode cX2_init 13 = .ok (.iconst (-1), 1) := dgrp_at dg_a_39 6 rfl
theorem dX2_init_14 : decode cX2_init 14 = .ok (.putfield 15, 3) := dgrp_at dg_a_39 7 rfl
theorem dX2_init_17 : decode cX2_init 17 = .ok (.return_, 1) := dgrp_at dg_a_39 8 rfl
def dl_a_40 : List (Nat × Instr × Nat) := [(0, .iload_n 2, 1), (1, .iconst 1, 1), (2, .isub, 1), (3, .istore_n 3, 1), (4, .iload_n 3, 1), (5, .ifCond .lt 38, 3), (8, .aload_n 0, 1), (9, .getfield 9, 3), (12, .aload_n 0, 1), (13, .getfield 19, 3), (16, .iload_n 1, 1), (17, .bipush 8, 2), (19, .iload_n 3, 1), (20, .imul, 1), (21, .iushr, 1), (22, .sipush 255, 3), (25, .iand, 1), (26, .iastore, 1), (27, .aload_n 0, 1), (28, .dup, 1), (29, .getfield 19, 3), (32, .iconst 1, 1), (33, .iadd, 1), (34, .putfield 19, 3), (37, .iinc 3 (-1), 3), (40, .goto (-36), 3), (43, .aload_n 0, 1), (44, .getfield 19, 3), (47, .ireturn, 1)]
theorem dg_a_40 : dgrp cX2_append dl_a_40 = true := by decide +kernel
theorem dX2_append_0 : decode cX2_append 0 = .ok (.iload_n 2, 1) := dgrp_at dg_a_40 0 rfl
theorem dX2_append_1 : decode cX2_append 1 = .ok (.iconst 1, 1) := dgrp_at dg_a_40 1 rfl
theorem dX2_append_2 : decode cX2_append 2 = .ok (.isub, 1) := dgrp_at dg_a_40 2 rfl
theorem dX2_append_3 : decode cX2_append 3 = .ok (.istore_n 3, 1) := dgrp_at dg_a_40 3 rfl
theorem dX2_append_4 : decode cX2_append 4 = .ok (.iload_n 3, 1) := dgrp_at dg_a_40 4 rfl
theorem dX2_append_5 : decode cX2_append 5 = .ok (.ifCond .lt 38, 3) := dgrp_at dg_a_40 5 rfl
theorem dX2_append_8 : decode cX2_append 8 = .ok (.aload_n 0, 1) := dgrp_at dg_a_40 6 rfl
theorem dX2_append_9 : decode cX2_append 9 = .ok (.getfield 9, 3) := dgrp_at dg_a_40 7 rfl
theorem dX2_append_12 : decode cX2_append 12 = .ok (.aload_n 0, 1) := dgrp_at dg_a_40 8 rfl
theorem dX2_append_13 : decode cX2_append 13 = .ok (.getfield 19, 3) := dgrp_at dg_a_40 9 rfl
theorem dX2_append_16 : decode cX2_append 16 = .ok (.iload_n 1, 1) := dgrp_at dg_a_40 10 rfl
theorem dX2_append_17 : decode cX2_append 17 = .ok (.bipush 8, 2) := dgrp_at dg_a_40 11 rfl
theorem dX2_append_19 : decode cX2_append 19 = .ok (.iload_n 3, 1) := dgrp_at dg_a_40 12 rfl
theorem dX2_append_20 : decode cX2_append 20 = .ok (.imul, 1) := dgrp_at dg_a_40 13 rfl
theorem dX2_append_21 : decode cX2_append 21 = .ok (.iushr, 1) := dgrp_at dg_a_40 14 rfl
theorem dX2_append_22 : decode cX2_append 22 = .ok (.sipush 255, 3) := dgrp_at dg_a_40 15 rfl
theorem dX2_append_25 : decode cX2_append 25 = .ok (.iand, 1) := dgrp_at dg_a_40 16 rfl
theorem dX2_append_26 : decode cX2_append 26 = .ok (.iastore, 1) := dgrp_at dg_a_40 17 rfl
theorem dX2_append_27 : decode cX2_append 27 = .ok (.aload_n 0, 1) := dgrp_at dg_a_40 18 rfl
theorem dX2_append_28 : decode cX2_append 28 = .ok (.dup, 1) := dgrp_at dg_a_40 19 rfl
theorem dX2_append_29 : decode cX2_append 29 = .ok (.getfield 19, 3) := dgrp_at dg_a_40 20 rfl
theorem dX2_append_32 : decode cX2_append 32 = .ok (.iconst 1, 1) := dgrp_at dg_a_40 21 rfl
theorem dX2_append_33 : decode cX2_append 33 = .ok (.iadd, 1) := dgrp_at dg_a_40 22 rfl
theorem dX2_append_34 : decode cX2_append 34 = .ok (.putfield 19, 3) := dgrp_at dg_a_40 23 rfl
theorem dX2_append_37 : decode cX2_append 37 = .ok (.iinc 3 (-1), 3) := dgrp_at dg_a_40 24 rfl
theorem dX2_append_40 : decode cX2_append 40 = .ok (.goto (-36), 3) := dgrp_at dg_a_40 25 rfl
theorem dX2_append_43 : decode cX2_append 43 = .ok (.aload_n 0, 1) := dgrp_at dg_a_40 26 rfl
theorem dX2_append_44 : decode cX2_append 44 = .ok (.getfield 19, 3) := dgrp_at dg_a_40 27 rfl
theorem dX2_append_47 : decode cX2_append 47 = .ok (.ireturn, 1) := dgrp_at dg_a_40 28 rfl
def dl_a_41 : List (Nat × Instr × Nat) := [(0, .aload_n 0, 1), (1, .iload_n 1, 1), (2, .putfield 22, 3), (5, .aload_n 0, 1), (6, .iload_n 2, 1), (7, .putfield 25, 3), (10, .aload_n 0, 1), (11, .iconst 0, 1), (12, .putfield 28, 3), (15, .aload_n 0, 1), (16, .iconst (-1), 1), (17, .putfield 15, 3), (20, .aload_n 0, 1), (21, .iconst 0, 1), (22, .invokevirtual 31, 3), (25, .lstore_n 3, 1), (26, .aload_n 0, 1), (27, .getfield 28, 3), (30, .aload_n 0, 1), (31, .getfield 19, 3), (34, .if_icmp .ge 8, 3), (37, .aload_n 0, 1), (38, .invokevirtual 35, 3), (41, .pop2, 1), (42, .lload_n 3, 1), (43, .lreturn, 1)]
theorem dg_a_41 : dgrp cX2_holdsBy dl_a_41 = true := by decide +kernel
theorem dX2_holdsBy_0 : decode cX2_holdsBy 0 = .ok (.aload_n 0, 1) := dgrp_at dg_a_41 0 rfl
theorem dX2_holdsBy_1 : decode cX2_holdsBy 1 = .ok (.iload_n 1, 1) := dgrp_at dg_a_41 1 rfl
theorem dX2_holdsBy_2 : decode cX2_holdsBy 2 = .ok (.putfield 22, 3) := dgrp_at dg_a_41 2 rfl
theorem dX2_holdsBy_5 : decode cX2_holdsBy 5 = .ok (.aload_n 0, 1) := dgrp_at dg_a_41 3 rfl
theorem dX2_holdsBy_6 : decode cX2_holdsBy 6 = .ok (.iload_n 2, 1) := dgrp_at dg_a_41 4 rfl
theorem dX2_holdsBy_7 : decode cX2_holdsBy 7 = .ok (.putfield 25, 3) := dgrp_at dg_a_41 5 rfl
theorem dX2_holdsBy_10 : decode cX2_holdsBy 10 = .ok (.aload_n 0, 1) := dgrp_at dg_a_41 6 rfl
theorem dX2_holdsBy_11 : decode cX2_holdsBy 11 = .ok (.iconst 0, 1) := dgrp_at dg_a_41 7 rfl
theorem dX2_holdsBy_12 : decode cX2_holdsBy 12 = .ok (.putfield 28, 3) := dgrp_at dg_a_41 8 rfl
theorem dX2_holdsBy_15 : decode cX2_holdsBy 15 = .ok (.aload_n 0, 1) := dgrp_at dg_a_41 9 rfl
theorem dX2_holdsBy_16 : decode cX2_holdsBy 16 = .ok (.iconst (-1), 1) := dgrp_at dg_a_41 10 rfl
theorem dX2_holdsBy_17 : decode cX2_holdsBy 17 = .ok (.putfield 15, 3) := dgrp_at dg_a_41 11 rfl
theorem dX2_holdsBy_20 : decode cX2_holdsBy 20 = .ok (.aload_n 0, 1) := dgrp_at dg_a_41 12 rfl
theorem dX2_holdsBy_21 : decode cX2_holdsBy 21 = .ok (.iconst 0, 1) := dgrp_at dg_a_41 13 rfl
theorem dX2_holdsBy_22 : decode cX2_holdsBy 22 = .ok (.invokevirtual 31, 3) := dgrp_at dg_a_41 14 rfl
theorem dX2_holdsBy_25 : decode cX2_holdsBy 25 = .ok (.lstore_n 3, 1) := dgrp_at dg_a_41 15 rfl
theorem dX2_holdsBy_26 : decode cX2_holdsBy 26 = .ok (.aload_n 0, 1) := dgrp_at dg_a_41 16 rfl
theorem dX2_holdsBy_27 : decode cX2_holdsBy 27 = .ok (.getfield 28, 3) := dgrp_at dg_a_41 17 rfl
theorem dX2_holdsBy_30 : decode cX2_holdsBy 30 = .ok (.aload_n 0, 1) := dgrp_at dg_a_41 18 rfl
theorem dX2_holdsBy_31 : decode cX2_holdsBy 31 = .ok (.getfield 19, 3) := dgrp_at dg_a_41 19 rfl
theorem dX2_holdsBy_34 : decode cX2_holdsBy 34 = .ok (.if_icmp .ge 8, 3) := dgrp_at dg_a_41 20 rfl
theorem dX2_holdsBy_37 : decode cX2_holdsBy 37 = .ok (.aload_n 0, 1) := dgrp_at dg_a_41 21 rfl
theorem dX2_holdsBy_38 : decode cX2_holdsBy 38 = .ok (.invokevirtual 35, 3) := dgrp_at dg_a_41 22 rfl
theorem dX2_holdsBy_41 : decode cX2_holdsBy 41 = .ok (.pop2, 1) := dgrp_at dg_a_41 23 rfl
theorem dX2_holdsBy_42 : decode cX2_holdsBy 42 = .ok (.lload_n 3, 1) := dgrp_at dg_a_41 24 rfl
theorem dX2_holdsBy_43 : decode cX2_holdsBy 43 = .ok (.lreturn, 1) := dgrp_at dg_a_41 25 rfl
def dl_a_42 : List (Nat × Instr × Nat) := [(0, .aload_n 0, 1), (1, .iload_n 1, 1), (2, .invokevirtual 39, 3), (5, .lstore_n 2, 1), (6, .iconst 0, 1), (7, .istore 4, 2), (9, .iload 4, 2), (11, .bipush 60, 2), (13, .if_icmp .ge 26, 3), (16, .aload_n 0, 1), (17, .bipush 124, 2), (19, .invokevirtual 42, 3), (22, .ifCond .eq 17, 3), (25, .lload_n 2, 1), (26, .aload_n 0, 1), (27, .iload_n 1, 1), (28, .invokevirtual 39, 3), (31, .lor, 1), (32, .lstore_n 2, 1), (33, .iinc 4 1, 3), (36, .goto (-27), 3), (39, .lload_n 2, 1), (40, .lreturn, 1)]
theorem dg_a_42 : dgrp cX2_anyOf dl_a_42 = true := by decide +kernel
theorem dX2_anyOf_0 : decode cX2_anyOf 0 = .ok (.aload_n 0, 1) := dgrp_at dg_a_42 0 rfl
theorem dX2_anyOf_1 : decode cX2_anyOf 1 = .ok (.iload_n 1, 1) := dgrp_at dg_a_42 1 rfl
theorem dX2_anyOf_2 : decode cX2_anyOf 2 = .ok (.invokevirtual 39, 3) := dgrp_at dg_a_42 2 rfl
theorem dX2_anyOf_5 : decode cX2_anyOf 5 = .ok (.lstore_n 2, 1) := dgrp_at dg_a_42 3 rfl
theorem dX2_anyOf_6 : decode cX2_anyOf 6 = .ok (.iconst 0, 1) := dgrp_at dg_a_42 4 rfl
theorem dX2_anyOf_7 : decode cX2_anyOf 7 = .ok (.istore 4, 2) := dgrp_at dg_a_42 5 rfl
theorem dX2_anyOf_9 : decode cX2_anyOf 9 = .ok (.iload 4, 2) := dgrp_at dg_a_42 6 rfl
theorem dX2_anyOf_11 : decode cX2_anyOf 11 = .ok (.bipush 60, 2) := dgrp_at dg_a_42 7 rfl
theorem dX2_anyOf_13 : decode cX2_anyOf 13 = .ok (.if_icmp .ge 26, 3) := dgrp_at dg_a_42 8 rfl
theorem dX2_anyOf_16 : decode cX2_anyOf 16 = .ok (.aload_n 0, 1) := dgrp_at dg_a_42 9 rfl
theorem dX2_anyOf_17 : decode cX2_anyOf 17 = .ok (.bipush 124, 2) := dgrp_at dg_a_42 10 rfl
theorem dX2_anyOf_19 : decode cX2_anyOf 19 = .ok (.invokevirtual 42, 3) := dgrp_at dg_a_42 11 rfl
theorem dX2_anyOf_22 : decode cX2_anyOf 22 = .ok (.ifCond .eq 17, 3) := dgrp_at dg_a_42 12 rfl
theorem dX2_anyOf_25 : decode cX2_anyOf 25 = .ok (.lload_n 2, 1) := dgrp_at dg_a_42 13 rfl
theorem dX2_anyOf_26 : decode cX2_anyOf 26 = .ok (.aload_n 0, 1) := dgrp_at dg_a_42 14 rfl
theorem dX2_anyOf_27 : decode cX2_anyOf 27 = .ok (.iload_n 1, 1) := dgrp_at dg_a_42 15 rfl
theorem dX2_anyOf_28 : decode cX2_anyOf 28 = .ok (.invokevirtual 39, 3) := dgrp_at dg_a_42 16 rfl
theorem dX2_anyOf_31 : decode cX2_anyOf 31 = .ok (.lor, 1) := dgrp_at dg_a_42 17 rfl
theorem dX2_anyOf_32 : decode cX2_anyOf 32 = .ok (.lstore_n 2, 1) := dgrp_at dg_a_42 18 rfl
theorem dX2_anyOf_33 : decode cX2_anyOf 33 = .ok (.iinc 4 1, 3) := dgrp_at dg_a_42 19 rfl
theorem dX2_anyOf_36 : decode cX2_anyOf 36 = .ok (.goto (-27), 3) := dgrp_at dg_a_42 20 rfl
theorem dX2_anyOf_39 : decode cX2_anyOf 39 = .ok (.lload_n 2, 1) := dgrp_at dg_a_42 21 rfl
theorem dX2_anyOf_40 : decode cX2_anyOf 40 = .ok (.lreturn, 1) := dgrp_at dg_a_42 22 rfl
def dl_a_43 : List (Nat × Instr × Nat) := [(0, .aload_n 0, 1), (1, .iload_n 1, 1), (2, .invokevirtual 46, 3), (5, .lstore_n 2, 1), (6, .iconst 0, 1), (7, .istore 4, 2), (9, .iload 4, 2), (11, .bipush 60, 2), (13, .if_icmp .ge 26, 3), (16, .aload_n 0, 1), (17, .bipush 38, 2), (19, .invokevirtual 42, 3), (22, .ifCond .eq 17, 3), (25, .lload_n 2, 1), (26, .aload_n 0, 1), (27, .iload_n 1, 1), (28, .invokevirtual 46, 3), (31, .land, 1), (32, .lstore_n 2, 1), (33, .iinc 4 1, 3), (36, .goto (-27), 3), (39, .lload_n 2, 1), (40, .lreturn, 1)]
theorem dg_a_43 : dgrp cX2_allOf dl_a_43 = true := by decide +kernel
theorem dX2_allOf_0 : decode cX2_allOf 0 = .ok (.aload_n 0, 1) := dgrp_at dg_a_43 0 rfl
theorem dX2_allOf_1 : decode cX2_allOf 1 = .ok (.iload_n 1, 1) := dgrp_at dg_a_43 1 rfl
theorem dX2_allOf_2 : decode cX2_allOf 2 = .ok (.invokevirtual 46, 3) := dgrp_at dg_a_43 2 rfl
theorem dX2_allOf_5 : decode cX2_allOf 5 = .ok (.lstore_n 2, 1) := dgrp_at dg_a_43 3 rfl
theorem dX2_allOf_6 : decode cX2_allOf 6 = .ok (.iconst 0, 1) := dgrp_at dg_a_43 4 rfl
theorem dX2_allOf_7 : decode cX2_allOf 7 = .ok (.istore 4, 2) := dgrp_at dg_a_43 5 rfl
theorem dX2_allOf_9 : decode cX2_allOf 9 = .ok (.iload 4, 2) := dgrp_at dg_a_43 6 rfl
theorem dX2_allOf_11 : decode cX2_allOf 11 = .ok (.bipush 60, 2) := dgrp_at dg_a_43 7 rfl
theorem dX2_allOf_13 : decode cX2_allOf 13 = .ok (.if_icmp .ge 26, 3) := dgrp_at dg_a_43 8 rfl
theorem dX2_allOf_16 : decode cX2_allOf 16 = .ok (.aload_n 0, 1) := dgrp_at dg_a_43 9 rfl
theorem dX2_allOf_17 : decode cX2_allOf 17 = .ok (.bipush 38, 2) := dgrp_at dg_a_43 10 rfl
theorem dX2_allOf_19 : decode cX2_allOf 19 = .ok (.invokevirtual 42, 3) := dgrp_at dg_a_43 11 rfl
theorem dX2_allOf_22 : decode cX2_allOf 22 = .ok (.ifCond .eq 17, 3) := dgrp_at dg_a_43 12 rfl
theorem dX2_allOf_25 : decode cX2_allOf 25 = .ok (.lload_n 2, 1) := dgrp_at dg_a_43 13 rfl
theorem dX2_allOf_26 : decode cX2_allOf 26 = .ok (.aload_n 0, 1) := dgrp_at dg_a_43 14 rfl
theorem dX2_allOf_27 : decode cX2_allOf 27 = .ok (.iload_n 1, 1) := dgrp_at dg_a_43 15 rfl
theorem dX2_allOf_28 : decode cX2_allOf 28 = .ok (.invokevirtual 46, 3) := dgrp_at dg_a_43 16 rfl
theorem dX2_allOf_31 : decode cX2_allOf 31 = .ok (.land, 1) := dgrp_at dg_a_43 17 rfl
theorem dX2_allOf_32 : decode cX2_allOf 32 = .ok (.lstore_n 2, 1) := dgrp_at dg_a_43 18 rfl
theorem dX2_allOf_33 : decode cX2_allOf 33 = .ok (.iinc 4 1, 3) := dgrp_at dg_a_43 19 rfl
theorem dX2_allOf_36 : decode cX2_allOf 36 = .ok (.goto (-27), 3) := dgrp_at dg_a_43 20 rfl
theorem dX2_allOf_39 : decode cX2_allOf 39 = .ok (.lload_n 2, 1) := dgrp_at dg_a_43 21 rfl
theorem dX2_allOf_40 : decode cX2_allOf 40 = .ok (.lreturn, 1) := dgrp_at dg_a_43 22 rfl
def dl_a_44 : List (Nat × Instr × Nat) := [(0, .aload_n 0, 1), (1, .invokevirtual 49, 3), (4, .istore_n 2, 1), (5, .iload_n 2, 1), (6, .bipush 97, 2), (8, .if_icmp .lt 28, 3), (11, .iload_n 2, 1), (12, .bipush 104, 2), (14, .if_icmp .gt 22, 3), (17, .aload_n 0, 1), (18, .dup, 1), (19, .getfield 28, 3), (22, .iconst 1, 1), (23, .iadd, 1), (24, .putfield 28, 3), (27, .aload_n 0, 1), (28, .iload_n 2, 1), (29, .bipush 97, 2), (31, .isub, 1), (32, .invokevirtual 53, 3), (35, .lreturn, 1), (36, .iload_n 1, 1), (37, .bipush 6, 2), (39, .if_icmp .ge 24, 3), (42, .aload_n 0, 1), (43, .bipush 33, 2), (45, .invokevirtual 42, 3), (48, .ifCond .eq 15, 3), (51, .aload_n 0, 1), (52, .iload_n 1, 1), (53, .iconst 1, 1), (54, .iadd, 1)]
theorem dg_a_44 : dgrp cX2_unit dl_a_44 = true := by decide +kernel
theorem dX2_unit_0 : decode cX2_unit 0 = .ok (.aload_n 0, 1) := dgrp_at dg_a_44 0 rfl
theorem dX2_unit_1 : decode cX2_unit 1 = .ok (.invokevirtual 49, 3) := dgrp_at dg_a_44 1 rfl
theorem dX2_unit_4 : decode cX2_unit 4 = .ok (.istore_n 2, 1) := dgrp_at dg_a_44 2 rfl
theorem dX2_unit_5 : decode cX2_unit 5 = .ok (.iload_n 2, 1) := dgrp_at dg_a_44 3 rfl
theorem dX2_unit_6 : decode cX2_unit 6 = .ok (.bipush 97, 2) := dgrp_at dg_a_44 4 rfl
theorem dX2_unit_8 : decode cX2_unit 8 = .ok (.if_icmp .lt 28, 3) := dgrp_at dg_a_44 5 rfl
theorem dX2_unit_11 : decode cX2_unit 11 = .ok (.iload_n 2, 1) := dgrp_at dg_a_44 6 rfl
theorem dX2_unit_12 : decode cX2_unit 12 = .ok (.bipush 104, 2) := dgrp_at dg_a_44 7 rfl
theorem dX2_unit_14 : decode cX2_unit 14 = .ok (.if_icmp .gt 22, 3) := dgrp_at dg_a_44 8 rfl
theorem dX2_unit_17 : decode cX2_unit 17 = .ok (.aload_n 0, 1) := dgrp_at dg_a_44 9 rfl
theorem dX2_unit_18 : decode cX2_unit 18 = .ok (.dup, 1) := dgrp_at dg_a_44 10 rfl
theorem dX2_unit_19 : decode cX2_unit 19 = .ok (.getfield 28, 3) := dgrp_at dg_a_44 11 rfl
theorem dX2_unit_22 : decode cX2_unit 22 = .ok (.iconst 1, 1) := dgrp_at dg_a_44 12 rfl
theorem dX2_unit_23 : decode cX2_unit 23 = .ok (.iadd, 1) := dgrp_at dg_a_44 13 rfl
theorem dX2_unit_24 : decode cX2_unit 24 = .ok (.putfield 28, 3) := dgrp_at dg_a_44 14 rfl
theorem dX2_unit_27 : decode cX2_unit 27 = .ok (.aload_n 0, 1) := dgrp_at dg_a_44 15 rfl
theorem dX2_unit_28 : decode cX2_unit 28 = .ok (.iload_n 2, 1) := dgrp_at dg_a_44 16 rfl
theorem dX2_unit_29 : decode cX2_unit 29 = .ok (.bipush 97, 2) := dgrp_at dg_a_44 17 rfl
theorem dX2_unit_31 : decode cX2_unit 31 = .ok (.isub, 1) := dgrp_at dg_a_44 18 rfl
theorem dX2_unit_32 : decode cX2_unit 32 = .ok (.invokevirtual 53, 3) := dgrp_at dg_a_44 19 rfl
theorem dX2_unit_35 : decode cX2_unit 35 = .ok (.lreturn, 1) := dgrp_at dg_a_44 20 rfl
theorem dX2_unit_36 : decode cX2_unit 36 = .ok (.iload_n 1, 1) := dgrp_at dg_a_44 21 rfl
theorem dX2_unit_37 : decode cX2_unit 37 = .ok (.bipush 6, 2) := dgrp_at dg_a_44 22 rfl
theorem dX2_unit_39 : decode cX2_unit 39 = .ok (.if_icmp .ge 24, 3) := dgrp_at dg_a_44 23 rfl
theorem dX2_unit_42 : decode cX2_unit 42 = .ok (.aload_n 0, 1) := dgrp_at dg_a_44 24 rfl
theorem dX2_unit_43 : decode cX2_unit 43 = .ok (.bipush 33, 2) := dgrp_at dg_a_44 25 rfl
theorem dX2_unit_45 : decode cX2_unit 45 = .ok (.invokevirtual 42, 3) := dgrp_at dg_a_44 26 rfl
theorem dX2_unit_48 : decode cX2_unit 48 = .ok (.ifCond .eq 15, 3) := dgrp_at dg_a_44 27 rfl
theorem dX2_unit_51 : decode cX2_unit 51 = .ok (.aload_n 0, 1) := dgrp_at dg_a_44 28 rfl
theorem dX2_unit_52 : decode cX2_unit 52 = .ok (.iload_n 1, 1) := dgrp_at dg_a_44 29 rfl
theorem dX2_unit_53 : decode cX2_unit 53 = .ok (.iconst 1, 1) := dgrp_at dg_a_44 30 rfl
theorem dX2_unit_54 : decode cX2_unit 54 = .ok (.iadd, 1) := dgrp_at dg_a_44 31 rfl
def dl_a_45 : List (Nat × Instr × Nat) := [(55, .invokevirtual 46, 3), (58, .ldc2_w 56, 3), (61, .lxor, 1), (62, .lreturn, 1), (63, .iload_n 1, 1), (64, .bipush 6, 2), (66, .if_icmp .ge 24, 3), (69, .aload_n 0, 1), (70, .bipush 40, 2), (72, .invokevirtual 42, 3), (75, .ifCond .eq 15, 3), (78, .aload_n 0, 1), (79, .aload_n 0, 1), (80, .iload_n 1, 1), (81, .iconst 1, 1), (82, .iadd, 1), (83, .invokevirtual 31, 3), (86, .invokevirtual 58, 3), (89, .lreturn, 1), (90, .aload_n 0, 1), (91, .bipush 110, 2), (93, .invokevirtual 42, 3), (96, .ifCond .eq 8, 3), (99, .aload_n 0, 1), (100, .invokevirtual 62, 3), (103, .lreturn, 1), (104, .aload_n 0, 1), (105, .bipush 49, 2), (107, .invokevirtual 42, 3), (110, .ifCond .eq 7, 3), (113, .ldc2_w 56, 3), (116, .lreturn, 1)]
theorem dg_a_45 : dgrp cX2_unit dl_a_45 = true := by decide +kernel
theorem dX2_unit_55 : decode cX2_unit 55 = .ok (.invokevirtual 46, 3) := dgrp_at dg_a_45 0 rfl
theorem dX2_unit_58 : decode cX2_unit 58 = .ok (.ldc2_w 56, 3) := dgrp_at dg_a_45 1 rfl
theorem dX2_unit_61 : decode cX2_unit 61 = .ok (.lxor, 1) := dgrp_at dg_a_45 2 rfl
theorem dX2_unit_62 : decode cX2_unit 62 = .ok (.lreturn, 1) := dgrp_at dg_a_45 3 rfl
theorem dX2_unit_63 : decode cX2_unit 63 = .ok (.iload_n 1, 1) := dgrp_at dg_a_45 4 rfl
theorem dX2_unit_64 : decode cX2_unit 64 = .ok (.bipush 6, 2) := dgrp_at dg_a_45 5 rfl
theorem dX2_unit_66 : decode cX2_unit 66 = .ok (.if_icmp .ge 24, 3) := dgrp_at dg_a_45 6 rfl
theorem dX2_unit_69 : decode cX2_unit 69 = .ok (.aload_n 0, 1) := dgrp_at dg_a_45 7 rfl
theorem dX2_unit_70 : decode cX2_unit 70 = .ok (.bipush 40, 2) := dgrp_at dg_a_45 8 rfl
theorem dX2_unit_72 : decode cX2_unit 72 = .ok (.invokevirtual 42, 3) := dgrp_at dg_a_45 9 rfl
theorem dX2_unit_75 : decode cX2_unit 75 = .ok (.ifCond .eq 15, 3) := dgrp_at dg_a_45 10 rfl
theorem dX2_unit_78 : decode cX2_unit 78 = .ok (.aload_n 0, 1) := dgrp_at dg_a_45 11 rfl
theorem dX2_unit_79 : decode cX2_unit 79 = .ok (.aload_n 0, 1) := dgrp_at dg_a_45 12 rfl
theorem dX2_unit_80 : decode cX2_unit 80 = .ok (.iload_n 1, 1) := dgrp_at dg_a_45 13 rfl
theorem dX2_unit_81 : decode cX2_unit 81 = .ok (.iconst 1, 1) := dgrp_at dg_a_45 14 rfl
theorem dX2_unit_82 : decode cX2_unit 82 = .ok (.iadd, 1) := dgrp_at dg_a_45 15 rfl
theorem dX2_unit_83 : decode cX2_unit 83 = .ok (.invokevirtual 31, 3) := dgrp_at dg_a_45 16 rfl
theorem dX2_unit_86 : decode cX2_unit 86 = .ok (.invokevirtual 58, 3) := dgrp_at dg_a_45 17 rfl
theorem dX2_unit_89 : decode cX2_unit 89 = .ok (.lreturn, 1) := dgrp_at dg_a_45 18 rfl
theorem dX2_unit_90 : decode cX2_unit 90 = .ok (.aload_n 0, 1) := dgrp_at dg_a_45 19 rfl
theorem dX2_unit_91 : decode cX2_unit 91 = .ok (.bipush 110, 2) := dgrp_at dg_a_45 20 rfl
theorem dX2_unit_93 : decode cX2_unit 93 = .ok (.invokevirtual 42, 3) := dgrp_at dg_a_45 21 rfl
theorem dX2_unit_96 : decode cX2_unit 96 = .ok (.ifCond .eq 8, 3) := dgrp_at dg_a_45 22 rfl
theorem dX2_unit_99 : decode cX2_unit 99 = .ok (.aload_n 0, 1) := dgrp_at dg_a_45 23 rfl
theorem dX2_unit_100 : decode cX2_unit 100 = .ok (.invokevirtual 62, 3) := dgrp_at dg_a_45 24 rfl
theorem dX2_unit_103 : decode cX2_unit 103 = .ok (.lreturn, 1) := dgrp_at dg_a_45 25 rfl
theorem dX2_unit_104 : decode cX2_unit 104 = .ok (.aload_n 0, 1) := dgrp_at dg_a_45 26 rfl
theorem dX2_unit_105 : decode cX2_unit 105 = .ok (.bipush 49, 2) := dgrp_at dg_a_45 27 rfl
theorem dX2_unit_107 : decode cX2_unit 107 = .ok (.invokevirtual 42, 3) := dgrp_at dg_a_45 28 rfl
theorem dX2_unit_110 : decode cX2_unit 110 = .ok (.ifCond .eq 7, 3) := dgrp_at dg_a_45 29 rfl
theorem dX2_unit_113 : decode cX2_unit 113 = .ok (.ldc2_w 56, 3) := dgrp_at dg_a_45 30 rfl
theorem dX2_unit_116 : decode cX2_unit 116 = .ok (.lreturn, 1) := dgrp_at dg_a_45 31 rfl
def dl_a_46 : List (Nat × Instr × Nat) := [(117, .aload_n 0, 1), (118, .bipush 48, 2), (120, .invokevirtual 42, 3), (123, .ifCond .eq 7, 3), (126, .lconst 0, 1), (127, .goto 7, 3), (130, .aload_n 0, 1), (131, .invokevirtual 35, 3), (134, .lreturn, 1)]
theorem dg_a_46 : dgrp cX2_unit dl_a_46 = true := by decide +kernel
theorem dX2_unit_117 : decode cX2_unit 117 = .ok (.aload_n 0, 1) := dgrp_at dg_a_46 0 rfl
theorem dX2_unit_118 : decode cX2_unit 118 = .ok (.bipush 48, 2) := dgrp_at dg_a_46 1 rfl
theorem dX2_unit_120 : decode cX2_unit 120 = .ok (.invokevirtual 42, 3) := dgrp_at dg_a_46 2 rfl
theorem dX2_unit_123 : decode cX2_unit 123 = .ok (.ifCond .eq 7, 3) := dgrp_at dg_a_46 3 rfl
theorem dX2_unit_126 : decode cX2_unit 126 = .ok (.lconst 0, 1) := dgrp_at dg_a_46 4 rfl
theorem dX2_unit_127 : decode cX2_unit 127 = .ok (.goto 7, 3) := dgrp_at dg_a_46 5 rfl
theorem dX2_unit_130 : decode cX2_unit 130 = .ok (.aload_n 0, 1) := dgrp_at dg_a_46 6 rfl
theorem dX2_unit_131 : decode cX2_unit 131 = .ok (.invokevirtual 35, 3) := dgrp_at dg_a_46 7 rfl
theorem dX2_unit_134 : decode cX2_unit 134 = .ok (.lreturn, 1) := dgrp_at dg_a_46 8 rfl
def dl_a_47 : List (Nat × Instr × Nat) := [(0, .aload_n 0, 1), (1, .bipush 41, 2), (3, .invokevirtual 42, 3), (6, .ifCond .eq 7, 3), (9, .lload_n 1, 1), (10, .goto 7, 3), (13, .aload_n 0, 1), (14, .invokevirtual 35, 3), (17, .lreturn, 1)]
theorem dg_a_47 : dgrp cX2_closed dl_a_47 = true := by decide +kernel
theorem dX2_closed_0 : decode cX2_closed 0 = .ok (.aload_n 0, 1) := dgrp_at dg_a_47 0 rfl
theorem dX2_closed_1 : decode cX2_closed 1 = .ok (.bipush 41, 2) := dgrp_at dg_a_47 1 rfl
theorem dX2_closed_3 : decode cX2_closed 3 = .ok (.invokevirtual 42, 3) := dgrp_at dg_a_47 2 rfl
theorem dX2_closed_6 : decode cX2_closed 6 = .ok (.ifCond .eq 7, 3) := dgrp_at dg_a_47 3 rfl
theorem dX2_closed_9 : decode cX2_closed 9 = .ok (.lload_n 1, 1) := dgrp_at dg_a_47 4 rfl
theorem dX2_closed_10 : decode cX2_closed 10 = .ok (.goto 7, 3) := dgrp_at dg_a_47 5 rfl
theorem dX2_closed_13 : decode cX2_closed 13 = .ok (.aload_n 0, 1) := dgrp_at dg_a_47 6 rfl
theorem dX2_closed_14 : decode cX2_closed 14 = .ok (.invokevirtual 35, 3) := dgrp_at dg_a_47 7 rfl
theorem dX2_closed_17 : decode cX2_closed 17 = .ok (.lreturn, 1) := dgrp_at dg_a_47 8 rfl
def dl_a_48 : List (Nat × Instr × Nat) := [(0, .aload_n 0, 1), (1, .invokevirtual 49, 3), (4, .istore_n 1, 1), (5, .iload_n 1, 1), (6, .bipush 60, 2), (8, .if_icmp .eq 20, 3), (11, .iload_n 1, 1), (12, .bipush 61, 2), (14, .if_icmp .eq 14, 3), (17, .iload_n 1, 1), (18, .bipush 62, 2), (20, .if_icmp .eq 8, 3), (23, .aload_n 0, 1), (24, .invokevirtual 35, 3), (27, .lreturn, 1), (28, .aload_n 0, 1), (29, .dup, 1), (30, .getfield 28, 3), (33, .iconst 1, 1), (34, .iadd, 1), (35, .putfield 28, 3), (38, .aload_n 0, 1), (39, .invokevirtual 49, 3), (42, .istore_n 2, 1), (43, .iload_n 2, 1), (44, .bipush 48, 2), (46, .if_icmp .lt 9, 3), (49, .iload_n 2, 1), (50, .bipush 57, 2), (52, .if_icmp .le 8, 3), (55, .aload_n 0, 1), (56, .invokevirtual 35, 3)]
theorem dg_a_48 : dgrp cX2_compared dl_a_48 = true := by decide +kernel
theorem dX2_compared_0 : decode cX2_compared 0 = .ok (.aload_n 0, 1) := dgrp_at dg_a_48 0 rfl
theorem dX2_compared_1 : decode cX2_compared 1 = .ok (.invokevirtual 49, 3) := dgrp_at dg_a_48 1 rfl
theorem dX2_compared_4 : decode cX2_compared 4 = .ok (.istore_n 1, 1) := dgrp_at dg_a_48 2 rfl
theorem dX2_compared_5 : decode cX2_compared 5 = .ok (.iload_n 1, 1) := dgrp_at dg_a_48 3 rfl
theorem dX2_compared_6 : decode cX2_compared 6 = .ok (.bipush 60, 2) := dgrp_at dg_a_48 4 rfl
theorem dX2_compared_8 : decode cX2_compared 8 = .ok (.if_icmp .eq 20, 3) := dgrp_at dg_a_48 5 rfl
theorem dX2_compared_11 : decode cX2_compared 11 = .ok (.iload_n 1, 1) := dgrp_at dg_a_48 6 rfl
theorem dX2_compared_12 : decode cX2_compared 12 = .ok (.bipush 61, 2) := dgrp_at dg_a_48 7 rfl
theorem dX2_compared_14 : decode cX2_compared 14 = .ok (.if_icmp .eq 14, 3) := dgrp_at dg_a_48 8 rfl
theorem dX2_compared_17 : decode cX2_compared 17 = .ok (.iload_n 1, 1) := dgrp_at dg_a_48 9 rfl
theorem dX2_compared_18 : decode cX2_compared 18 = .ok (.bipush 62, 2) := dgrp_at dg_a_48 10 rfl
theorem dX2_compared_20 : decode cX2_compared 20 = .ok (.if_icmp .eq 8, 3) := dgrp_at dg_a_48 11 rfl
theorem dX2_compared_23 : decode cX2_compared 23 = .ok (.aload_n 0, 1) := dgrp_at dg_a_48 12 rfl
theorem dX2_compared_24 : decode cX2_compared 24 = .ok (.invokevirtual 35, 3) := dgrp_at dg_a_48 13 rfl
theorem dX2_compared_27 : decode cX2_compared 27 = .ok (.lreturn, 1) := dgrp_at dg_a_48 14 rfl
theorem dX2_compared_28 : decode cX2_compared 28 = .ok (.aload_n 0, 1) := dgrp_at dg_a_48 15 rfl
theorem dX2_compared_29 : decode cX2_compared 29 = .ok (.dup, 1) := dgrp_at dg_a_48 16 rfl
theorem dX2_compared_30 : decode cX2_compared 30 = .ok (.getfield 28, 3) := dgrp_at dg_a_48 17 rfl
theorem dX2_compared_33 : decode cX2_compared 33 = .ok (.iconst 1, 1) := dgrp_at dg_a_48 18 rfl
theorem dX2_compared_34 : decode cX2_compared 34 = .ok (.iadd, 1) := dgrp_at dg_a_48 19 rfl
theorem dX2_compared_35 : decode cX2_compared 35 = .ok (.putfield 28, 3) := dgrp_at dg_a_48 20 rfl
theorem dX2_compared_38 : decode cX2_compared 38 = .ok (.aload_n 0, 1) := dgrp_at dg_a_48 21 rfl
theorem dX2_compared_39 : decode cX2_compared 39 = .ok (.invokevirtual 49, 3) := dgrp_at dg_a_48 22 rfl
theorem dX2_compared_42 : decode cX2_compared 42 = .ok (.istore_n 2, 1) := dgrp_at dg_a_48 23 rfl
theorem dX2_compared_43 : decode cX2_compared 43 = .ok (.iload_n 2, 1) := dgrp_at dg_a_48 24 rfl
theorem dX2_compared_44 : decode cX2_compared 44 = .ok (.bipush 48, 2) := dgrp_at dg_a_48 25 rfl
theorem dX2_compared_46 : decode cX2_compared 46 = .ok (.if_icmp .lt 9, 3) := dgrp_at dg_a_48 26 rfl
theorem dX2_compared_49 : decode cX2_compared 49 = .ok (.iload_n 2, 1) := dgrp_at dg_a_48 27 rfl
theorem dX2_compared_50 : decode cX2_compared 50 = .ok (.bipush 57, 2) := dgrp_at dg_a_48 28 rfl
theorem dX2_compared_52 : decode cX2_compared 52 = .ok (.if_icmp .le 8, 3) := dgrp_at dg_a_48 29 rfl
theorem dX2_compared_55 : decode cX2_compared 55 = .ok (.aload_n 0, 1) := dgrp_at dg_a_48 30 rfl
theorem dX2_compared_56 : decode cX2_compared 56 = .ok (.invokevirtual 35, 3) := dgrp_at dg_a_48 31 rfl
def dl_a_49 : List (Nat × Instr × Nat) := [(59, .lreturn, 1), (60, .aload_n 0, 1), (61, .dup, 1), (62, .getfield 28, 3), (65, .iconst 1, 1), (66, .iadd, 1), (67, .putfield 28, 3), (70, .aload_n 0, 1), (71, .iload_n 1, 1), (72, .iload_n 2, 1), (73, .bipush 48, 2), (75, .isub, 1), (76, .invokevirtual 65, 3), (79, .lreturn, 1)]
theorem dg_a_49 : dgrp cX2_compared dl_a_49 = true := by decide +kernel
theorem dX2_compared_59 : decode cX2_compared 59 = .ok (.lreturn, 1) := dgrp_at dg_a_49 0 rfl
theorem dX2_compared_60 : decode cX2_compared 60 = .ok (.aload_n 0, 1) := dgrp_at dg_a_49 1 rfl
theorem dX2_compared_61 : decode cX2_compared 61 = .ok (.dup, 1) := dgrp_at dg_a_49 2 rfl
theorem dX2_compared_62 : decode cX2_compared 62 = .ok (.getfield 28, 3) := dgrp_at dg_a_49 3 rfl
theorem dX2_compared_65 : decode cX2_compared 65 = .ok (.iconst 1, 1) := dgrp_at dg_a_49 4 rfl
theorem dX2_compared_66 : decode cX2_compared 66 = .ok (.iadd, 1) := dgrp_at dg_a_49 5 rfl
theorem dX2_compared_67 : decode cX2_compared 67 = .ok (.putfield 28, 3) := dgrp_at dg_a_49 6 rfl
theorem dX2_compared_70 : decode cX2_compared 70 = .ok (.aload_n 0, 1) := dgrp_at dg_a_49 7 rfl
theorem dX2_compared_71 : decode cX2_compared 71 = .ok (.iload_n 1, 1) := dgrp_at dg_a_49 8 rfl
theorem dX2_compared_72 : decode cX2_compared 72 = .ok (.iload_n 2, 1) := dgrp_at dg_a_49 9 rfl
theorem dX2_compared_73 : decode cX2_compared 73 = .ok (.bipush 48, 2) := dgrp_at dg_a_49 10 rfl
theorem dX2_compared_75 : decode cX2_compared 75 = .ok (.isub, 1) := dgrp_at dg_a_49 11 rfl
theorem dX2_compared_76 : decode cX2_compared 76 = .ok (.invokevirtual 65, 3) := dgrp_at dg_a_49 12 rfl
theorem dX2_compared_79 : decode cX2_compared 79 = .ok (.lreturn, 1) := dgrp_at dg_a_49 13 rfl
def dl_a_50 : List (Nat × Instr × Nat) := [(0, .iload_n 1, 1), (1, .getstatic 69, 3), (4, .arraylength, 1), (5, .if_icmp .ge 9, 3), (8, .getstatic 69, 3), (11, .iload_n 1, 1), (12, .laload, 1), (13, .lreturn, 1), (14, .iload_n 1, 1), (15, .getstatic 69, 3), (18, .arraylength, 1), (19, .isub, 1), (20, .aload_n 0, 1), (21, .getfield 25, 3), (24, .invokestatic 73, 3), (27, .ifCond .eq 9, 3), (30, .ldc2_w 56, 3), (33, .goto 4, 3), (36, .lconst 0, 1), (37, .lreturn, 1)]
theorem dg_a_50 : dgrp cX2_listsWith dl_a_50 = true := by decide +kernel
theorem dX2_listsWith_0 : decode cX2_listsWith 0 = .ok (.iload_n 1, 1) := dgrp_at dg_a_50 0 rfl
theorem dX2_listsWith_1 : decode cX2_listsWith 1 = .ok (.getstatic 69, 3) := dgrp_at dg_a_50 1 rfl
theorem dX2_listsWith_4 : decode cX2_listsWith 4 = .ok (.arraylength, 1) := dgrp_at dg_a_50 2 rfl
theorem dX2_listsWith_5 : decode cX2_listsWith 5 = .ok (.if_icmp .ge 9, 3) := dgrp_at dg_a_50 3 rfl
theorem dX2_listsWith_8 : decode cX2_listsWith 8 = .ok (.getstatic 69, 3) := dgrp_at dg_a_50 4 rfl
theorem dX2_listsWith_11 : decode cX2_listsWith 11 = .ok (.iload_n 1, 1) := dgrp_at dg_a_50 5 rfl
theorem dX2_listsWith_12 : decode cX2_listsWith 12 = .ok (.laload, 1) := dgrp_at dg_a_50 6 rfl
theorem dX2_listsWith_13 : decode cX2_listsWith 13 = .ok (.lreturn, 1) := dgrp_at dg_a_50 7 rfl
theorem dX2_listsWith_14 : decode cX2_listsWith 14 = .ok (.iload_n 1, 1) := dgrp_at dg_a_50 8 rfl
theorem dX2_listsWith_15 : decode cX2_listsWith 15 = .ok (.getstatic 69, 3) := dgrp_at dg_a_50 9 rfl
theorem dX2_listsWith_18 : decode cX2_listsWith 18 = .ok (.arraylength, 1) := dgrp_at dg_a_50 10 rfl
theorem dX2_listsWith_19 : decode cX2_listsWith 19 = .ok (.isub, 1) := dgrp_at dg_a_50 11 rfl
theorem dX2_listsWith_20 : decode cX2_listsWith 20 = .ok (.aload_n 0, 1) := dgrp_at dg_a_50 12 rfl
theorem dX2_listsWith_21 : decode cX2_listsWith 21 = .ok (.getfield 25, 3) := dgrp_at dg_a_50 13 rfl
theorem dX2_listsWith_24 : decode cX2_listsWith 24 = .ok (.invokestatic 73, 3) := dgrp_at dg_a_50 14 rfl
theorem dX2_listsWith_27 : decode cX2_listsWith 27 = .ok (.ifCond .eq 9, 3) := dgrp_at dg_a_50 15 rfl
theorem dX2_listsWith_30 : decode cX2_listsWith 30 = .ok (.ldc2_w 56, 3) := dgrp_at dg_a_50 16 rfl
theorem dX2_listsWith_33 : decode cX2_listsWith 33 = .ok (.goto 4, 3) := dgrp_at dg_a_50 17 rfl
theorem dX2_listsWith_36 : decode cX2_listsWith 36 = .ok (.lconst 0, 1) := dgrp_at dg_a_50 18 rfl
theorem dX2_listsWith_37 : decode cX2_listsWith 37 = .ok (.lreturn, 1) := dgrp_at dg_a_50 19 rfl
def dl_a_51 : List (Nat × Instr × Nat) := [(0, .lconst 0, 1), (1, .lstore_n 3, 1), (2, .iconst 0, 1), (3, .istore 5, 2), (5, .iload 5, 2), (7, .bipush 64, 2), (9, .if_icmp .ge 106, 3), (12, .aload_n 0, 1), (13, .getfield 25, 3), (16, .bipush 64, 2), (18, .imul, 1), (19, .iload 5, 2), (21, .iadd, 1), (22, .istore 6, 2), (24, .iload 6, 2), (26, .iconst 1, 1), (27, .aload_n 0, 1), (28, .getfield 22, 3), (31, .ishl, 1), (32, .iconst (-1), 1), (33, .ixor, 1), (34, .iand, 1), (35, .invokestatic 77, 3), (38, .istore 7, 2), (40, .iload_n 1, 1), (41, .bipush 60, 2), (43, .if_icmp .ne 17, 3), (46, .iload 7, 2), (48, .iload_n 2, 1), (49, .if_icmp .ge 7, 3), (52, .iconst 1, 1), (53, .goto 38, 3)]
theorem dg_a_51 : dgrp cX2_listsWhereOthers dl_a_51 = true := by decide +kernel
theorem dX2_listsWhereOthers_0 : decode cX2_listsWhereOthers 0 = .ok (.lconst 0, 1) := dgrp_at dg_a_51 0 rfl
theorem dX2_listsWhereOthers_1 : decode cX2_listsWhereOthers 1 = .ok (.lstore_n 3, 1) := dgrp_at dg_a_51 1 rfl
theorem dX2_listsWhereOthers_2 : decode cX2_listsWhereOthers 2 = .ok (.iconst 0, 1) := dgrp_at dg_a_51 2 rfl
theorem dX2_listsWhereOthers_3 : decode cX2_listsWhereOthers 3 = .ok (.istore 5, 2) := dgrp_at dg_a_51 3 rfl
theorem dX2_listsWhereOthers_5 : decode cX2_listsWhereOthers 5 = .ok (.iload 5, 2) := dgrp_at dg_a_51 4 rfl
theorem dX2_listsWhereOthers_7 : decode cX2_listsWhereOthers 7 = .ok (.bipush 64, 2) := dgrp_at dg_a_51 5 rfl
theorem dX2_listsWhereOthers_9 : decode cX2_listsWhereOthers 9 = .ok (.if_icmp .ge 106, 3) := dgrp_at dg_a_51 6 rfl
theorem dX2_listsWhereOthers_12 : decode cX2_listsWhereOthers 12 = .ok (.aload_n 0, 1) := dgrp_at dg_a_51 7 rfl
theorem dX2_listsWhereOthers_13 : decode cX2_listsWhereOthers 13 = .ok (.getfield 25, 3) := dgrp_at dg_a_51 8 rfl
theorem dX2_listsWhereOthers_16 : decode cX2_listsWhereOthers 16 = .ok (.bipush 64, 2) := dgrp_at dg_a_51 9 rfl
theorem dX2_listsWhereOthers_18 : decode cX2_listsWhereOthers 18 = .ok (.imul, 1) := dgrp_at dg_a_51 10 rfl
theorem dX2_listsWhereOthers_19 : decode cX2_listsWhereOthers 19 = .ok (.iload 5, 2) := dgrp_at dg_a_51 11 rfl
theorem dX2_listsWhereOthers_21 : decode cX2_listsWhereOthers 21 = .ok (.iadd, 1) := dgrp_at dg_a_51 12 rfl
theorem dX2_listsWhereOthers_22 : decode cX2_listsWhereOthers 22 = .ok (.istore 6, 2) := dgrp_at dg_a_51 13 rfl
theorem dX2_listsWhereOthers_24 : decode cX2_listsWhereOthers 24 = .ok (.iload 6, 2) := dgrp_at dg_a_51 14 rfl
theorem dX2_listsWhereOthers_26 : decode cX2_listsWhereOthers 26 = .ok (.iconst 1, 1) := dgrp_at dg_a_51 15 rfl
theorem dX2_listsWhereOthers_27 : decode cX2_listsWhereOthers 27 = .ok (.aload_n 0, 1) := dgrp_at dg_a_51 16 rfl
theorem dX2_listsWhereOthers_28 : decode cX2_listsWhereOthers 28 = .ok (.getfield 22, 3) := dgrp_at dg_a_51 17 rfl
theorem dX2_listsWhereOthers_31 : decode cX2_listsWhereOthers 31 = .ok (.ishl, 1) := dgrp_at dg_a_51 18 rfl
theorem dX2_listsWhereOthers_32 : decode cX2_listsWhereOthers 32 = .ok (.iconst (-1), 1) := dgrp_at dg_a_51 19 rfl
theorem dX2_listsWhereOthers_33 : decode cX2_listsWhereOthers 33 = .ok (.ixor, 1) := dgrp_at dg_a_51 20 rfl
theorem dX2_listsWhereOthers_34 : decode cX2_listsWhereOthers 34 = .ok (.iand, 1) := dgrp_at dg_a_51 21 rfl
theorem dX2_listsWhereOthers_35 : decode cX2_listsWhereOthers 35 = .ok (.invokestatic 77, 3) := dgrp_at dg_a_51 22 rfl
theorem dX2_listsWhereOthers_38 : decode cX2_listsWhereOthers 38 = .ok (.istore 7, 2) := dgrp_at dg_a_51 23 rfl
theorem dX2_listsWhereOthers_40 : decode cX2_listsWhereOthers 40 = .ok (.iload_n 1, 1) := dgrp_at dg_a_51 24 rfl
theorem dX2_listsWhereOthers_41 : decode cX2_listsWhereOthers 41 = .ok (.bipush 60, 2) := dgrp_at dg_a_51 25 rfl
theorem dX2_listsWhereOthers_43 : decode cX2_listsWhereOthers 43 = .ok (.if_icmp .ne 17, 3) := dgrp_at dg_a_51 26 rfl
theorem dX2_listsWhereOthers_46 : decode cX2_listsWhereOthers 46 = .ok (.iload 7, 2) := dgrp_at dg_a_51 27 rfl
theorem dX2_listsWhereOthers_48 : decode cX2_listsWhereOthers 48 = .ok (.iload_n 2, 1) := dgrp_at dg_a_51 28 rfl
theorem dX2_listsWhereOthers_49 : decode cX2_listsWhereOthers 49 = .ok (.if_icmp .ge 7, 3) := dgrp_at dg_a_51 29 rfl
theorem dX2_listsWhereOthers_52 : decode cX2_listsWhereOthers 52 = .ok (.iconst 1, 1) := dgrp_at dg_a_51 30 rfl
theorem dX2_listsWhereOthers_53 : decode cX2_listsWhereOthers 53 = .ok (.goto 38, 3) := dgrp_at dg_a_51 31 rfl
def dl_a_52 : List (Nat × Instr × Nat) := [(56, .iconst 0, 1), (57, .goto 34, 3), (60, .iload_n 1, 1), (61, .bipush 61, 2), (63, .if_icmp .ne 17, 3), (66, .iload 7, 2), (68, .iload_n 2, 1), (69, .if_icmp .ne 7, 3), (72, .iconst 1, 1), (73, .goto 18, 3), (76, .iconst 0, 1), (77, .goto 14, 3), (80, .iload 7, 2), (82, .iload_n 2, 1), (83, .if_icmp .le 7, 3), (86, .iconst 1, 1), (87, .goto 4, 3), (90, .iconst 0, 1), (91, .istore 8, 2), (93, .lload_n 3, 1), (94, .iload 8, 2), (96, .ifCond .eq 10, 3), (99, .lconst 1, 1), (100, .iload 5, 2), (102, .lshl, 1), (103, .goto 4, 3), (106, .lconst 0, 1), (107, .lor, 1), (108, .lstore_n 3, 1), (109, .iinc 5 1, 3), (112, .goto (-107), 3), (115, .lload_n 3, 1)]
theorem dg_a_52 : dgrp cX2_listsWhereOthers dl_a_52 = true := by decide +kernel
theorem dX2_listsWhereOthers_56 : decode cX2_listsWhereOthers 56 = .ok (.iconst 0, 1) := dgrp_at dg_a_52 0 rfl
theorem dX2_listsWhereOthers_57 : decode cX2_listsWhereOthers 57 = .ok (.goto 34, 3) := dgrp_at dg_a_52 1 rfl
theorem dX2_listsWhereOthers_60 : decode cX2_listsWhereOthers 60 = .ok (.iload_n 1, 1) := dgrp_at dg_a_52 2 rfl
theorem dX2_listsWhereOthers_61 : decode cX2_listsWhereOthers 61 = .ok (.bipush 61, 2) := dgrp_at dg_a_52 3 rfl
theorem dX2_listsWhereOthers_63 : decode cX2_listsWhereOthers 63 = .ok (.if_icmp .ne 17, 3) := dgrp_at dg_a_52 4 rfl
theorem dX2_listsWhereOthers_66 : decode cX2_listsWhereOthers 66 = .ok (.iload 7, 2) := dgrp_at dg_a_52 5 rfl
theorem dX2_listsWhereOthers_68 : decode cX2_listsWhereOthers 68 = .ok (.iload_n 2, 1) := dgrp_at dg_a_52 6 rfl
theorem dX2_listsWhereOthers_69 : decode cX2_listsWhereOthers 69 = .ok (.if_icmp .ne 7, 3) := dgrp_at dg_a_52 7 rfl
theorem dX2_listsWhereOthers_72 : decode cX2_listsWhereOthers 72 = .ok (.iconst 1, 1) := dgrp_at dg_a_52 8 rfl
theorem dX2_listsWhereOthers_73 : decode cX2_listsWhereOthers 73 = .ok (.goto 18, 3) := dgrp_at dg_a_52 9 rfl
theorem dX2_listsWhereOthers_76 : decode cX2_listsWhereOthers 76 = .ok (.iconst 0, 1) := dgrp_at dg_a_52 10 rfl
theorem dX2_listsWhereOthers_77 : decode cX2_listsWhereOthers 77 = .ok (.goto 14, 3) := dgrp_at dg_a_52 11 rfl
theorem dX2_listsWhereOthers_80 : decode cX2_listsWhereOthers 80 = .ok (.iload 7, 2) := dgrp_at dg_a_52 12 rfl
theorem dX2_listsWhereOthers_82 : decode cX2_listsWhereOthers 82 = .ok (.iload_n 2, 1) := dgrp_at dg_a_52 13 rfl
theorem dX2_listsWhereOthers_83 : decode cX2_listsWhereOthers 83 = .ok (.if_icmp .le 7, 3) := dgrp_at dg_a_52 14 rfl
theorem dX2_listsWhereOthers_86 : decode cX2_listsWhereOthers 86 = .ok (.iconst 1, 1) := dgrp_at dg_a_52 15 rfl
theorem dX2_listsWhereOthers_87 : decode cX2_listsWhereOthers 87 = .ok (.goto 4, 3) := dgrp_at dg_a_52 16 rfl
theorem dX2_listsWhereOthers_90 : decode cX2_listsWhereOthers 90 = .ok (.iconst 0, 1) := dgrp_at dg_a_52 17 rfl
theorem dX2_listsWhereOthers_91 : decode cX2_listsWhereOthers 91 = .ok (.istore 8, 2) := dgrp_at dg_a_52 18 rfl
theorem dX2_listsWhereOthers_93 : decode cX2_listsWhereOthers 93 = .ok (.lload_n 3, 1) := dgrp_at dg_a_52 19 rfl
theorem dX2_listsWhereOthers_94 : decode cX2_listsWhereOthers 94 = .ok (.iload 8, 2) := dgrp_at dg_a_52 20 rfl
theorem dX2_listsWhereOthers_96 : decode cX2_listsWhereOthers 96 = .ok (.ifCond .eq 10, 3) := dgrp_at dg_a_52 21 rfl
theorem dX2_listsWhereOthers_99 : decode cX2_listsWhereOthers 99 = .ok (.lconst 1, 1) := dgrp_at dg_a_52 22 rfl
theorem dX2_listsWhereOthers_100 : decode cX2_listsWhereOthers 100 = .ok (.iload 5, 2) := dgrp_at dg_a_52 23 rfl
theorem dX2_listsWhereOthers_102 : decode cX2_listsWhereOthers 102 = .ok (.lshl, 1) := dgrp_at dg_a_52 24 rfl
theorem dX2_listsWhereOthers_103 : decode cX2_listsWhereOthers 103 = .ok (.goto 4, 3) := dgrp_at dg_a_52 25 rfl
theorem dX2_listsWhereOthers_106 : decode cX2_listsWhereOthers 106 = .ok (.lconst 0, 1) := dgrp_at dg_a_52 26 rfl
theorem dX2_listsWhereOthers_107 : decode cX2_listsWhereOthers 107 = .ok (.lor, 1) := dgrp_at dg_a_52 27 rfl
theorem dX2_listsWhereOthers_108 : decode cX2_listsWhereOthers 108 = .ok (.lstore_n 3, 1) := dgrp_at dg_a_52 28 rfl
theorem dX2_listsWhereOthers_109 : decode cX2_listsWhereOthers 109 = .ok (.iinc 5 1, 3) := dgrp_at dg_a_52 29 rfl
theorem dX2_listsWhereOthers_112 : decode cX2_listsWhereOthers 112 = .ok (.goto (-107), 3) := dgrp_at dg_a_52 30 rfl
theorem dX2_listsWhereOthers_115 : decode cX2_listsWhereOthers 115 = .ok (.lload_n 3, 1) := dgrp_at dg_a_52 31 rfl
def dl_a_53 : List (Nat × Instr × Nat) := [(116, .lreturn, 1)]
theorem dg_a_53 : dgrp cX2_listsWhereOthers dl_a_53 = true := by decide +kernel
theorem dX2_listsWhereOthers_116 : decode cX2_listsWhereOthers 116 = .ok (.lreturn, 1) := dgrp_at dg_a_53 0 rfl
def dl_a_54 : List (Nat × Instr × Nat) := [(0, .aload_n 0, 1), (1, .getfield 15, 3), (4, .iconst (-1), 1), (5, .if_icmp .ne 26, 3), (8, .aload_n 0, 1), (9, .getfield 28, 3), (12, .aload_n 0, 1), (13, .getfield 19, 3), (16, .if_icmp .ge 15, 3), (19, .aload_n 0, 1), (20, .getfield 9, 3), (23, .aload_n 0, 1), (24, .getfield 28, 3), (27, .iaload, 1), (28, .goto 4, 3), (31, .iconst (-1), 1), (32, .ireturn, 1)]
theorem dg_a_54 : dgrp cX2_sign dl_a_54 = true := by decide +kernel
theorem dX2_sign_0 : decode cX2_sign 0 = .ok (.aload_n 0, 1) := dgrp_at dg_a_54 0 rfl
theorem dX2_sign_1 : decode cX2_sign 1 = .ok (.getfield 15, 3) := dgrp_at dg_a_54 1 rfl
theorem dX2_sign_4 : decode cX2_sign 4 = .ok (.iconst (-1), 1) := dgrp_at dg_a_54 2 rfl
theorem dX2_sign_5 : decode cX2_sign 5 = .ok (.if_icmp .ne 26, 3) := dgrp_at dg_a_54 3 rfl
theorem dX2_sign_8 : decode cX2_sign 8 = .ok (.aload_n 0, 1) := dgrp_at dg_a_54 4 rfl
theorem dX2_sign_9 : decode cX2_sign 9 = .ok (.getfield 28, 3) := dgrp_at dg_a_54 5 rfl
theorem dX2_sign_12 : decode cX2_sign 12 = .ok (.aload_n 0, 1) := dgrp_at dg_a_54 6 rfl
theorem dX2_sign_13 : decode cX2_sign 13 = .ok (.getfield 19, 3) := dgrp_at dg_a_54 7 rfl
theorem dX2_sign_16 : decode cX2_sign 16 = .ok (.if_icmp .ge 15, 3) := dgrp_at dg_a_54 8 rfl
theorem dX2_sign_19 : decode cX2_sign 19 = .ok (.aload_n 0, 1) := dgrp_at dg_a_54 9 rfl
theorem dX2_sign_20 : decode cX2_sign 20 = .ok (.getfield 9, 3) := dgrp_at dg_a_54 10 rfl
theorem dX2_sign_23 : decode cX2_sign 23 = .ok (.aload_n 0, 1) := dgrp_at dg_a_54 11 rfl
theorem dX2_sign_24 : decode cX2_sign 24 = .ok (.getfield 28, 3) := dgrp_at dg_a_54 12 rfl
theorem dX2_sign_27 : decode cX2_sign 27 = .ok (.iaload, 1) := dgrp_at dg_a_54 13 rfl
theorem dX2_sign_28 : decode cX2_sign 28 = .ok (.goto 4, 3) := dgrp_at dg_a_54 14 rfl
theorem dX2_sign_31 : decode cX2_sign 31 = .ok (.iconst (-1), 1) := dgrp_at dg_a_54 15 rfl
theorem dX2_sign_32 : decode cX2_sign 32 = .ok (.ireturn, 1) := dgrp_at dg_a_54 16 rfl
def dl_a_55 : List (Nat × Instr × Nat) := [(0, .aload_n 0, 1), (1, .invokevirtual 49, 3), (4, .iload_n 1, 1), (5, .if_icmp .ne 7, 3), (8, .iconst 1, 1), (9, .goto 4, 3), (12, .iconst 0, 1), (13, .istore_n 2, 1), (14, .aload_n 0, 1), (15, .dup, 1), (16, .getfield 28, 3), (19, .iload_n 2, 1), (20, .invokestatic 83, 3), (23, .iadd, 1), (24, .putfield 28, 3), (27, .iload_n 2, 1), (28, .ireturn, 1)]
theorem dg_a_55 : dgrp cX2_passes dl_a_55 = true := by decide +kernel
theorem dX2_passes_0 : decode cX2_passes 0 = .ok (.aload_n 0, 1) := dgrp_at dg_a_55 0 rfl
theorem dX2_passes_1 : decode cX2_passes 1 = .ok (.invokevirtual 49, 3) := dgrp_at dg_a_55 1 rfl
theorem dX2_passes_4 : decode cX2_passes 4 = .ok (.iload_n 1, 1) := dgrp_at dg_a_55 2 rfl
theorem dX2_passes_5 : decode cX2_passes 5 = .ok (.if_icmp .ne 7, 3) := dgrp_at dg_a_55 3 rfl
theorem dX2_passes_8 : decode cX2_passes 8 = .ok (.iconst 1, 1) := dgrp_at dg_a_55 4 rfl
theorem dX2_passes_9 : decode cX2_passes 9 = .ok (.goto 4, 3) := dgrp_at dg_a_55 5 rfl
theorem dX2_passes_12 : decode cX2_passes 12 = .ok (.iconst 0, 1) := dgrp_at dg_a_55 6 rfl
theorem dX2_passes_13 : decode cX2_passes 13 = .ok (.istore_n 2, 1) := dgrp_at dg_a_55 7 rfl
theorem dX2_passes_14 : decode cX2_passes 14 = .ok (.aload_n 0, 1) := dgrp_at dg_a_55 8 rfl
theorem dX2_passes_15 : decode cX2_passes 15 = .ok (.dup, 1) := dgrp_at dg_a_55 9 rfl
theorem dX2_passes_16 : decode cX2_passes 16 = .ok (.getfield 28, 3) := dgrp_at dg_a_55 10 rfl
theorem dX2_passes_19 : decode cX2_passes 19 = .ok (.iload_n 2, 1) := dgrp_at dg_a_55 11 rfl
theorem dX2_passes_20 : decode cX2_passes 20 = .ok (.invokestatic 83, 3) := dgrp_at dg_a_55 12 rfl
theorem dX2_passes_23 : decode cX2_passes 23 = .ok (.iadd, 1) := dgrp_at dg_a_55 13 rfl
theorem dX2_passes_24 : decode cX2_passes 24 = .ok (.putfield 28, 3) := dgrp_at dg_a_55 14 rfl
theorem dX2_passes_27 : decode cX2_passes 27 = .ok (.iload_n 2, 1) := dgrp_at dg_a_55 15 rfl
theorem dX2_passes_28 : decode cX2_passes 28 = .ok (.ireturn, 1) := dgrp_at dg_a_55 16 rfl
def dl_a_56 : List (Nat × Instr × Nat) := [(0, .aload_n 0, 1), (1, .getfield 15, 3), (4, .iconst (-1), 1), (5, .if_icmp .ne 11, 3), (8, .aload_n 0, 1), (9, .aload_n 0, 1), (10, .getfield 28, 3), (13, .putfield 15, 3), (16, .lconst 0, 1), (17, .lreturn, 1)]
theorem dg_a_56 : dgrp cX2_fail dl_a_56 = true := by decide +kernel
theorem dX2_fail_0 : decode cX2_fail 0 = .ok (.aload_n 0, 1) := dgrp_at dg_a_56 0 rfl
theorem dX2_fail_1 : decode cX2_fail 1 = .ok (.getfield 15, 3) := dgrp_at dg_a_56 1 rfl
theorem dX2_fail_4 : decode cX2_fail 4 = .ok (.iconst (-1), 1) := dgrp_at dg_a_56 2 rfl
theorem dX2_fail_5 : decode cX2_fail 5 = .ok (.if_icmp .ne 11, 3) := dgrp_at dg_a_56 3 rfl
theorem dX2_fail_8 : decode cX2_fail 8 = .ok (.aload_n 0, 1) := dgrp_at dg_a_56 4 rfl
theorem dX2_fail_9 : decode cX2_fail 9 = .ok (.aload_n 0, 1) := dgrp_at dg_a_56 5 rfl
theorem dX2_fail_10 : decode cX2_fail 10 = .ok (.getfield 28, 3) := dgrp_at dg_a_56 6 rfl
theorem dX2_fail_13 : decode cX2_fail 13 = .ok (.putfield 15, 3) := dgrp_at dg_a_56 7 rfl
theorem dX2_fail_16 : decode cX2_fail 16 = .ok (.lconst 0, 1) := dgrp_at dg_a_56 8 rfl
theorem dX2_fail_17 : decode cX2_fail 17 = .ok (.lreturn, 1) := dgrp_at dg_a_56 9 rfl
def dl_a_57 : List (Nat × Instr × Nat) := [(0, .aload_n 0, 1), (1, .invokespecial 3, 3), (4, .aload_n 0, 1), (5, .sipush 256, 3), (10, .putfield 9, 3), (13, .aload_n 0, 1), (14, .sipush 256, 3), (19, .putfield 15, 3), (22, .aload_n 0, 1), (23, .sipush 256, 3), (28, .putfield 18, 3), (31, .return_, 1)]
theorem dg_a_57 : dgrp cX3_init dl_a_57 = true := by decide +kernel
theorem dX3_init_0 : decode cX3_init 0 = .ok (.aload_n 0, 1) := dgrp_at dg_a_57 0 rfl
theorem dX3_init_1 : decode cX3_init 1 = .ok (.invokespecial 3, 3) := dgrp_at dg_a_57 1 rfl
theorem dX3_init_4 : decode cX3_init 4 = .ok (.aload_n 0, 1) := dgrp_at dg_a_57 2 rfl
theorem dX3_init_5 : decode cX3_init 5 = .ok (.sipush 256, 3) := dgrp_at dg_a_57 3 rfl
theorem dX3_init_10 : decode cX3_init 10 = .ok (.putfield 9, 3) := dgrp_at dg_a_57 4 rfl
theorem dX3_init_13 : decode cX3_init 13 = .ok (.aload_n 0, 1) := dgrp_at dg_a_57 5 rfl
theorem dX3_init_14 : decode cX3_init 14 = .ok (.sipush 256, 3) := dgrp_at dg_a_57 6 rfl
theorem dX3_init_19 : decode cX3_init 19 = .ok (.putfield 15, 3) := dgrp_at dg_a_57 7 rfl
theorem dX3_init_22 : decode cX3_init 22 = .ok (.aload_n 0, 1) := dgrp_at dg_a_57 8 rfl
theorem dX3_init_23 : decode cX3_init 23 = .ok (.sipush 256, 3) := dgrp_at dg_a_57 9 rfl
theorem dX3_init_28 : decode cX3_init 28 = .ok (.putfield 18, 3) := dgrp_at dg_a_57 10 rfl
theorem dX3_init_31 : decode cX3_init 31 = .ok (.return_, 1) := dgrp_at dg_a_57 11 rfl
def dl_a_58 : List (Nat × Instr × Nat) := [(0, .aload_n 0, 1), (1, .getfield 15, 3), (4, .iconst (-1), 1), (5, .invokestatic 21, 3), (8, .aload_n 1, 1), (9, .getfield 27, 3), (12, .sipush 255, 3), (15, .iand, 1), (16, .istore_n 2, 1), (17, .aload_n 0, 1), (18, .getfield 9, 3), (21, .iconst 0, 1), (22, .iload_n 2, 1), (23, .iastore, 1), (24, .aload_n 0, 1), (25, .getfield 15, 3), (28, .iload_n 2, 1), (29, .iconst 0, 1), (30, .iastore, 1), (31, .aload_n 0, 1), (32, .getfield 18, 3), (35, .iload_n 2, 1), (36, .iconst (-1), 1), (37, .iastore, 1), (38, .iconst 1, 1), (39, .istore_n 3, 1), (40, .iconst 0, 1), (41, .istore 4, 2), (43, .iload 4, 2), (45, .iload_n 3, 1), (46, .if_icmp .ge 53, 3), (49, .iload 4, 2)]
theorem dg_a_58 : dgrp cX3_nearestSettled dl_a_58 = true := by decide +kernel
theorem dX3_nearestSettled_0 : decode cX3_nearestSettled 0 = .ok (.aload_n 0, 1) := dgrp_at dg_a_58 0 rfl
theorem dX3_nearestSettled_1 : decode cX3_nearestSettled 1 = .ok (.getfield 15, 3) := dgrp_at dg_a_58 1 rfl
theorem dX3_nearestSettled_4 : decode cX3_nearestSettled 4 = .ok (.iconst (-1), 1) := dgrp_at dg_a_58 2 rfl
theorem dX3_nearestSettled_5 : decode cX3_nearestSettled 5 = .ok (.invokestatic 21, 3) := dgrp_at dg_a_58 3 rfl
theorem dX3_nearestSettled_8 : decode cX3_nearestSettled 8 = .ok (.aload_n 1, 1) := dgrp_at dg_a_58 4 rfl
theorem dX3_nearestSettled_9 : decode cX3_nearestSettled 9 = .ok (.getfield 27, 3) := dgrp_at dg_a_58 5 rfl
theorem dX3_nearestSettled_12 : decode cX3_nearestSettled 12 = .ok (.sipush 255, 3) := dgrp_at dg_a_58 6 rfl
theorem dX3_nearestSettled_15 : decode cX3_nearestSettled 15 = .ok (.iand, 1) := dgrp_at dg_a_58 7 rfl
theorem dX3_nearestSettled_16 : decode cX3_nearestSettled 16 = .ok (.istore_n 2, 1) := dgrp_at dg_a_58 8 rfl
theorem dX3_nearestSettled_17 : decode cX3_nearestSettled 17 = .ok (.aload_n 0, 1) := dgrp_at dg_a_58 9 rfl
theorem dX3_nearestSettled_18 : decode cX3_nearestSettled 18 = .ok (.getfield 9, 3) := dgrp_at dg_a_58 10 rfl
theorem dX3_nearestSettled_21 : decode cX3_nearestSettled 21 = .ok (.iconst 0, 1) := dgrp_at dg_a_58 11 rfl
theorem dX3_nearestSettled_22 : decode cX3_nearestSettled 22 = .ok (.iload_n 2, 1) := dgrp_at dg_a_58 12 rfl
theorem dX3_nearestSettled_23 : decode cX3_nearestSettled 23 = .ok (.iastore, 1) := dgrp_at dg_a_58 13 rfl
theorem dX3_nearestSettled_24 : decode cX3_nearestSettled 24 = .ok (.aload_n 0, 1) := dgrp_at dg_a_58 14 rfl
theorem dX3_nearestSettled_25 : decode cX3_nearestSettled 25 = .ok (.getfield 15, 3) := dgrp_at dg_a_58 15 rfl
theorem dX3_nearestSettled_28 : decode cX3_nearestSettled 28 = .ok (.iload_n 2, 1) := dgrp_at dg_a_58 16 rfl
theorem dX3_nearestSettled_29 : decode cX3_nearestSettled 29 = .ok (.iconst 0, 1) := dgrp_at dg_a_58 17 rfl
theorem dX3_nearestSettled_30 : decode cX3_nearestSettled 30 = .ok (.iastore, 1) := dgrp_at dg_a_58 18 rfl
theorem dX3_nearestSettled_31 : decode cX3_nearestSettled 31 = .ok (.aload_n 0, 1) := dgrp_at dg_a_58 19 rfl
theorem dX3_nearestSettled_32 : decode cX3_nearestSettled 32 = .ok (.getfield 18, 3) := dgrp_at dg_a_58 20 rfl
theorem dX3_nearestSettled_35 : decode cX3_nearestSettled 35 = .ok (.iload_n 2, 1) := dgrp_at dg_a_58 21 rfl
theorem dX3_nearestSettled_36 : decode cX3_nearestSettled 36 = .ok (.iconst (-1), 1) := dgrp_at dg_a_58 22 rfl
theorem dX3_nearestSettled_37 : decode cX3_nearestSettled 37 = .ok (.iastore, 1) := dgrp_at dg_a_58 23 rfl
theorem dX3_nearestSettled_38 : decode cX3_nearestSettled 38 = .ok (.iconst 1, 1) := dgrp_at dg_a_58 24 rfl
theorem dX3_nearestSettled_39 : decode cX3_nearestSettled 39 = .ok (.istore_n 3, 1) := dgrp_at dg_a_58 25 rfl
theorem dX3_nearestSettled_40 : decode cX3_nearestSettled 40 = .ok (.iconst 0, 1) := dgrp_at dg_a_58 26 rfl
theorem dX3_nearestSettled_41 : decode cX3_nearestSettled 41 = .ok (.istore 4, 2) := dgrp_at dg_a_58 27 rfl
theorem dX3_nearestSettled_43 : decode cX3_nearestSettled 43 = .ok (.iload 4, 2) := dgrp_at dg_a_58 28 rfl
theorem dX3_nearestSettled_45 : decode cX3_nearestSettled 45 = .ok (.iload_n 3, 1) := dgrp_at dg_a_58 29 rfl
theorem dX3_nearestSettled_46 : decode cX3_nearestSettled 46 = .ok (.if_icmp .ge 53, 3) := dgrp_at dg_a_58 30 rfl
theorem dX3_nearestSettled_49 : decode cX3_nearestSettled 49 = .ok (.iload 4, 2) := dgrp_at dg_a_58 31 rfl
def dl_a_59 : List (Nat × Instr × Nat) := [(51, .sipush 256, 3), (54, .if_icmp .ge 45, 3), (57, .aload_n 1, 1), (58, .aload_n 0, 1), (59, .getfield 9, 3), (62, .iload 4, 2), (64, .iaload, 1), (65, .invokevirtual 33, 3), (68, .ifCond .eq 11, 3), (71, .aload_n 0, 1), (72, .getfield 9, 3), (75, .iload 4, 2), (77, .iaload, 1), (78, .ireturn, 1), (79, .aload_n 0, 1), (80, .aload_n 1, 1), (81, .aload_n 0, 1), (82, .getfield 9, 3), (85, .iload 4, 2), (87, .iaload, 1), (88, .iload_n 3, 1), (89, .invokevirtual 37, 3), (92, .istore_n 3, 1), (93, .iinc 4 1, 3), (96, .goto (-53), 3), (99, .iconst (-1), 1), (100, .ireturn, 1)]
theorem dg_a_59 : dgrp cX3_nearestSettled dl_a_59 = true := by decide +kernel
theorem dX3_nearestSettled_51 : decode cX3_nearestSettled 51 = .ok (.sipush 256, 3) := dgrp_at dg_a_59 0 rfl
theorem dX3_nearestSettled_54 : decode cX3_nearestSettled 54 = .ok (.if_icmp .ge 45, 3) := dgrp_at dg_a_59 1 rfl
theorem dX3_nearestSettled_57 : decode cX3_nearestSettled 57 = .ok (.aload_n 1, 1) := dgrp_at dg_a_59 2 rfl
theorem dX3_nearestSettled_58 : decode cX3_nearestSettled 58 = .ok (.aload_n 0, 1) := dgrp_at dg_a_59 3 rfl
theorem dX3_nearestSettled_59 : decode cX3_nearestSettled 59 = .ok (.getfield 9, 3) := dgrp_at dg_a_59 4 rfl
theorem dX3_nearestSettled_62 : decode cX3_nearestSettled 62 = .ok (.iload 4, 2) := dgrp_at dg_a_59 5 rfl
theorem dX3_nearestSettled_64 : decode cX3_nearestSettled 64 = .ok (.iaload, 1) := dgrp_at dg_a_59 6 rfl
theorem dX3_nearestSettled_65 : decode cX3_nearestSettled 65 = .ok (.invokevirtual 33, 3) := dgrp_at dg_a_59 7 rfl
theorem dX3_nearestSettled_68 : decode cX3_nearestSettled 68 = .ok (.ifCond .eq 11, 3) := dgrp_at dg_a_59 8 rfl
theorem dX3_nearestSettled_71 : decode cX3_nearestSettled 71 = .ok (.aload_n 0, 1) := dgrp_at dg_a_59 9 rfl
theorem dX3_nearestSettled_72 : decode cX3_nearestSettled 72 = .ok (.getfield 9, 3) := dgrp_at dg_a_59 10 rfl
theorem dX3_nearestSettled_75 : decode cX3_nearestSettled 75 = .ok (.iload 4, 2) := dgrp_at dg_a_59 11 rfl
theorem dX3_nearestSettled_77 : decode cX3_nearestSettled 77 = .ok (.iaload, 1) := dgrp_at dg_a_59 12 rfl
theorem dX3_nearestSettled_78 : decode cX3_nearestSettled 78 = .ok (.ireturn, 1) := dgrp_at dg_a_59 13 rfl
theorem dX3_nearestSettled_79 : decode cX3_nearestSettled 79 = .ok (.aload_n 0, 1) := dgrp_at dg_a_59 14 rfl
theorem dX3_nearestSettled_80 : decode cX3_nearestSettled 80 = .ok (.aload_n 1, 1) := dgrp_at dg_a_59 15 rfl
theorem dX3_nearestSettled_81 : decode cX3_nearestSettled 81 = .ok (.aload_n 0, 1) := dgrp_at dg_a_59 16 rfl
theorem dX3_nearestSettled_82 : decode cX3_nearestSettled 82 = .ok (.getfield 9, 3) := dgrp_at dg_a_59 17 rfl
theorem dX3_nearestSettled_85 : decode cX3_nearestSettled 85 = .ok (.iload 4, 2) := dgrp_at dg_a_59 18 rfl
theorem dX3_nearestSettled_87 : decode cX3_nearestSettled 87 = .ok (.iaload, 1) := dgrp_at dg_a_59 19 rfl
theorem dX3_nearestSettled_88 : decode cX3_nearestSettled 88 = .ok (.iload_n 3, 1) := dgrp_at dg_a_59 20 rfl
theorem dX3_nearestSettled_89 : decode cX3_nearestSettled 89 = .ok (.invokevirtual 37, 3) := dgrp_at dg_a_59 21 rfl
theorem dX3_nearestSettled_92 : decode cX3_nearestSettled 92 = .ok (.istore_n 3, 1) := dgrp_at dg_a_59 22 rfl
theorem dX3_nearestSettled_93 : decode cX3_nearestSettled 93 = .ok (.iinc 4 1, 3) := dgrp_at dg_a_59 23 rfl
theorem dX3_nearestSettled_96 : decode cX3_nearestSettled 96 = .ok (.goto (-53), 3) := dgrp_at dg_a_59 24 rfl
theorem dX3_nearestSettled_99 : decode cX3_nearestSettled 99 = .ok (.iconst (-1), 1) := dgrp_at dg_a_59 25 rfl
theorem dX3_nearestSettled_100 : decode cX3_nearestSettled 100 = .ok (.ireturn, 1) := dgrp_at dg_a_59 26 rfl
def dl_a_60 : List (Nat × Instr × Nat) := [(0, .iload_n 3, 1), (1, .istore 4, 2), (3, .iconst 0, 1), (4, .istore 5, 2), (6, .iload 5, 2), (8, .aload_n 1, 1), (9, .getfield 41, 3), (12, .if_icmp .ge 95, 3), (15, .aload_n 1, 1), (16, .iload 5, 2), (18, .iload_n 2, 1), (19, .invokevirtual 44, 3), (22, .sipush 255, 3), (25, .iand, 1), (26, .istore 6, 2), (28, .aload_n 0, 1), (29, .getfield 15, 3), (32, .iload 6, 2), (34, .iaload, 1), (35, .iconst (-1), 1), (36, .if_icmp .ne 65, 3), (39, .iload 4, 2), (41, .sipush 256, 3), (44, .if_icmp .ge 57, 3), (47, .aload_n 0, 1), (48, .getfield 15, 3), (51, .iload 6, 2), (53, .aload_n 0, 1), (54, .getfield 15, 3), (57, .iload_n 2, 1), (58, .iaload, 1), (59, .iconst 1, 1)]
theorem dg_a_60 : dgrp cX3_callAll dl_a_60 = true := by decide +kernel
theorem dX3_callAll_0 : decode cX3_callAll 0 = .ok (.iload_n 3, 1) := dgrp_at dg_a_60 0 rfl
theorem dX3_callAll_1 : decode cX3_callAll 1 = .ok (.istore 4, 2) := dgrp_at dg_a_60 1 rfl
theorem dX3_callAll_3 : decode cX3_callAll 3 = .ok (.iconst 0, 1) := dgrp_at dg_a_60 2 rfl
theorem dX3_callAll_4 : decode cX3_callAll 4 = .ok (.istore 5, 2) := dgrp_at dg_a_60 3 rfl
theorem dX3_callAll_6 : decode cX3_callAll 6 = .ok (.iload 5, 2) := dgrp_at dg_a_60 4 rfl
theorem dX3_callAll_8 : decode cX3_callAll 8 = .ok (.aload_n 1, 1) := dgrp_at dg_a_60 5 rfl
theorem dX3_callAll_9 : decode cX3_callAll 9 = .ok (.getfield 41, 3) := dgrp_at dg_a_60 6 rfl
theorem dX3_callAll_12 : decode cX3_callAll 12 = .ok (.if_icmp .ge 95, 3) := dgrp_at dg_a_60 7 rfl
theorem dX3_callAll_15 : decode cX3_callAll 15 = .ok (.aload_n 1, 1) := dgrp_at dg_a_60 8 rfl
theorem dX3_callAll_16 : decode cX3_callAll 16 = .ok (.iload 5, 2) := dgrp_at dg_a_60 9 rfl
theorem dX3_callAll_18 : decode cX3_callAll 18 = .ok (.iload_n 2, 1) := dgrp_at dg_a_60 10 rfl
theorem dX3_callAll_19 : decode cX3_callAll 19 = .ok (.invokevirtual 44, 3) := dgrp_at dg_a_60 11 rfl
theorem dX3_callAll_22 : decode cX3_callAll 22 = .ok (.sipush 255, 3) := dgrp_at dg_a_60 12 rfl
theorem dX3_callAll_25 : decode cX3_callAll 25 = .ok (.iand, 1) := dgrp_at dg_a_60 13 rfl
theorem dX3_callAll_26 : decode cX3_callAll 26 = .ok (.istore 6, 2) := dgrp_at dg_a_60 14 rfl
theorem dX3_callAll_28 : decode cX3_callAll 28 = .ok (.aload_n 0, 1) := dgrp_at dg_a_60 15 rfl
theorem dX3_callAll_29 : decode cX3_callAll 29 = .ok (.getfield 15, 3) := dgrp_at dg_a_60 16 rfl
theorem dX3_callAll_32 : decode cX3_callAll 32 = .ok (.iload 6, 2) := dgrp_at dg_a_60 17 rfl
theorem dX3_callAll_34 : decode cX3_callAll 34 = .ok (.iaload, 1) := dgrp_at dg_a_60 18 rfl
theorem dX3_callAll_35 : decode cX3_callAll 35 = .ok (.iconst (-1), 1) := dgrp_at dg_a_60 19 rfl
theorem dX3_callAll_36 : decode cX3_callAll 36 = .ok (.if_icmp .ne 65, 3) := dgrp_at dg_a_60 20 rfl
theorem dX3_callAll_39 : decode cX3_callAll 39 = .ok (.iload 4, 2) := dgrp_at dg_a_60 21 rfl
theorem dX3_callAll_41 : decode cX3_callAll 41 = .ok (.sipush 256, 3) := dgrp_at dg_a_60 22 rfl
theorem dX3_callAll_44 : decode cX3_callAll 44 = .ok (.if_icmp .ge 57, 3) := dgrp_at dg_a_60 23 rfl
theorem dX3_callAll_47 : decode cX3_callAll 47 = .ok (.aload_n 0, 1) := dgrp_at dg_a_60 24 rfl
theorem dX3_callAll_48 : decode cX3_callAll 48 = .ok (.getfield 15, 3) := dgrp_at dg_a_60 25 rfl
theorem dX3_callAll_51 : decode cX3_callAll 51 = .ok (.iload 6, 2) := dgrp_at dg_a_60 26 rfl
theorem dX3_callAll_53 : decode cX3_callAll 53 = .ok (.aload_n 0, 1) := dgrp_at dg_a_60 27 rfl
theorem dX3_callAll_54 : decode cX3_callAll 54 = .ok (.getfield 15, 3) := dgrp_at dg_a_60 28 rfl
theorem dX3_callAll_57 : decode cX3_callAll 57 = .ok (.iload_n 2, 1) := dgrp_at dg_a_60 29 rfl
theorem dX3_callAll_58 : decode cX3_callAll 58 = .ok (.iaload, 1) := dgrp_at dg_a_60 30 rfl
theorem dX3_callAll_59 : decode cX3_callAll 59 = .ok (.iconst 1, 1) := dgrp_at dg_a_60 31 rfl
def dl_a_61 : List (Nat × Instr × Nat) := [(60, .iadd, 1), (61, .iastore, 1), (62, .aload_n 0, 1), (63, .getfield 18, 3), (66, .iload 6, 2), (68, .aload_n 0, 1), (69, .getfield 15, 3), (72, .iload_n 2, 1), (73, .iaload, 1), (74, .ifCond .ne 8, 3), (77, .iload 5, 2), (79, .goto 9, 3), (82, .aload_n 0, 1), (83, .getfield 18, 3), (86, .iload_n 2, 1), (87, .iaload, 1), (88, .iastore, 1), (89, .aload_n 0, 1), (90, .getfield 9, 3), (93, .iload 4, 2), (95, .iload 6, 2), (97, .iastore, 1), (98, .iinc 4 1, 3), (101, .iinc 5 1, 3), (104, .goto (-98), 3), (107, .iload 4, 2), (109, .ireturn, 1)]
theorem dg_a_61 : dgrp cX3_callAll dl_a_61 = true := by decide +kernel
theorem dX3_callAll_60 : decode cX3_callAll 60 = .ok (.iadd, 1) := dgrp_at dg_a_61 0 rfl
theorem dX3_callAll_61 : decode cX3_callAll 61 = .ok (.iastore, 1) := dgrp_at dg_a_61 1 rfl
theorem dX3_callAll_62 : decode cX3_callAll 62 = .ok (.aload_n 0, 1) := dgrp_at dg_a_61 2 rfl
theorem dX3_callAll_63 : decode cX3_callAll 63 = .ok (.getfield 18, 3) := dgrp_at dg_a_61 3 rfl
theorem dX3_callAll_66 : decode cX3_callAll 66 = .ok (.iload 6, 2) := dgrp_at dg_a_61 4 rfl
theorem dX3_callAll_68 : decode cX3_callAll 68 = .ok (.aload_n 0, 1) := dgrp_at dg_a_61 5 rfl
theorem dX3_callAll_69 : decode cX3_callAll 69 = .ok (.getfield 15, 3) := dgrp_at dg_a_61 6 rfl
theorem dX3_callAll_72 : decode cX3_callAll 72 = .ok (.iload_n 2, 1) := dgrp_at dg_a_61 7 rfl
theorem dX3_callAll_73 : decode cX3_callAll 73 = .ok (.iaload, 1) := dgrp_at dg_a_61 8 rfl
theorem dX3_callAll_74 : decode cX3_callAll 74 = .ok (.ifCond .ne 8, 3) := dgrp_at dg_a_61 9 rfl
theorem dX3_callAll_77 : decode cX3_callAll 77 = .ok (.iload 5, 2) := dgrp_at dg_a_61 10 rfl
theorem dX3_callAll_79 : decode cX3_callAll 79 = .ok (.goto 9, 3) := dgrp_at dg_a_61 11 rfl
theorem dX3_callAll_82 : decode cX3_callAll 82 = .ok (.aload_n 0, 1) := dgrp_at dg_a_61 12 rfl
theorem dX3_callAll_83 : decode cX3_callAll 83 = .ok (.getfield 18, 3) := dgrp_at dg_a_61 13 rfl
theorem dX3_callAll_86 : decode cX3_callAll 86 = .ok (.iload_n 2, 1) := dgrp_at dg_a_61 14 rfl
theorem dX3_callAll_87 : decode cX3_callAll 87 = .ok (.iaload, 1) := dgrp_at dg_a_61 15 rfl
theorem dX3_callAll_88 : decode cX3_callAll 88 = .ok (.iastore, 1) := dgrp_at dg_a_61 16 rfl
theorem dX3_callAll_89 : decode cX3_callAll 89 = .ok (.aload_n 0, 1) := dgrp_at dg_a_61 17 rfl
theorem dX3_callAll_90 : decode cX3_callAll 90 = .ok (.getfield 9, 3) := dgrp_at dg_a_61 18 rfl
theorem dX3_callAll_93 : decode cX3_callAll 93 = .ok (.iload 4, 2) := dgrp_at dg_a_61 19 rfl
theorem dX3_callAll_95 : decode cX3_callAll 95 = .ok (.iload 6, 2) := dgrp_at dg_a_61 20 rfl
theorem dX3_callAll_97 : decode cX3_callAll 97 = .ok (.iastore, 1) := dgrp_at dg_a_61 21 rfl
theorem dX3_callAll_98 : decode cX3_callAll 98 = .ok (.iinc 4 1, 3) := dgrp_at dg_a_61 22 rfl
theorem dX3_callAll_101 : decode cX3_callAll 101 = .ok (.iinc 5 1, 3) := dgrp_at dg_a_61 23 rfl
theorem dX3_callAll_104 : decode cX3_callAll 104 = .ok (.goto (-98), 3) := dgrp_at dg_a_61 24 rfl
theorem dX3_callAll_107 : decode cX3_callAll 107 = .ok (.iload 4, 2) := dgrp_at dg_a_61 25 rfl
theorem dX3_callAll_109 : decode cX3_callAll 109 = .ok (.ireturn, 1) := dgrp_at dg_a_61 26 rfl
def dl_a_62 : List (Nat × Instr × Nat) := [(0, .aload_n 0, 1), (1, .getfield 15, 3), (4, .iload_n 1, 1), (5, .sipush 255, 3), (8, .iand, 1), (9, .iaload, 1), (10, .ireturn, 1)]
theorem dg_a_62 : dgrp cX3_callsTo dl_a_62 = true := by decide +kernel
theorem dX3_callsTo_0 : decode cX3_callsTo 0 = .ok (.aload_n 0, 1) := dgrp_at dg_a_62 0 rfl
theorem dX3_callsTo_1 : decode cX3_callsTo 1 = .ok (.getfield 15, 3) := dgrp_at dg_a_62 1 rfl
theorem dX3_callsTo_4 : decode cX3_callsTo 4 = .ok (.iload_n 1, 1) := dgrp_at dg_a_62 2 rfl
theorem dX3_callsTo_5 : decode cX3_callsTo 5 = .ok (.sipush 255, 3) := dgrp_at dg_a_62 3 rfl
theorem dX3_callsTo_8 : decode cX3_callsTo 8 = .ok (.iand, 1) := dgrp_at dg_a_62 4 rfl
theorem dX3_callsTo_9 : decode cX3_callsTo 9 = .ok (.iaload, 1) := dgrp_at dg_a_62 5 rfl
theorem dX3_callsTo_10 : decode cX3_callsTo 10 = .ok (.ireturn, 1) := dgrp_at dg_a_62 6 rfl
def dl_a_63 : List (Nat × Instr × Nat) := [(0, .aload_n 0, 1), (1, .getfield 18, 3), (4, .iload_n 1, 1), (5, .sipush 255, 3), (8, .iand, 1), (9, .iaload, 1), (10, .ireturn, 1)]
theorem dg_a_63 : dgrp cX3_firstCalledTo dl_a_63 = true := by decide +kernel
theorem dX3_firstCalledTo_0 : decode cX3_firstCalledTo 0 = .ok (.aload_n 0, 1) := dgrp_at dg_a_63 0 rfl
theorem dX3_firstCalledTo_1 : decode cX3_firstCalledTo 1 = .ok (.getfield 18, 3) := dgrp_at dg_a_63 1 rfl
theorem dX3_firstCalledTo_4 : decode cX3_firstCalledTo 4 = .ok (.iload_n 1, 1) := dgrp_at dg_a_63 2 rfl
theorem dX3_firstCalledTo_5 : decode cX3_firstCalledTo 5 = .ok (.sipush 255, 3) := dgrp_at dg_a_63 3 rfl
theorem dX3_firstCalledTo_8 : decode cX3_firstCalledTo 8 = .ok (.iand, 1) := dgrp_at dg_a_63 4 rfl
theorem dX3_firstCalledTo_9 : decode cX3_firstCalledTo 9 = .ok (.iaload, 1) := dgrp_at dg_a_63 5 rfl
theorem dX3_firstCalledTo_10 : decode cX3_firstCalledTo 10 = .ok (.ireturn, 1) := dgrp_at dg_a_63 6 rfl
def dl_a_64 : List (Nat × Instr × Nat) := [(0, .aload_n 0, 1), (1, .invokespecial 3, 3), (4, .aload_n 0, 1), (5, .new 9, 3), (8, .dup, 1), (9, .invokespecial 11, 3), (12, .putfield 12, 3), (15, .aload_n 0, 1), (16, .new 9, 3), (19, .dup, 1), (20, .invokespecial 11, 3), (23, .putfield 16, 3), (26, .aload_n 0, 1), (27, .new 19, 3), (30, .dup, 1), (31, .invokespecial 21, 3), (34, .putfield 22, 3), (37, .aload_n 0, 1), (38, .new 26, 3), (41, .dup, 1), (42, .invokespecial 28, 3), (45, .putfield 29, 3), (48, .aload_n 0, 1), (49, .iconst 4, 1), (50, .anewarray 33, 3), (53, .putfield 35, 3), (56, .iconst 0, 1), (57, .istore_n 1, 1), (58, .iload_n 1, 1), (59, .iconst 4, 1), (60, .if_icmp .ge 22, 3), (63, .aload_n 0, 1)]
theorem dg_a_64 : dgrp cX4_init dl_a_64 = true := by decide +kernel
theorem dX4_init_0 : decode cX4_init 0 = .ok (.aload_n 0, 1) := dgrp_at dg_a_64 0 rfl
theorem dX4_init_1 : decode cX4_init 1 = .ok (.invokespecial 3, 3) := dgrp_at dg_a_64 1 rfl
theorem dX4_init_4 : decode cX4_init 4 = .ok (.aload_n 0, 1) := dgrp_at dg_a_64 2 rfl
theorem dX4_init_5 : decode cX4_init 5 = .ok (.new 9, 3) := dgrp_at dg_a_64 3 rfl
theorem dX4_init_8 : decode cX4_init 8 = .ok (.dup, 1) := dgrp_at dg_a_64 4 rfl
theorem dX4_init_9 : decode cX4_init 9 = .ok (.invokespecial 11, 3) := dgrp_at dg_a_64 5 rfl
theorem dX4_init_12 : decode cX4_init 12 = .ok (.putfield 12, 3) := dgrp_at dg_a_64 6 rfl
theorem dX4_init_15 : decode cX4_init 15 = .ok (.aload_n 0, 1) := dgrp_at dg_a_64 7 rfl
theorem dX4_init_16 : decode cX4_init 16 = .ok (.new 9, 3) := dgrp_at dg_a_64 8 rfl
theorem dX4_init_19 : decode cX4_init 19 = .ok (.dup, 1) := dgrp_at dg_a_64 9 rfl
theorem dX4_init_20 : decode cX4_init 20 = .ok (.invokespecial 11, 3) := dgrp_at dg_a_64 10 rfl
theorem dX4_init_23 : decode cX4_init 23 = .ok (.putfield 16, 3) := dgrp_at dg_a_64 11 rfl
theorem dX4_init_26 : decode cX4_init 26 = .ok (.aload_n 0, 1) := dgrp_at dg_a_64 12 rfl
theorem dX4_init_27 : decode cX4_init 27 = .ok (.new 19, 3) := dgrp_at dg_a_64 13 rfl
theorem dX4_init_30 : decode cX4_init 30 = .ok (.dup, 1) := dgrp_at dg_a_64 14 rfl
theorem dX4_init_31 : decode cX4_init 31 = .ok (.invokespecial 21, 3) := dgrp_at dg_a_64 15 rfl
theorem dX4_init_34 : decode cX4_init 34 = .ok (.putfield 22, 3) := dgrp_at dg_a_64 16 rfl
theorem dX4_init_37 : decode cX4_init 37 = .ok (.aload_n 0, 1) := dgrp_at dg_a_64 17 rfl
theorem dX4_init_38 : decode cX4_init 38 = .ok (.new 26, 3) := dgrp_at dg_a_64 18 rfl
theorem dX4_init_41 : decode cX4_init 41 = .ok (.dup, 1) := dgrp_at dg_a_64 19 rfl
theorem dX4_init_42 : decode cX4_init 42 = .ok (.invokespecial 28, 3) := dgrp_at dg_a_64 20 rfl
theorem dX4_init_45 : decode cX4_init 45 = .ok (.putfield 29, 3) := dgrp_at dg_a_64 21 rfl
theorem dX4_init_48 : decode cX4_init 48 = .ok (.aload_n 0, 1) := dgrp_at dg_a_64 22 rfl
theorem dX4_init_49 : decode cX4_init 49 = .ok (.iconst 4, 1) := dgrp_at dg_a_64 23 rfl
theorem dX4_init_50 : decode cX4_init 50 = .ok (.anewarray 33, 3) := dgrp_at dg_a_64 24 rfl
theorem dX4_init_53 : decode cX4_init 53 = .ok (.putfield 35, 3) := dgrp_at dg_a_64 25 rfl
theorem dX4_init_56 : decode cX4_init 56 = .ok (.iconst 0, 1) := dgrp_at dg_a_64 26 rfl
theorem dX4_init_57 : decode cX4_init 57 = .ok (.istore_n 1, 1) := dgrp_at dg_a_64 27 rfl
theorem dX4_init_58 : decode cX4_init 58 = .ok (.iload_n 1, 1) := dgrp_at dg_a_64 28 rfl
theorem dX4_init_59 : decode cX4_init 59 = .ok (.iconst 4, 1) := dgrp_at dg_a_64 29 rfl
theorem dX4_init_60 : decode cX4_init 60 = .ok (.if_icmp .ge 22, 3) := dgrp_at dg_a_64 30 rfl
theorem dX4_init_63 : decode cX4_init 63 = .ok (.aload_n 0, 1) := dgrp_at dg_a_64 31 rfl
def dl_a_65 : List (Nat × Instr × Nat) := [(64, .getfield 35, 3), (67, .iload_n 1, 1), (68, .new 33, 3), (71, .dup, 1), (72, .invokespecial 39, 3), (75, .aastore, 1), (76, .iinc 1 1, 3), (79, .goto (-21), 3), (82, .aload_n 0, 1), (83, .bipush 7, 2), (87, .putfield 40, 3), (90, .return_, 1)]
theorem dg_a_65 : dgrp cX4_init dl_a_65 = true := by decide +kernel
theorem dX4_init_64 : decode cX4_init 64 = .ok (.getfield 35, 3) := dgrp_at dg_a_65 0 rfl
theorem dX4_init_67 : decode cX4_init 67 = .ok (.iload_n 1, 1) := dgrp_at dg_a_65 1 rfl
theorem dX4_init_68 : decode cX4_init 68 = .ok (.new 33, 3) := dgrp_at dg_a_65 2 rfl
theorem dX4_init_71 : decode cX4_init 71 = .ok (.dup, 1) := dgrp_at dg_a_65 3 rfl
theorem dX4_init_72 : decode cX4_init 72 = .ok (.invokespecial 39, 3) := dgrp_at dg_a_65 4 rfl
theorem dX4_init_75 : decode cX4_init 75 = .ok (.aastore, 1) := dgrp_at dg_a_65 5 rfl
theorem dX4_init_76 : decode cX4_init 76 = .ok (.iinc 1 1, 3) := dgrp_at dg_a_65 6 rfl
theorem dX4_init_79 : decode cX4_init 79 = .ok (.goto (-21), 3) := dgrp_at dg_a_65 7 rfl
theorem dX4_init_82 : decode cX4_init 82 = .ok (.aload_n 0, 1) := dgrp_at dg_a_65 8 rfl
theorem dX4_init_83 : decode cX4_init 83 = .ok (.bipush 7, 2) := dgrp_at dg_a_65 9 rfl
theorem dX4_init_87 : decode cX4_init 87 = .ok (.putfield 40, 3) := dgrp_at dg_a_65 10 rfl
theorem dX4_init_90 : decode cX4_init 90 = .ok (.return_, 1) := dgrp_at dg_a_65 11 rfl
def dl_a_66 : List (Nat × Instr × Nat) := [(0, .iload_n 1, 1), (1, .invokestatic 44, 3), (4, .ifCond .eq 10, 3), (7, .iload_n 2, 1), (8, .invokestatic 48, 3), (11, .ifCond .ne 10, 3), (14, .aload_n 0, 1), (15, .ldc 51, 2), (17, .invokevirtual 52, 3), (20, .ireturn, 1), (21, .aload_n 0, 1), (22, .getfield 12, 3), (25, .getfield 56, 3), (28, .bipush 8, 2), (30, .if_icmp .ge 15, 3), (33, .aload_n 0, 1), (34, .getfield 12, 3), (37, .iload_n 1, 1), (38, .iload_n 2, 1), (39, .invokevirtual 60, 3), (42, .goto 9, 3), (45, .aload_n 0, 1), (46, .ldc 64, 2), (48, .invokevirtual 52, 3), (51, .ireturn, 1)]
theorem dg_a_66 : dgrp cX4_guest dl_a_66 = true := by decide +kernel
theorem dX4_guest_0 : decode cX4_guest 0 = .ok (.iload_n 1, 1) := dgrp_at dg_a_66 0 rfl
theorem dX4_guest_1 : decode cX4_guest 1 = .ok (.invokestatic 44, 3) := dgrp_at dg_a_66 1 rfl
theorem dX4_guest_4 : decode cX4_guest 4 = .ok (.ifCond .eq 10, 3) := dgrp_at dg_a_66 2 rfl
theorem dX4_guest_7 : decode cX4_guest 7 = .ok (.iload_n 2, 1) := dgrp_at dg_a_66 3 rfl
theorem dX4_guest_8 : decode cX4_guest 8 = .ok (.invokestatic 48, 3) := dgrp_at dg_a_66 4 rfl
theorem dX4_guest_11 : decode cX4_guest 11 = .ok (.ifCond .ne 10, 3) := dgrp_at dg_a_66 5 rfl
theorem dX4_guest_14 : decode cX4_guest 14 = .ok (.aload_n 0, 1) := dgrp_at dg_a_66 6 rfl
theorem dX4_guest_15 : decode cX4_guest 15 = .ok (.ldc 51, 2) := dgrp_at dg_a_66 7 rfl
theorem dX4_guest_17 : decode cX4_guest 17 = .ok (.invokevirtual 52, 3) := dgrp_at dg_a_66 8 rfl
theorem dX4_guest_20 : decode cX4_guest 20 = .ok (.ireturn, 1) := dgrp_at dg_a_66 9 rfl
theorem dX4_guest_21 : decode cX4_guest 21 = .ok (.aload_n 0, 1) := dgrp_at dg_a_66 10 rfl
theorem dX4_guest_22 : decode cX4_guest 22 = .ok (.getfield 12, 3) := dgrp_at dg_a_66 11 rfl
theorem dX4_guest_25 : decode cX4_guest 25 = .ok (.getfield 56, 3) := dgrp_at dg_a_66 12 rfl
theorem dX4_guest_28 : decode cX4_guest 28 = .ok (.bipush 8, 2) := dgrp_at dg_a_66 13 rfl
theorem dX4_guest_30 : decode cX4_guest 30 = .ok (.if_icmp .ge 15, 3) := dgrp_at dg_a_66 14 rfl
theorem dX4_guest_33 : decode cX4_guest 33 = .ok (.aload_n 0, 1) := dgrp_at dg_a_66 15 rfl
theorem dX4_guest_34 : decode cX4_guest 34 = .ok (.getfield 12, 3) := dgrp_at dg_a_66 16 rfl
theorem dX4_guest_37 : decode cX4_guest 37 = .ok (.iload_n 1, 1) := dgrp_at dg_a_66 17 rfl
theorem dX4_guest_38 : decode cX4_guest 38 = .ok (.iload_n 2, 1) := dgrp_at dg_a_66 18 rfl
theorem dX4_guest_39 : decode cX4_guest 39 = .ok (.invokevirtual 60, 3) := dgrp_at dg_a_66 19 rfl
theorem dX4_guest_42 : decode cX4_guest 42 = .ok (.goto 9, 3) := dgrp_at dg_a_66 20 rfl
theorem dX4_guest_45 : decode cX4_guest 45 = .ok (.aload_n 0, 1) := dgrp_at dg_a_66 21 rfl
theorem dX4_guest_46 : decode cX4_guest 46 = .ok (.ldc 64, 2) := dgrp_at dg_a_66 22 rfl
theorem dX4_guest_48 : decode cX4_guest 48 = .ok (.invokevirtual 52, 3) := dgrp_at dg_a_66 23 rfl
theorem dX4_guest_51 : decode cX4_guest 51 = .ok (.ireturn, 1) := dgrp_at dg_a_66 24 rfl
def dl_a_67 : List (Nat × Instr × Nat) := [(0, .aload_n 0, 1), (1, .getfield 12, 3), (4, .iload_n 1, 1), (5, .invokevirtual 65, 3), (8, .ifCond .ne 10, 3), (11, .aload_n 0, 1), (12, .ldc 51, 2), (14, .invokevirtual 52, 3), (17, .ireturn, 1), (18, .iload_n 2, 1), (56, .aload_n 0, 1), (57, .getfield 12, 3), (60, .getfield 68, 3), (63, .iload_n 1, 1), (64, .iaload, 1), (65, .ireturn, 1), (66, .aload_n 0, 1), (67, .getfield 12, 3), (70, .getfield 71, 3), (73, .iload_n 1, 1), (74, .iaload, 1), (75, .ireturn, 1), (76, .aload_n 0, 1), (77, .getfield 12, 3), (80, .getfield 74, 3), (83, .iload_n 1, 1), (84, .ishr, 1), (85, .iconst 1, 1), (86, .iand, 1), (87, .ireturn, 1), (88, .aload_n 0, 1), (89, .getfield 12, 3)]
theorem dg_a_67 : dgrp cX4_of dl_a_67 = true := by decide +kernel
theorem dX4_of_0 : decode cX4_of 0 = .ok (.aload_n 0, 1) := dgrp_at dg_a_67 0 rfl
theorem dX4_of_1 : decode cX4_of 1 = .ok (.getfield 12, 3) := dgrp_at dg_a_67 1 rfl
theorem dX4_of_4 : decode cX4_of 4 = .ok (.iload_n 1, 1) := dgrp_at dg_a_67 2 rfl
theorem dX4_of_5 : decode cX4_of 5 = .ok (.invokevirtual 65, 3) := dgrp_at dg_a_67 3 rfl
theorem dX4_of_8 : decode cX4_of 8 = .ok (.ifCond .ne 10, 3) := dgrp_at dg_a_67 4 rfl
theorem dX4_of_11 : decode cX4_of 11 = .ok (.aload_n 0, 1) := dgrp_at dg_a_67 5 rfl
theorem dX4_of_12 : decode cX4_of 12 = .ok (.ldc 51, 2) := dgrp_at dg_a_67 6 rfl
theorem dX4_of_14 : decode cX4_of 14 = .ok (.invokevirtual 52, 3) := dgrp_at dg_a_67 7 rfl
theorem dX4_of_17 : decode cX4_of 17 = .ok (.ireturn, 1) := dgrp_at dg_a_67 8 rfl
theorem dX4_of_18 : decode cX4_of 18 = .ok (.iload_n 2, 1) := dgrp_at dg_a_67 9 rfl
theorem dX4_of_56 : decode cX4_of 56 = .ok (.aload_n 0, 1) := dgrp_at dg_a_67 10 rfl
theorem dX4_of_57 : decode cX4_of 57 = .ok (.getfield 12, 3) := dgrp_at dg_a_67 11 rfl
theorem dX4_of_60 : decode cX4_of 60 = .ok (.getfield 68, 3) := dgrp_at dg_a_67 12 rfl
theorem dX4_of_63 : decode cX4_of 63 = .ok (.iload_n 1, 1) := dgrp_at dg_a_67 13 rfl
theorem dX4_of_64 : decode cX4_of 64 = .ok (.iaload, 1) := dgrp_at dg_a_67 14 rfl
theorem dX4_of_65 : decode cX4_of 65 = .ok (.ireturn, 1) := dgrp_at dg_a_67 15 rfl
theorem dX4_of_66 : decode cX4_of 66 = .ok (.aload_n 0, 1) := dgrp_at dg_a_67 16 rfl
theorem dX4_of_67 : decode cX4_of 67 = .ok (.getfield 12, 3) := dgrp_at dg_a_67 17 rfl
theorem dX4_of_70 : decode cX4_of 70 = .ok (.getfield 71, 3) := dgrp_at dg_a_67 18 rfl
theorem dX4_of_73 : decode cX4_of 73 = .ok (.iload_n 1, 1) := dgrp_at dg_a_67 19 rfl
theorem dX4_of_74 : decode cX4_of 74 = .ok (.iaload, 1) := dgrp_at dg_a_67 20 rfl
theorem dX4_of_75 : decode cX4_of 75 = .ok (.ireturn, 1) := dgrp_at dg_a_67 21 rfl
theorem dX4_of_76 : decode cX4_of 76 = .ok (.aload_n 0, 1) := dgrp_at dg_a_67 22 rfl
theorem dX4_of_77 : decode cX4_of 77 = .ok (.getfield 12, 3) := dgrp_at dg_a_67 23 rfl
theorem dX4_of_80 : decode cX4_of 80 = .ok (.getfield 74, 3) := dgrp_at dg_a_67 24 rfl
theorem dX4_of_83 : decode cX4_of 83 = .ok (.iload_n 1, 1) := dgrp_at dg_a_67 25 rfl
theorem dX4_of_84 : decode cX4_of 84 = .ok (.ishr, 1) := dgrp_at dg_a_67 26 rfl
theorem dX4_of_85 : decode cX4_of 85 = .ok (.iconst 1, 1) := dgrp_at dg_a_67 27 rfl
theorem dX4_of_86 : decode cX4_of 86 = .ok (.iand, 1) := dgrp_at dg_a_67 28 rfl
theorem dX4_of_87 : decode cX4_of 87 = .ok (.ireturn, 1) := dgrp_at dg_a_67 29 rfl
theorem dX4_of_88 : decode cX4_of 88 = .ok (.aload_n 0, 1) := dgrp_at dg_a_67 30 rfl
theorem dX4_of_89 : decode cX4_of 89 = .ok (.getfield 12, 3) := dgrp_at dg_a_67 31 rfl
def dl_a_68 : List (Nat × Instr × Nat) := [(92, .aload_n 0, 1), (93, .getfield 12, 3), (96, .getfield 74, 3), (99, .invokevirtual 77, 3), (102, .iload_n 1, 1), (103, .ishr, 1), (104, .iconst 1, 1), (105, .iand, 1), (106, .ireturn, 1), (107, .aload_n 0, 1), (108, .getfield 12, 3), (111, .iload_n 1, 1), (112, .aload_n 0, 1), (113, .getfield 12, 3), (116, .getfield 74, 3), (119, .invokevirtual 80, 3), (122, .invokestatic 84, 3), (125, .ireturn, 1), (126, .iload_n 1, 1), (127, .aload_n 0, 1), (128, .getfield 12, 3), (131, .getfield 74, 3), (134, .invokestatic 88, 3), (137, .ireturn, 1), (138, .aload_n 0, 1), (139, .ldc 51, 2), (141, .invokevirtual 52, 3), (144, .ireturn, 1)]
theorem dg_a_68 : dgrp cX4_of dl_a_68 = true := by decide +kernel
theorem dX4_of_92 : decode cX4_of 92 = .ok (.aload_n 0, 1) := dgrp_at dg_a_68 0 rfl
theorem dX4_of_93 : decode cX4_of 93 = .ok (.getfield 12, 3) := dgrp_at dg_a_68 1 rfl
theorem dX4_of_96 : decode cX4_of 96 = .ok (.getfield 74, 3) := dgrp_at dg_a_68 2 rfl
theorem dX4_of_99 : decode cX4_of 99 = .ok (.invokevirtual 77, 3) := dgrp_at dg_a_68 3 rfl
theorem dX4_of_102 : decode cX4_of 102 = .ok (.iload_n 1, 1) := dgrp_at dg_a_68 4 rfl
theorem dX4_of_103 : decode cX4_of 103 = .ok (.ishr, 1) := dgrp_at dg_a_68 5 rfl
theorem dX4_of_104 : decode cX4_of 104 = .ok (.iconst 1, 1) := dgrp_at dg_a_68 6 rfl
theorem dX4_of_105 : decode cX4_of 105 = .ok (.iand, 1) := dgrp_at dg_a_68 7 rfl
theorem dX4_of_106 : decode cX4_of 106 = .ok (.ireturn, 1) := dgrp_at dg_a_68 8 rfl
theorem dX4_of_107 : decode cX4_of 107 = .ok (.aload_n 0, 1) := dgrp_at dg_a_68 9 rfl
theorem dX4_of_108 : decode cX4_of 108 = .ok (.getfield 12, 3) := dgrp_at dg_a_68 10 rfl
theorem dX4_of_111 : decode cX4_of 111 = .ok (.iload_n 1, 1) := dgrp_at dg_a_68 11 rfl
theorem dX4_of_112 : decode cX4_of 112 = .ok (.aload_n 0, 1) := dgrp_at dg_a_68 12 rfl
theorem dX4_of_113 : decode cX4_of 113 = .ok (.getfield 12, 3) := dgrp_at dg_a_68 13 rfl
theorem dX4_of_116 : decode cX4_of 116 = .ok (.getfield 74, 3) := dgrp_at dg_a_68 14 rfl
theorem dX4_of_119 : decode cX4_of 119 = .ok (.invokevirtual 80, 3) := dgrp_at dg_a_68 15 rfl
theorem dX4_of_122 : decode cX4_of 122 = .ok (.invokestatic 84, 3) := dgrp_at dg_a_68 16 rfl
theorem dX4_of_125 : decode cX4_of 125 = .ok (.ireturn, 1) := dgrp_at dg_a_68 17 rfl
theorem dX4_of_126 : decode cX4_of 126 = .ok (.iload_n 1, 1) := dgrp_at dg_a_68 18 rfl
theorem dX4_of_127 : decode cX4_of 127 = .ok (.aload_n 0, 1) := dgrp_at dg_a_68 19 rfl
theorem dX4_of_128 : decode cX4_of 128 = .ok (.getfield 12, 3) := dgrp_at dg_a_68 20 rfl
theorem dX4_of_131 : decode cX4_of 131 = .ok (.getfield 74, 3) := dgrp_at dg_a_68 21 rfl
theorem dX4_of_134 : decode cX4_of 134 = .ok (.invokestatic 88, 3) := dgrp_at dg_a_68 22 rfl
theorem dX4_of_137 : decode cX4_of 137 = .ok (.ireturn, 1) := dgrp_at dg_a_68 23 rfl
theorem dX4_of_138 : decode cX4_of 138 = .ok (.aload_n 0, 1) := dgrp_at dg_a_68 24 rfl
theorem dX4_of_139 : decode cX4_of 139 = .ok (.ldc 51, 2) := dgrp_at dg_a_68 25 rfl
theorem dX4_of_141 : decode cX4_of 141 = .ok (.invokevirtual 52, 3) := dgrp_at dg_a_68 26 rfl
theorem dX4_of_144 : decode cX4_of 144 = .ok (.ireturn, 1) := dgrp_at dg_a_68 27 rfl
def dl_a_69 : List (Nat × Instr × Nat) := [(0, .aload_n 0, 1), (1, .getfield 12, 3), (4, .iload_n 1, 1), (5, .invokevirtual 65, 3), (8, .ifCond .eq 10, 3), (11, .iload_n 2, 1), (12, .invokestatic 48, 3), (15, .ifCond .ne 10, 3), (18, .aload_n 0, 1), (19, .ldc 51, 2), (21, .invokevirtual 52, 3), (24, .ireturn, 1), (25, .aload_n 0, 1), (26, .getfield 12, 3), (29, .getfield 71, 3), (32, .iload_n 1, 1), (33, .iaload, 1), (34, .istore_n 3, 1), (35, .aload_n 0, 1), (36, .getfield 12, 3), (39, .getfield 71, 3), (42, .iload_n 1, 1), (43, .iload_n 2, 1), (44, .iastore, 1), (45, .iload_n 3, 1), (46, .ireturn, 1)]
theorem dg_a_69 : dgrp cX4_cost dl_a_69 = true := by decide +kernel
theorem dX4_cost_0 : decode cX4_cost 0 = .ok (.aload_n 0, 1) := dgrp_at dg_a_69 0 rfl
theorem dX4_cost_1 : decode cX4_cost 1 = .ok (.getfield 12, 3) := dgrp_at dg_a_69 1 rfl
theorem dX4_cost_4 : decode cX4_cost 4 = .ok (.iload_n 1, 1) := dgrp_at dg_a_69 2 rfl
theorem dX4_cost_5 : decode cX4_cost 5 = .ok (.invokevirtual 65, 3) := dgrp_at dg_a_69 3 rfl
theorem dX4_cost_8 : decode cX4_cost 8 = .ok (.ifCond .eq 10, 3) := dgrp_at dg_a_69 4 rfl
theorem dX4_cost_11 : decode cX4_cost 11 = .ok (.iload_n 2, 1) := dgrp_at dg_a_69 5 rfl
theorem dX4_cost_12 : decode cX4_cost 12 = .ok (.invokestatic 48, 3) := dgrp_at dg_a_69 6 rfl
theorem dX4_cost_15 : decode cX4_cost 15 = .ok (.ifCond .ne 10, 3) := dgrp_at dg_a_69 7 rfl
theorem dX4_cost_18 : decode cX4_cost 18 = .ok (.aload_n 0, 1) := dgrp_at dg_a_69 8 rfl
theorem dX4_cost_19 : decode cX4_cost 19 = .ok (.ldc 51, 2) := dgrp_at dg_a_69 9 rfl
theorem dX4_cost_21 : decode cX4_cost 21 = .ok (.invokevirtual 52, 3) := dgrp_at dg_a_69 10 rfl
theorem dX4_cost_24 : decode cX4_cost 24 = .ok (.ireturn, 1) := dgrp_at dg_a_69 11 rfl
theorem dX4_cost_25 : decode cX4_cost 25 = .ok (.aload_n 0, 1) := dgrp_at dg_a_69 12 rfl
theorem dX4_cost_26 : decode cX4_cost 26 = .ok (.getfield 12, 3) := dgrp_at dg_a_69 13 rfl
theorem dX4_cost_29 : decode cX4_cost 29 = .ok (.getfield 71, 3) := dgrp_at dg_a_69 14 rfl
theorem dX4_cost_32 : decode cX4_cost 32 = .ok (.iload_n 1, 1) := dgrp_at dg_a_69 15 rfl
theorem dX4_cost_33 : decode cX4_cost 33 = .ok (.iaload, 1) := dgrp_at dg_a_69 16 rfl
theorem dX4_cost_34 : decode cX4_cost 34 = .ok (.istore_n 3, 1) := dgrp_at dg_a_69 17 rfl
theorem dX4_cost_35 : decode cX4_cost 35 = .ok (.aload_n 0, 1) := dgrp_at dg_a_69 18 rfl
theorem dX4_cost_36 : decode cX4_cost 36 = .ok (.getfield 12, 3) := dgrp_at dg_a_69 19 rfl
theorem dX4_cost_39 : decode cX4_cost 39 = .ok (.getfield 71, 3) := dgrp_at dg_a_69 20 rfl
theorem dX4_cost_42 : decode cX4_cost 42 = .ok (.iload_n 1, 1) := dgrp_at dg_a_69 21 rfl
theorem dX4_cost_43 : decode cX4_cost 43 = .ok (.iload_n 2, 1) := dgrp_at dg_a_69 22 rfl
theorem dX4_cost_44 : decode cX4_cost 44 = .ok (.iastore, 1) := dgrp_at dg_a_69 23 rfl
theorem dX4_cost_45 : decode cX4_cost 45 = .ok (.iload_n 3, 1) := dgrp_at dg_a_69 24 rfl
theorem dX4_cost_46 : decode cX4_cost 46 = .ok (.ireturn, 1) := dgrp_at dg_a_69 25 rfl
def dl_a_70 : List (Nat × Instr × Nat) := [(0, .aload_n 0, 1), (1, .getfield 12, 3), (4, .iload_n 1, 1), (5, .invokevirtual 65, 3), (8, .ifCond .eq 10, 3), (11, .iload_n 2, 1), (12, .invokestatic 44, 3), (15, .ifCond .ne 10, 3), (18, .aload_n 0, 1), (19, .ldc 51, 2), (21, .invokevirtual 52, 3), (24, .ireturn, 1), (25, .aload_n 0, 1), (26, .getfield 12, 3), (29, .iload_n 1, 1), (30, .iload_n 2, 1), (31, .invokevirtual 91, 3), (34, .ireturn, 1)]
theorem dg_a_70 : dgrp cX4_turn dl_a_70 = true := by decide +kernel
theorem dX4_turn_0 : decode cX4_turn 0 = .ok (.aload_n 0, 1) := dgrp_at dg_a_70 0 rfl
theorem dX4_turn_1 : decode cX4_turn 1 = .ok (.getfield 12, 3) := dgrp_at dg_a_70 1 rfl
theorem dX4_turn_4 : decode cX4_turn 4 = .ok (.iload_n 1, 1) := dgrp_at dg_a_70 2 rfl
theorem dX4_turn_5 : decode cX4_turn 5 = .ok (.invokevirtual 65, 3) := dgrp_at dg_a_70 3 rfl
theorem dX4_turn_8 : decode cX4_turn 8 = .ok (.ifCond .eq 10, 3) := dgrp_at dg_a_70 4 rfl
theorem dX4_turn_11 : decode cX4_turn 11 = .ok (.iload_n 2, 1) := dgrp_at dg_a_70 5 rfl
theorem dX4_turn_12 : decode cX4_turn 12 = .ok (.invokestatic 44, 3) := dgrp_at dg_a_70 6 rfl
theorem dX4_turn_15 : decode cX4_turn 15 = .ok (.ifCond .ne 10, 3) := dgrp_at dg_a_70 7 rfl
theorem dX4_turn_18 : decode cX4_turn 18 = .ok (.aload_n 0, 1) := dgrp_at dg_a_70 8 rfl
theorem dX4_turn_19 : decode cX4_turn 19 = .ok (.ldc 51, 2) := dgrp_at dg_a_70 9 rfl
theorem dX4_turn_21 : decode cX4_turn 21 = .ok (.invokevirtual 52, 3) := dgrp_at dg_a_70 10 rfl
theorem dX4_turn_24 : decode cX4_turn 24 = .ok (.ireturn, 1) := dgrp_at dg_a_70 11 rfl
theorem dX4_turn_25 : decode cX4_turn 25 = .ok (.aload_n 0, 1) := dgrp_at dg_a_70 12 rfl
theorem dX4_turn_26 : decode cX4_turn 26 = .ok (.getfield 12, 3) := dgrp_at dg_a_70 13 rfl
theorem dX4_turn_29 : decode cX4_turn 29 = .ok (.iload_n 1, 1) := dgrp_at dg_a_70 14 rfl
theorem dX4_turn_30 : decode cX4_turn 30 = .ok (.iload_n 2, 1) := dgrp_at dg_a_70 15 rfl
theorem dX4_turn_31 : decode cX4_turn 31 = .ok (.invokevirtual 91, 3) := dgrp_at dg_a_70 16 rfl
theorem dX4_turn_34 : decode cX4_turn 34 = .ok (.ireturn, 1) := dgrp_at dg_a_70 17 rfl
def dl_a_71 : List (Nat × Instr × Nat) := [(0, .aload_n 0, 1), (1, .getfield 12, 3), (4, .iload_n 1, 1), (5, .invokevirtual 65, 3), (8, .ifCond .eq 10, 3), (11, .iload_n 2, 1), (12, .invokestatic 44, 3), (15, .ifCond .ne 10, 3), (18, .aload_n 0, 1), (19, .ldc 51, 2), (21, .invokevirtual 52, 3), (24, .ireturn, 1), (25, .aload_n 0, 1), (26, .getfield 12, 3), (29, .getfield 68, 3), (32, .iload_n 1, 1), (33, .iaload, 1), (34, .iload_n 2, 1), (35, .invokestatic 94, 3), (38, .ifCond .eq 15, 3), (41, .aload_n 0, 1), (42, .getfield 12, 3), (45, .getfield 71, 3), (48, .iload_n 1, 1), (49, .iaload, 1), (50, .goto 9, 3), (53, .aload_n 0, 1), (54, .ldc 97, 2), (56, .invokevirtual 52, 3), (59, .ireturn, 1)]
theorem dg_a_71 : dgrp cX4_as dl_a_71 = true := by decide +kernel
theorem dX4_as_0 : decode cX4_as 0 = .ok (.aload_n 0, 1) := dgrp_at dg_a_71 0 rfl
theorem dX4_as_1 : decode cX4_as 1 = .ok (.getfield 12, 3) := dgrp_at dg_a_71 1 rfl
theorem dX4_as_4 : decode cX4_as 4 = .ok (.iload_n 1, 1) := dgrp_at dg_a_71 2 rfl
theorem dX4_as_5 : decode cX4_as 5 = .ok (.invokevirtual 65, 3) := dgrp_at dg_a_71 3 rfl
theorem dX4_as_8 : decode cX4_as 8 = .ok (.ifCond .eq 10, 3) := dgrp_at dg_a_71 4 rfl
theorem dX4_as_11 : decode cX4_as 11 = .ok (.iload_n 2, 1) := dgrp_at dg_a_71 5 rfl
theorem dX4_as_12 : decode cX4_as 12 = .ok (.invokestatic 44, 3) := dgrp_at dg_a_71 6 rfl
theorem dX4_as_15 : decode cX4_as 15 = .ok (.ifCond .ne 10, 3) := dgrp_at dg_a_71 7 rfl
theorem dX4_as_18 : decode cX4_as 18 = .ok (.aload_n 0, 1) := dgrp_at dg_a_71 8 rfl
theorem dX4_as_19 : decode cX4_as 19 = .ok (.ldc 51, 2) := dgrp_at dg_a_71 9 rfl
theorem dX4_as_21 : decode cX4_as 21 = .ok (.invokevirtual 52, 3) := dgrp_at dg_a_71 10 rfl
theorem dX4_as_24 : decode cX4_as 24 = .ok (.ireturn, 1) := dgrp_at dg_a_71 11 rfl
theorem dX4_as_25 : decode cX4_as 25 = .ok (.aload_n 0, 1) := dgrp_at dg_a_71 12 rfl
theorem dX4_as_26 : decode cX4_as 26 = .ok (.getfield 12, 3) := dgrp_at dg_a_71 13 rfl
theorem dX4_as_29 : decode cX4_as 29 = .ok (.getfield 68, 3) := dgrp_at dg_a_71 14 rfl
theorem dX4_as_32 : decode cX4_as 32 = .ok (.iload_n 1, 1) := dgrp_at dg_a_71 15 rfl
theorem dX4_as_33 : decode cX4_as 33 = .ok (.iaload, 1) := dgrp_at dg_a_71 16 rfl
theorem dX4_as_34 : decode cX4_as 34 = .ok (.iload_n 2, 1) := dgrp_at dg_a_71 17 rfl
theorem dX4_as_35 : decode cX4_as 35 = .ok (.invokestatic 94, 3) := dgrp_at dg_a_71 18 rfl
theorem dX4_as_38 : decode cX4_as 38 = .ok (.ifCond .eq 15, 3) := dgrp_at dg_a_71 19 rfl
theorem dX4_as_41 : decode cX4_as 41 = .ok (.aload_n 0, 1) := dgrp_at dg_a_71 20 rfl
theorem dX4_as_42 : decode cX4_as 42 = .ok (.getfield 12, 3) := dgrp_at dg_a_71 21 rfl
theorem dX4_as_45 : decode cX4_as 45 = .ok (.getfield 71, 3) := dgrp_at dg_a_71 22 rfl
theorem dX4_as_48 : decode cX4_as 48 = .ok (.iload_n 1, 1) := dgrp_at dg_a_71 23 rfl
theorem dX4_as_49 : decode cX4_as 49 = .ok (.iaload, 1) := dgrp_at dg_a_71 24 rfl
theorem dX4_as_50 : decode cX4_as 50 = .ok (.goto 9, 3) := dgrp_at dg_a_71 25 rfl
theorem dX4_as_53 : decode cX4_as 53 = .ok (.aload_n 0, 1) := dgrp_at dg_a_71 26 rfl
theorem dX4_as_54 : decode cX4_as 54 = .ok (.ldc 97, 2) := dgrp_at dg_a_71 27 rfl
theorem dX4_as_56 : decode cX4_as 56 = .ok (.invokevirtual 52, 3) := dgrp_at dg_a_71 28 rfl
theorem dX4_as_59 : decode cX4_as 59 = .ok (.ireturn, 1) := dgrp_at dg_a_71 29 rfl
def dl_a_72 : List (Nat × Instr × Nat) := [(0, .aload_n 0, 1), (1, .getfield 12, 3), (4, .iload_n 1, 1), (5, .invokevirtual 65, 3), (8, .ifCond .ne 10, 3), (11, .aload_n 0, 1), (12, .ldc 51, 2), (14, .invokevirtual 52, 3), (17, .ireturn, 1), (18, .aload_n 0, 1), (19, .getfield 22, 3), (22, .iload_n 1, 1), (23, .iconst 0, 1), (24, .invokevirtual 98, 3), (27, .lstore_n 2, 1), (28, .aload_n 0, 1), (29, .getfield 22, 3), (32, .getfield 102, 3), (35, .istore 4, 2), (37, .iload 4, 2), (39, .ifCond .ge 48, 3), (42, .aload_n 0, 1), (43, .getfield 12, 3), (46, .iload_n 1, 1), (47, .iconst 0, 1), (48, .lload_n 2, 1), (49, .invokevirtual 105, 3), (52, .iconst 1, 1), (53, .istore 5, 2), (55, .iload 5, 2), (57, .iconst 4, 1), (58, .if_icmp .ge 29, 3)]
theorem dg_a_72 : dgrp cX4_term dl_a_72 = true := by decide +kernel
theorem dX4_term_0 : decode cX4_term 0 = .ok (.aload_n 0, 1) := dgrp_at dg_a_72 0 rfl
theorem dX4_term_1 : decode cX4_term 1 = .ok (.getfield 12, 3) := dgrp_at dg_a_72 1 rfl
theorem dX4_term_4 : decode cX4_term 4 = .ok (.iload_n 1, 1) := dgrp_at dg_a_72 2 rfl
theorem dX4_term_5 : decode cX4_term 5 = .ok (.invokevirtual 65, 3) := dgrp_at dg_a_72 3 rfl
theorem dX4_term_8 : decode cX4_term 8 = .ok (.ifCond .ne 10, 3) := dgrp_at dg_a_72 4 rfl
theorem dX4_term_11 : decode cX4_term 11 = .ok (.aload_n 0, 1) := dgrp_at dg_a_72 5 rfl
theorem dX4_term_12 : decode cX4_term 12 = .ok (.ldc 51, 2) := dgrp_at dg_a_72 6 rfl
theorem dX4_term_14 : decode cX4_term 14 = .ok (.invokevirtual 52, 3) := dgrp_at dg_a_72 7 rfl
theorem dX4_term_17 : decode cX4_term 17 = .ok (.ireturn, 1) := dgrp_at dg_a_72 8 rfl
theorem dX4_term_18 : decode cX4_term 18 = .ok (.aload_n 0, 1) := dgrp_at dg_a_72 9 rfl
theorem dX4_term_19 : decode cX4_term 19 = .ok (.getfield 22, 3) := dgrp_at dg_a_72 10 rfl
theorem dX4_term_22 : decode cX4_term 22 = .ok (.iload_n 1, 1) := dgrp_at dg_a_72 11 rfl
theorem dX4_term_23 : decode cX4_term 23 = .ok (.iconst 0, 1) := dgrp_at dg_a_72 12 rfl
theorem dX4_term_24 : decode cX4_term 24 = .ok (.invokevirtual 98, 3) := dgrp_at dg_a_72 13 rfl
theorem dX4_term_27 : decode cX4_term 27 = .ok (.lstore_n 2, 1) := dgrp_at dg_a_72 14 rfl
theorem dX4_term_28 : decode cX4_term 28 = .ok (.aload_n 0, 1) := dgrp_at dg_a_72 15 rfl
theorem dX4_term_29 : decode cX4_term 29 = .ok (.getfield 22, 3) := dgrp_at dg_a_72 16 rfl
theorem dX4_term_32 : decode cX4_term 32 = .ok (.getfield 102, 3) := dgrp_at dg_a_72 17 rfl
theorem dX4_term_35 : decode cX4_term 35 = .ok (.istore 4, 2) := dgrp_at dg_a_72 18 rfl
theorem dX4_term_37 : decode cX4_term 37 = .ok (.iload 4, 2) := dgrp_at dg_a_72 19 rfl
theorem dX4_term_39 : decode cX4_term 39 = .ok (.ifCond .ge 48, 3) := dgrp_at dg_a_72 20 rfl
theorem dX4_term_42 : decode cX4_term 42 = .ok (.aload_n 0, 1) := dgrp_at dg_a_72 21 rfl
theorem dX4_term_43 : decode cX4_term 43 = .ok (.getfield 12, 3) := dgrp_at dg_a_72 22 rfl
theorem dX4_term_46 : decode cX4_term 46 = .ok (.iload_n 1, 1) := dgrp_at dg_a_72 23 rfl
theorem dX4_term_47 : decode cX4_term 47 = .ok (.iconst 0, 1) := dgrp_at dg_a_72 24 rfl
theorem dX4_term_48 : decode cX4_term 48 = .ok (.lload_n 2, 1) := dgrp_at dg_a_72 25 rfl
theorem dX4_term_49 : decode cX4_term 49 = .ok (.invokevirtual 105, 3) := dgrp_at dg_a_72 26 rfl
theorem dX4_term_52 : decode cX4_term 52 = .ok (.iconst 1, 1) := dgrp_at dg_a_72 27 rfl
theorem dX4_term_53 : decode cX4_term 53 = .ok (.istore 5, 2) := dgrp_at dg_a_72 28 rfl
theorem dX4_term_55 : decode cX4_term 55 = .ok (.iload 5, 2) := dgrp_at dg_a_72 29 rfl
theorem dX4_term_57 : decode cX4_term 57 = .ok (.iconst 4, 1) := dgrp_at dg_a_72 30 rfl
theorem dX4_term_58 : decode cX4_term 58 = .ok (.if_icmp .ge 29, 3) := dgrp_at dg_a_72 31 rfl
def dl_a_73 : List (Nat × Instr × Nat) := [(61, .aload_n 0, 1), (62, .getfield 12, 3), (65, .iload_n 1, 1), (66, .iload 5, 2), (68, .aload_n 0, 1), (69, .getfield 22, 3), (72, .iload_n 1, 1), (73, .iload 5, 2), (75, .invokevirtual 98, 3), (78, .invokevirtual 105, 3), (81, .iinc 5 1, 3), (84, .goto (-29), 3), (87, .aload_n 0, 1), (88, .getfield 22, 3), (91, .iconst 0, 1), (92, .putfield 109, 3), (95, .iload 4, 2), (97, .ifCond .ge 7, 3), (100, .iconst 1, 1), (101, .goto 7, 3), (104, .iconst (-1), 1), (105, .iload 4, 2), (107, .isub, 1), (108, .ireturn, 1)]
theorem dg_a_73 : dgrp cX4_term dl_a_73 = true := by decide +kernel
theorem dX4_term_61 : decode cX4_term 61 = .ok (.aload_n 0, 1) := dgrp_at dg_a_73 0 rfl
theorem dX4_term_62 : decode cX4_term 62 = .ok (.getfield 12, 3) := dgrp_at dg_a_73 1 rfl
theorem dX4_term_65 : decode cX4_term 65 = .ok (.iload_n 1, 1) := dgrp_at dg_a_73 2 rfl
theorem dX4_term_66 : decode cX4_term 66 = .ok (.iload 5, 2) := dgrp_at dg_a_73 3 rfl
theorem dX4_term_68 : decode cX4_term 68 = .ok (.aload_n 0, 1) := dgrp_at dg_a_73 4 rfl
theorem dX4_term_69 : decode cX4_term 69 = .ok (.getfield 22, 3) := dgrp_at dg_a_73 5 rfl
theorem dX4_term_72 : decode cX4_term 72 = .ok (.iload_n 1, 1) := dgrp_at dg_a_73 6 rfl
theorem dX4_term_73 : decode cX4_term 73 = .ok (.iload 5, 2) := dgrp_at dg_a_73 7 rfl
theorem dX4_term_75 : decode cX4_term 75 = .ok (.invokevirtual 98, 3) := dgrp_at dg_a_73 8 rfl
theorem dX4_term_78 : decode cX4_term 78 = .ok (.invokevirtual 105, 3) := dgrp_at dg_a_73 9 rfl
theorem dX4_term_81 : decode cX4_term 81 = .ok (.iinc 5 1, 3) := dgrp_at dg_a_73 10 rfl
theorem dX4_term_84 : decode cX4_term 84 = .ok (.goto (-29), 3) := dgrp_at dg_a_73 11 rfl
theorem dX4_term_87 : decode cX4_term 87 = .ok (.aload_n 0, 1) := dgrp_at dg_a_73 12 rfl
theorem dX4_term_88 : decode cX4_term 88 = .ok (.getfield 22, 3) := dgrp_at dg_a_73 13 rfl
theorem dX4_term_91 : decode cX4_term 91 = .ok (.iconst 0, 1) := dgrp_at dg_a_73 14 rfl
theorem dX4_term_92 : decode cX4_term 92 = .ok (.putfield 109, 3) := dgrp_at dg_a_73 15 rfl
theorem dX4_term_95 : decode cX4_term 95 = .ok (.iload 4, 2) := dgrp_at dg_a_73 16 rfl
theorem dX4_term_97 : decode cX4_term 97 = .ok (.ifCond .ge 7, 3) := dgrp_at dg_a_73 17 rfl
theorem dX4_term_100 : decode cX4_term 100 = .ok (.iconst 1, 1) := dgrp_at dg_a_73 18 rfl
theorem dX4_term_101 : decode cX4_term 101 = .ok (.goto 7, 3) := dgrp_at dg_a_73 19 rfl
theorem dX4_term_104 : decode cX4_term 104 = .ok (.iconst (-1), 1) := dgrp_at dg_a_73 20 rfl
theorem dX4_term_105 : decode cX4_term 105 = .ok (.iload 4, 2) := dgrp_at dg_a_73 21 rfl
theorem dX4_term_107 : decode cX4_term 107 = .ok (.isub, 1) := dgrp_at dg_a_73 22 rfl
theorem dX4_term_108 : decode cX4_term 108 = .ok (.ireturn, 1) := dgrp_at dg_a_73 23 rfl
def dl_a_74 : List (Nat × Instr × Nat) := [(0, .iload_n 2, 1), (1, .iconst 1, 1), (2, .if_icmp .lt 8, 3), (5, .iload_n 2, 1), (6, .iconst 4, 1), (7, .if_icmp .le 10, 3), (10, .aload_n 0, 1), (11, .ldc 51, 2), (13, .invokevirtual 52, 3), (16, .ireturn, 1), (17, .iload_n 2, 1), (18, .bipush 60, 2), (20, .aload_n 0, 1), (21, .getfield 22, 3), (24, .getfield 109, 3), (27, .isub, 1), (28, .if_icmp .gt 15, 3), (31, .aload_n 0, 1), (32, .getfield 22, 3), (35, .iload_n 1, 1), (36, .iload_n 2, 1), (37, .invokevirtual 112, 3), (40, .goto 9, 3), (43, .aload_n 0, 1), (44, .ldc 64, 2), (46, .invokevirtual 52, 3), (49, .ireturn, 1)]
theorem dg_a_74 : dgrp cX4_feed dl_a_74 = true := by decide +kernel
theorem dX4_feed_0 : decode cX4_feed 0 = .ok (.iload_n 2, 1) := dgrp_at dg_a_74 0 rfl
theorem dX4_feed_1 : decode cX4_feed 1 = .ok (.iconst 1, 1) := dgrp_at dg_a_74 1 rfl
theorem dX4_feed_2 : decode cX4_feed 2 = .ok (.if_icmp .lt 8, 3) := dgrp_at dg_a_74 2 rfl
theorem dX4_feed_5 : decode cX4_feed 5 = .ok (.iload_n 2, 1) := dgrp_at dg_a_74 3 rfl
theorem dX4_feed_6 : decode cX4_feed 6 = .ok (.iconst 4, 1) := dgrp_at dg_a_74 4 rfl
theorem dX4_feed_7 : decode cX4_feed 7 = .ok (.if_icmp .le 10, 3) := dgrp_at dg_a_74 5 rfl
theorem dX4_feed_10 : decode cX4_feed 10 = .ok (.aload_n 0, 1) := dgrp_at dg_a_74 6 rfl
theorem dX4_feed_11 : decode cX4_feed 11 = .ok (.ldc 51, 2) := dgrp_at dg_a_74 7 rfl
theorem dX4_feed_13 : decode cX4_feed 13 = .ok (.invokevirtual 52, 3) := dgrp_at dg_a_74 8 rfl
theorem dX4_feed_16 : decode cX4_feed 16 = .ok (.ireturn, 1) := dgrp_at dg_a_74 9 rfl
theorem dX4_feed_17 : decode cX4_feed 17 = .ok (.iload_n 2, 1) := dgrp_at dg_a_74 10 rfl
theorem dX4_feed_18 : decode cX4_feed 18 = .ok (.bipush 60, 2) := dgrp_at dg_a_74 11 rfl
theorem dX4_feed_20 : decode cX4_feed 20 = .ok (.aload_n 0, 1) := dgrp_at dg_a_74 12 rfl
theorem dX4_feed_21 : decode cX4_feed 21 = .ok (.getfield 22, 3) := dgrp_at dg_a_74 13 rfl
theorem dX4_feed_24 : decode cX4_feed 24 = .ok (.getfield 109, 3) := dgrp_at dg_a_74 14 rfl
theorem dX4_feed_27 : decode cX4_feed 27 = .ok (.isub, 1) := dgrp_at dg_a_74 15 rfl
theorem dX4_feed_28 : decode cX4_feed 28 = .ok (.if_icmp .gt 15, 3) := dgrp_at dg_a_74 16 rfl
theorem dX4_feed_31 : decode cX4_feed 31 = .ok (.aload_n 0, 1) := dgrp_at dg_a_74 17 rfl
theorem dX4_feed_32 : decode cX4_feed 32 = .ok (.getfield 22, 3) := dgrp_at dg_a_74 18 rfl
theorem dX4_feed_35 : decode cX4_feed 35 = .ok (.iload_n 1, 1) := dgrp_at dg_a_74 19 rfl
theorem dX4_feed_36 : decode cX4_feed 36 = .ok (.iload_n 2, 1) := dgrp_at dg_a_74 20 rfl
theorem dX4_feed_37 : decode cX4_feed 37 = .ok (.invokevirtual 112, 3) := dgrp_at dg_a_74 21 rfl
theorem dX4_feed_40 : decode cX4_feed 40 = .ok (.goto 9, 3) := dgrp_at dg_a_74 22 rfl
theorem dX4_feed_43 : decode cX4_feed 43 = .ok (.aload_n 0, 1) := dgrp_at dg_a_74 23 rfl
theorem dX4_feed_44 : decode cX4_feed 44 = .ok (.ldc 64, 2) := dgrp_at dg_a_74 24 rfl
theorem dX4_feed_46 : decode cX4_feed 46 = .ok (.invokevirtual 52, 3) := dgrp_at dg_a_74 25 rfl
theorem dX4_feed_49 : decode cX4_feed 49 = .ok (.ireturn, 1) := dgrp_at dg_a_74 26 rfl
def dl_a_75 : List (Nat × Instr × Nat) := [(0, .aload_n 0, 1), (1, .getfield 22, 3), (4, .getfield 109, 3), (7, .istore_n 1, 1), (8, .aload_n 0, 1), (9, .getfield 22, 3), (12, .iconst 0, 1), (13, .putfield 109, 3), (16, .iload_n 1, 1), (17, .ireturn, 1)]
theorem dg_a_75 : dgrp cX4_wipe dl_a_75 = true := by decide +kernel
theorem dX4_wipe_0 : decode cX4_wipe 0 = .ok (.aload_n 0, 1) := dgrp_at dg_a_75 0 rfl
theorem dX4_wipe_1 : decode cX4_wipe 1 = .ok (.getfield 22, 3) := dgrp_at dg_a_75 1 rfl
theorem dX4_wipe_4 : decode cX4_wipe 4 = .ok (.getfield 109, 3) := dgrp_at dg_a_75 2 rfl
theorem dX4_wipe_7 : decode cX4_wipe 7 = .ok (.istore_n 1, 1) := dgrp_at dg_a_75 3 rfl
theorem dX4_wipe_8 : decode cX4_wipe 8 = .ok (.aload_n 0, 1) := dgrp_at dg_a_75 4 rfl
theorem dX4_wipe_9 : decode cX4_wipe 9 = .ok (.getfield 22, 3) := dgrp_at dg_a_75 5 rfl
theorem dX4_wipe_12 : decode cX4_wipe 12 = .ok (.iconst 0, 1) := dgrp_at dg_a_75 6 rfl
theorem dX4_wipe_13 : decode cX4_wipe 13 = .ok (.putfield 109, 3) := dgrp_at dg_a_75 7 rfl
theorem dX4_wipe_16 : decode cX4_wipe 16 = .ok (.iload_n 1, 1) := dgrp_at dg_a_75 8 rfl
theorem dX4_wipe_17 : decode cX4_wipe 17 = .ok (.ireturn, 1) := dgrp_at dg_a_75 9 rfl
def dl_a_76 : List (Nat × Instr × Nat) := [(0, .aload_n 0, 1), (1, .getfield 12, 3), (4, .iload_n 1, 1), (5, .invokevirtual 115, 3), (8, .ifCond .ne 10, 3), (11, .aload_n 0, 1), (12, .ldc 51, 2), (14, .invokevirtual 52, 3), (17, .ireturn, 1), (18, .aload_n 0, 1), (19, .getfield 12, 3), (22, .getfield 74, 3), (25, .istore_n 2, 1), (26, .aload_n 0, 1), (27, .getfield 12, 3), (30, .iload_n 1, 1), (31, .putfield 74, 3), (34, .iload_n 2, 1), (35, .ireturn, 1)]
theorem dg_a_76 : dgrp cX4_list dl_a_76 = true := by decide +kernel
theorem dX4_list_0 : decode cX4_list 0 = .ok (.aload_n 0, 1) := dgrp_at dg_a_76 0 rfl
theorem dX4_list_1 : decode cX4_list 1 = .ok (.getfield 12, 3) := dgrp_at dg_a_76 1 rfl
theorem dX4_list_4 : decode cX4_list 4 = .ok (.iload_n 1, 1) := dgrp_at dg_a_76 2 rfl
theorem dX4_list_5 : decode cX4_list 5 = .ok (.invokevirtual 115, 3) := dgrp_at dg_a_76 3 rfl
theorem dX4_list_8 : decode cX4_list 8 = .ok (.ifCond .ne 10, 3) := dgrp_at dg_a_76 4 rfl
theorem dX4_list_11 : decode cX4_list 11 = .ok (.aload_n 0, 1) := dgrp_at dg_a_76 5 rfl
theorem dX4_list_12 : decode cX4_list 12 = .ok (.ldc 51, 2) := dgrp_at dg_a_76 6 rfl
theorem dX4_list_14 : decode cX4_list 14 = .ok (.invokevirtual 52, 3) := dgrp_at dg_a_76 7 rfl
theorem dX4_list_17 : decode cX4_list 17 = .ok (.ireturn, 1) := dgrp_at dg_a_76 8 rfl
theorem dX4_list_18 : decode cX4_list 18 = .ok (.aload_n 0, 1) := dgrp_at dg_a_76 9 rfl
theorem dX4_list_19 : decode cX4_list 19 = .ok (.getfield 12, 3) := dgrp_at dg_a_76 10 rfl
theorem dX4_list_22 : decode cX4_list 22 = .ok (.getfield 74, 3) := dgrp_at dg_a_76 11 rfl
theorem dX4_list_25 : decode cX4_list 25 = .ok (.istore_n 2, 1) := dgrp_at dg_a_76 12 rfl
theorem dX4_list_26 : decode cX4_list 26 = .ok (.aload_n 0, 1) := dgrp_at dg_a_76 13 rfl
theorem dX4_list_27 : decode cX4_list 27 = .ok (.getfield 12, 3) := dgrp_at dg_a_76 14 rfl
theorem dX4_list_30 : decode cX4_list 30 = .ok (.iload_n 1, 1) := dgrp_at dg_a_76 15 rfl
theorem dX4_list_31 : decode cX4_list 31 = .ok (.putfield 74, 3) := dgrp_at dg_a_76 16 rfl
theorem dX4_list_34 : decode cX4_list 34 = .ok (.iload_n 2, 1) := dgrp_at dg_a_76 17 rfl
theorem dX4_list_35 : decode cX4_list 35 = .ok (.ireturn, 1) := dgrp_at dg_a_76 18 rfl
def dl_a_77 : List (Nat × Instr × Nat) := [(0, .iload_n 1, 1), (36, .aload_n 0, 1), (37, .getfield 12, 3), (40, .getfield 74, 3), (43, .ireturn, 1), (44, .aload_n 0, 1), (45, .getfield 12, 3), (48, .getfield 74, 3), (51, .invokestatic 118, 3), (54, .ireturn, 1), (55, .aload_n 0, 1), (56, .getfield 12, 3), (59, .aload_n 0, 1), (60, .getfield 12, 3), (63, .getfield 74, 3), (66, .invokevirtual 77, 3), (69, .ireturn, 1), (70, .aload_n 0, 1), (71, .getfield 12, 3), (74, .aload_n 0, 1), (75, .getfield 12, 3), (78, .getfield 74, 3), (81, .invokevirtual 123, 3), (84, .invokestatic 84, 3), (87, .ireturn, 1), (88, .aload_n 0, 1), (89, .getfield 12, 3), (92, .aload_n 0, 1), (93, .getfield 12, 3), (96, .getfield 74, 3), (99, .invokevirtual 126, 3), (102, .ireturn, 1)]
theorem dg_a_77 : dgrp cX4_now dl_a_77 = true := by decide +kernel
theorem dX4_now_0 : decode cX4_now 0 = .ok (.iload_n 1, 1) := dgrp_at dg_a_77 0 rfl
theorem dX4_now_36 : decode cX4_now 36 = .ok (.aload_n 0, 1) := dgrp_at dg_a_77 1 rfl
theorem dX4_now_37 : decode cX4_now 37 = .ok (.getfield 12, 3) := dgrp_at dg_a_77 2 rfl
theorem dX4_now_40 : decode cX4_now 40 = .ok (.getfield 74, 3) := dgrp_at dg_a_77 3 rfl
theorem dX4_now_43 : decode cX4_now 43 = .ok (.ireturn, 1) := dgrp_at dg_a_77 4 rfl
theorem dX4_now_44 : decode cX4_now 44 = .ok (.aload_n 0, 1) := dgrp_at dg_a_77 5 rfl
theorem dX4_now_45 : decode cX4_now 45 = .ok (.getfield 12, 3) := dgrp_at dg_a_77 6 rfl
theorem dX4_now_48 : decode cX4_now 48 = .ok (.getfield 74, 3) := dgrp_at dg_a_77 7 rfl
theorem dX4_now_51 : decode cX4_now 51 = .ok (.invokestatic 118, 3) := dgrp_at dg_a_77 8 rfl
theorem dX4_now_54 : decode cX4_now 54 = .ok (.ireturn, 1) := dgrp_at dg_a_77 9 rfl
theorem dX4_now_55 : decode cX4_now 55 = .ok (.aload_n 0, 1) := dgrp_at dg_a_77 10 rfl
theorem dX4_now_56 : decode cX4_now 56 = .ok (.getfield 12, 3) := dgrp_at dg_a_77 11 rfl
theorem dX4_now_59 : decode cX4_now 59 = .ok (.aload_n 0, 1) := dgrp_at dg_a_77 12 rfl
theorem dX4_now_60 : decode cX4_now 60 = .ok (.getfield 12, 3) := dgrp_at dg_a_77 13 rfl
theorem dX4_now_63 : decode cX4_now 63 = .ok (.getfield 74, 3) := dgrp_at dg_a_77 14 rfl
theorem dX4_now_66 : decode cX4_now 66 = .ok (.invokevirtual 77, 3) := dgrp_at dg_a_77 15 rfl
theorem dX4_now_69 : decode cX4_now 69 = .ok (.ireturn, 1) := dgrp_at dg_a_77 16 rfl
theorem dX4_now_70 : decode cX4_now 70 = .ok (.aload_n 0, 1) := dgrp_at dg_a_77 17 rfl
theorem dX4_now_71 : decode cX4_now 71 = .ok (.getfield 12, 3) := dgrp_at dg_a_77 18 rfl
theorem dX4_now_74 : decode cX4_now 74 = .ok (.aload_n 0, 1) := dgrp_at dg_a_77 19 rfl
theorem dX4_now_75 : decode cX4_now 75 = .ok (.getfield 12, 3) := dgrp_at dg_a_77 20 rfl
theorem dX4_now_78 : decode cX4_now 78 = .ok (.getfield 74, 3) := dgrp_at dg_a_77 21 rfl
theorem dX4_now_81 : decode cX4_now 81 = .ok (.invokevirtual 123, 3) := dgrp_at dg_a_77 22 rfl
theorem dX4_now_84 : decode cX4_now 84 = .ok (.invokestatic 84, 3) := dgrp_at dg_a_77 23 rfl
theorem dX4_now_87 : decode cX4_now 87 = .ok (.ireturn, 1) := dgrp_at dg_a_77 24 rfl
theorem dX4_now_88 : decode cX4_now 88 = .ok (.aload_n 0, 1) := dgrp_at dg_a_77 25 rfl
theorem dX4_now_89 : decode cX4_now 89 = .ok (.getfield 12, 3) := dgrp_at dg_a_77 26 rfl
theorem dX4_now_92 : decode cX4_now 92 = .ok (.aload_n 0, 1) := dgrp_at dg_a_77 27 rfl
theorem dX4_now_93 : decode cX4_now 93 = .ok (.getfield 12, 3) := dgrp_at dg_a_77 28 rfl
theorem dX4_now_96 : decode cX4_now 96 = .ok (.getfield 74, 3) := dgrp_at dg_a_77 29 rfl
theorem dX4_now_99 : decode cX4_now 99 = .ok (.invokevirtual 126, 3) := dgrp_at dg_a_77 30 rfl
theorem dX4_now_102 : decode cX4_now 102 = .ok (.ireturn, 1) := dgrp_at dg_a_77 31 rfl
def dl_a_78 : List (Nat × Instr × Nat) := [(103, .aload_n 0, 1), (104, .ldc 51, 2), (106, .invokevirtual 52, 3), (109, .ireturn, 1)]
theorem dg_a_78 : dgrp cX4_now dl_a_78 = true := by decide +kernel
theorem dX4_now_103 : decode cX4_now 103 = .ok (.aload_n 0, 1) := dgrp_at dg_a_78 0 rfl
theorem dX4_now_104 : decode cX4_now 104 = .ok (.ldc 51, 2) := dgrp_at dg_a_78 1 rfl
theorem dX4_now_106 : decode cX4_now 106 = .ok (.invokevirtual 52, 3) := dgrp_at dg_a_78 2 rfl
theorem dX4_now_109 : decode cX4_now 109 = .ok (.ireturn, 1) := dgrp_at dg_a_78 3 rfl
def dl_a_79 : List (Nat × Instr × Nat) := [(0, .aload_n 0, 1), (1, .getfield 12, 3), (4, .iload_n 1, 1), (5, .invokevirtual 65, 3), (8, .ifCond .eq 14, 3), (11, .aload_n 0, 1), (12, .getfield 12, 3), (15, .iload_n 1, 1), (16, .invokevirtual 129, 3), (19, .goto 9, 3), (22, .aload_n 0, 1), (23, .ldc 51, 2), (25, .invokevirtual 52, 3), (28, .ireturn, 1)]
theorem dg_a_79 : dgrp cX4_call dl_a_79 = true := by decide +kernel
theorem dX4_call_0 : decode cX4_call 0 = .ok (.aload_n 0, 1) := dgrp_at dg_a_79 0 rfl
theorem dX4_call_1 : decode cX4_call 1 = .ok (.getfield 12, 3) := dgrp_at dg_a_79 1 rfl
theorem dX4_call_4 : decode cX4_call 4 = .ok (.iload_n 1, 1) := dgrp_at dg_a_79 2 rfl
theorem dX4_call_5 : decode cX4_call 5 = .ok (.invokevirtual 65, 3) := dgrp_at dg_a_79 3 rfl
theorem dX4_call_8 : decode cX4_call 8 = .ok (.ifCond .eq 14, 3) := dgrp_at dg_a_79 4 rfl
theorem dX4_call_11 : decode cX4_call 11 = .ok (.aload_n 0, 1) := dgrp_at dg_a_79 5 rfl
theorem dX4_call_12 : decode cX4_call 12 = .ok (.getfield 12, 3) := dgrp_at dg_a_79 6 rfl
theorem dX4_call_15 : decode cX4_call 15 = .ok (.iload_n 1, 1) := dgrp_at dg_a_79 7 rfl
theorem dX4_call_16 : decode cX4_call 16 = .ok (.invokevirtual 129, 3) := dgrp_at dg_a_79 8 rfl
theorem dX4_call_19 : decode cX4_call 19 = .ok (.goto 9, 3) := dgrp_at dg_a_79 9 rfl
theorem dX4_call_22 : decode cX4_call 22 = .ok (.aload_n 0, 1) := dgrp_at dg_a_79 10 rfl
theorem dX4_call_23 : decode cX4_call 23 = .ok (.ldc 51, 2) := dgrp_at dg_a_79 11 rfl
theorem dX4_call_25 : decode cX4_call 25 = .ok (.invokevirtual 52, 3) := dgrp_at dg_a_79 12 rfl
theorem dX4_call_28 : decode cX4_call 28 = .ok (.ireturn, 1) := dgrp_at dg_a_79 13 rfl
def dl_a_80 : List (Nat × Instr × Nat) := [(0, .iload_n 1, 1), (1, .iconst 1, 1), (2, .if_icmp .lt 9, 3), (5, .iload_n 1, 1), (6, .bipush 20, 2), (8, .if_icmp .le 10, 3), (11, .aload_n 0, 1), (12, .ldc 51, 2), (14, .invokevirtual 52, 3), (17, .ireturn, 1), (18, .iconst 0, 1), (19, .istore_n 2, 1), (20, .iconst 0, 1), (21, .istore_n 3, 1), (22, .iload_n 3, 1), (23, .iload_n 1, 1), (24, .if_icmp .ge 42, 3), (27, .iconst 0, 1), (28, .istore 4, 2), (30, .iload 4, 2), (32, .aload_n 0, 1), (33, .getfield 12, 3), (36, .getfield 56, 3), (39, .if_icmp .ge 21, 3), (42, .iload_n 2, 1), (43, .aload_n 0, 1), (44, .getfield 12, 3), (47, .iload 4, 2), (49, .invokevirtual 129, 3), (52, .iadd, 1), (53, .istore_n 2, 1), (54, .iinc 4 1, 3)]
theorem dg_a_80 : dgrp cX4_calls dl_a_80 = true := by decide +kernel
theorem dX4_calls_0 : decode cX4_calls 0 = .ok (.iload_n 1, 1) := dgrp_at dg_a_80 0 rfl
theorem dX4_calls_1 : decode cX4_calls 1 = .ok (.iconst 1, 1) := dgrp_at dg_a_80 1 rfl
theorem dX4_calls_2 : decode cX4_calls 2 = .ok (.if_icmp .lt 9, 3) := dgrp_at dg_a_80 2 rfl
theorem dX4_calls_5 : decode cX4_calls 5 = .ok (.iload_n 1, 1) := dgrp_at dg_a_80 3 rfl
theorem dX4_calls_6 : decode cX4_calls 6 = .ok (.bipush 20, 2) := dgrp_at dg_a_80 4 rfl
theorem dX4_calls_8 : decode cX4_calls 8 = .ok (.if_icmp .le 10, 3) := dgrp_at dg_a_80 5 rfl
theorem dX4_calls_11 : decode cX4_calls 11 = .ok (.aload_n 0, 1) := dgrp_at dg_a_80 6 rfl
theorem dX4_calls_12 : decode cX4_calls 12 = .ok (.ldc 51, 2) := dgrp_at dg_a_80 7 rfl
theorem dX4_calls_14 : decode cX4_calls 14 = .ok (.invokevirtual 52, 3) := dgrp_at dg_a_80 8 rfl
theorem dX4_calls_17 : decode cX4_calls 17 = .ok (.ireturn, 1) := dgrp_at dg_a_80 9 rfl
theorem dX4_calls_18 : decode cX4_calls 18 = .ok (.iconst 0, 1) := dgrp_at dg_a_80 10 rfl
theorem dX4_calls_19 : decode cX4_calls 19 = .ok (.istore_n 2, 1) := dgrp_at dg_a_80 11 rfl
theorem dX4_calls_20 : decode cX4_calls 20 = .ok (.iconst 0, 1) := dgrp_at dg_a_80 12 rfl
theorem dX4_calls_21 : decode cX4_calls 21 = .ok (.istore_n 3, 1) := dgrp_at dg_a_80 13 rfl
theorem dX4_calls_22 : decode cX4_calls 22 = .ok (.iload_n 3, 1) := dgrp_at dg_a_80 14 rfl
theorem dX4_calls_23 : decode cX4_calls 23 = .ok (.iload_n 1, 1) := dgrp_at dg_a_80 15 rfl
theorem dX4_calls_24 : decode cX4_calls 24 = .ok (.if_icmp .ge 42, 3) := dgrp_at dg_a_80 16 rfl
theorem dX4_calls_27 : decode cX4_calls 27 = .ok (.iconst 0, 1) := dgrp_at dg_a_80 17 rfl
theorem dX4_calls_28 : decode cX4_calls 28 = .ok (.istore 4, 2) := dgrp_at dg_a_80 18 rfl
theorem dX4_calls_30 : decode cX4_calls 30 = .ok (.iload 4, 2) := dgrp_at dg_a_80 19 rfl
theorem dX4_calls_32 : decode cX4_calls 32 = .ok (.aload_n 0, 1) := dgrp_at dg_a_80 20 rfl
theorem dX4_calls_33 : decode cX4_calls 33 = .ok (.getfield 12, 3) := dgrp_at dg_a_80 21 rfl
theorem dX4_calls_36 : decode cX4_calls 36 = .ok (.getfield 56, 3) := dgrp_at dg_a_80 22 rfl
theorem dX4_calls_39 : decode cX4_calls 39 = .ok (.if_icmp .ge 21, 3) := dgrp_at dg_a_80 23 rfl
theorem dX4_calls_42 : decode cX4_calls 42 = .ok (.iload_n 2, 1) := dgrp_at dg_a_80 24 rfl
theorem dX4_calls_43 : decode cX4_calls 43 = .ok (.aload_n 0, 1) := dgrp_at dg_a_80 25 rfl
theorem dX4_calls_44 : decode cX4_calls 44 = .ok (.getfield 12, 3) := dgrp_at dg_a_80 26 rfl
theorem dX4_calls_47 : decode cX4_calls 47 = .ok (.iload 4, 2) := dgrp_at dg_a_80 27 rfl
theorem dX4_calls_49 : decode cX4_calls 49 = .ok (.invokevirtual 129, 3) := dgrp_at dg_a_80 28 rfl
theorem dX4_calls_52 : decode cX4_calls 52 = .ok (.iadd, 1) := dgrp_at dg_a_80 29 rfl
theorem dX4_calls_53 : decode cX4_calls 53 = .ok (.istore_n 2, 1) := dgrp_at dg_a_80 30 rfl
theorem dX4_calls_54 : decode cX4_calls 54 = .ok (.iinc 4 1, 3) := dgrp_at dg_a_80 31 rfl
def dl_a_81 : List (Nat × Instr × Nat) := [(57, .goto (-27), 3), (60, .iinc 3 1, 3), (63, .goto (-41), 3), (66, .iload_n 2, 1), (67, .ireturn, 1)]
theorem dg_a_81 : dgrp cX4_calls dl_a_81 = true := by decide +kernel
theorem dX4_calls_57 : decode cX4_calls 57 = .ok (.goto (-27), 3) := dgrp_at dg_a_81 0 rfl
theorem dX4_calls_60 : decode cX4_calls 60 = .ok (.iinc 3 1, 3) := dgrp_at dg_a_81 1 rfl
theorem dX4_calls_63 : decode cX4_calls 63 = .ok (.goto (-41), 3) := dgrp_at dg_a_81 2 rfl
theorem dX4_calls_66 : decode cX4_calls 66 = .ok (.iload_n 2, 1) := dgrp_at dg_a_81 3 rfl
theorem dX4_calls_67 : decode cX4_calls 67 = .ok (.ireturn, 1) := dgrp_at dg_a_81 4 rfl
def dl_a_82 : List (Nat × Instr × Nat) := [(0, .iload_n 1, 1), (1, .iconst 1, 1), (2, .if_icmp .lt 9, 3), (5, .iload_n 1, 1), (6, .bipush 64, 2), (8, .if_icmp .le 10, 3), (11, .aload_n 0, 1), (12, .ldc 51, 2), (14, .invokevirtual 52, 3), (17, .ireturn, 1), (18, .aload_n 0, 1), (19, .getfield 12, 3), (22, .aload_n 0, 1), (23, .getfield 12, 3), (26, .aload_n 0, 1), (27, .getfield 12, 3), (30, .getfield 74, 3), (33, .iload_n 1, 1), (34, .invokevirtual 132, 3), (37, .putfield 74, 3), (40, .aload_n 0, 1), (41, .getfield 12, 3), (44, .getfield 74, 3), (47, .ireturn, 1)]
theorem dg_a_82 : dgrp cX4_rounds dl_a_82 = true := by decide +kernel
theorem dX4_rounds_0 : decode cX4_rounds 0 = .ok (.iload_n 1, 1) := dgrp_at dg_a_82 0 rfl
theorem dX4_rounds_1 : decode cX4_rounds 1 = .ok (.iconst 1, 1) := dgrp_at dg_a_82 1 rfl
theorem dX4_rounds_2 : decode cX4_rounds 2 = .ok (.if_icmp .lt 9, 3) := dgrp_at dg_a_82 2 rfl
theorem dX4_rounds_5 : decode cX4_rounds 5 = .ok (.iload_n 1, 1) := dgrp_at dg_a_82 3 rfl
theorem dX4_rounds_6 : decode cX4_rounds 6 = .ok (.bipush 64, 2) := dgrp_at dg_a_82 4 rfl
theorem dX4_rounds_8 : decode cX4_rounds 8 = .ok (.if_icmp .le 10, 3) := dgrp_at dg_a_82 5 rfl
theorem dX4_rounds_11 : decode cX4_rounds 11 = .ok (.aload_n 0, 1) := dgrp_at dg_a_82 6 rfl
theorem dX4_rounds_12 : decode cX4_rounds 12 = .ok (.ldc 51, 2) := dgrp_at dg_a_82 7 rfl
theorem dX4_rounds_14 : decode cX4_rounds 14 = .ok (.invokevirtual 52, 3) := dgrp_at dg_a_82 8 rfl
theorem dX4_rounds_17 : decode cX4_rounds 17 = .ok (.ireturn, 1) := dgrp_at dg_a_82 9 rfl
theorem dX4_rounds_18 : decode cX4_rounds 18 = .ok (.aload_n 0, 1) := dgrp_at dg_a_82 10 rfl
theorem dX4_rounds_19 : decode cX4_rounds 19 = .ok (.getfield 12, 3) := dgrp_at dg_a_82 11 rfl
theorem dX4_rounds_22 : decode cX4_rounds 22 = .ok (.aload_n 0, 1) := dgrp_at dg_a_82 12 rfl
theorem dX4_rounds_23 : decode cX4_rounds 23 = .ok (.getfield 12, 3) := dgrp_at dg_a_82 13 rfl
theorem dX4_rounds_26 : decode cX4_rounds 26 = .ok (.aload_n 0, 1) := dgrp_at dg_a_82 14 rfl
theorem dX4_rounds_27 : decode cX4_rounds 27 = .ok (.getfield 12, 3) := dgrp_at dg_a_82 15 rfl
theorem dX4_rounds_30 : decode cX4_rounds 30 = .ok (.getfield 74, 3) := dgrp_at dg_a_82 16 rfl
theorem dX4_rounds_33 : decode cX4_rounds 33 = .ok (.iload_n 1, 1) := dgrp_at dg_a_82 17 rfl
theorem dX4_rounds_34 : decode cX4_rounds 34 = .ok (.invokevirtual 132, 3) := dgrp_at dg_a_82 18 rfl
theorem dX4_rounds_37 : decode cX4_rounds 37 = .ok (.putfield 74, 3) := dgrp_at dg_a_82 19 rfl
theorem dX4_rounds_40 : decode cX4_rounds 40 = .ok (.aload_n 0, 1) := dgrp_at dg_a_82 20 rfl
theorem dX4_rounds_41 : decode cX4_rounds 41 = .ok (.getfield 12, 3) := dgrp_at dg_a_82 21 rfl
theorem dX4_rounds_44 : decode cX4_rounds 44 = .ok (.getfield 74, 3) := dgrp_at dg_a_82 22 rfl
theorem dX4_rounds_47 : decode cX4_rounds 47 = .ok (.ireturn, 1) := dgrp_at dg_a_82 23 rfl
def dl_a_83 : List (Nat × Instr × Nat) := [(0, .iload_n 1, 1), (1, .ifCond .lt 9, 3), (4, .iload_n 1, 1), (5, .bipush 64, 2), (7, .if_icmp .le 12, 3), (10, .aload_n 0, 1), (11, .ldc 51, 2), (13, .invokevirtual 52, 3), (16, .goto 18, 3), (19, .aload_n 0, 1), (20, .getfield 12, 3), (23, .aload_n 0, 1), (24, .getfield 12, 3), (27, .getfield 74, 3), (30, .iload_n 1, 1), (31, .invokevirtual 132, 3), (34, .ireturn, 1)]
theorem dg_a_83 : dgrp cX4_on dl_a_83 = true := by decide +kernel
theorem dX4_on_0 : decode cX4_on 0 = .ok (.iload_n 1, 1) := dgrp_at dg_a_83 0 rfl
theorem dX4_on_1 : decode cX4_on 1 = .ok (.ifCond .lt 9, 3) := dgrp_at dg_a_83 1 rfl
theorem dX4_on_4 : decode cX4_on 4 = .ok (.iload_n 1, 1) := dgrp_at dg_a_83 2 rfl
theorem dX4_on_5 : decode cX4_on 5 = .ok (.bipush 64, 2) := dgrp_at dg_a_83 3 rfl
theorem dX4_on_7 : decode cX4_on 7 = .ok (.if_icmp .le 12, 3) := dgrp_at dg_a_83 4 rfl
theorem dX4_on_10 : decode cX4_on 10 = .ok (.aload_n 0, 1) := dgrp_at dg_a_83 5 rfl
theorem dX4_on_11 : decode cX4_on 11 = .ok (.ldc 51, 2) := dgrp_at dg_a_83 6 rfl
theorem dX4_on_13 : decode cX4_on 13 = .ok (.invokevirtual 52, 3) := dgrp_at dg_a_83 7 rfl
theorem dX4_on_16 : decode cX4_on 16 = .ok (.goto 18, 3) := dgrp_at dg_a_83 8 rfl
theorem dX4_on_19 : decode cX4_on 19 = .ok (.aload_n 0, 1) := dgrp_at dg_a_83 9 rfl
theorem dX4_on_20 : decode cX4_on 20 = .ok (.getfield 12, 3) := dgrp_at dg_a_83 10 rfl
theorem dX4_on_23 : decode cX4_on 23 = .ok (.aload_n 0, 1) := dgrp_at dg_a_83 11 rfl
theorem dX4_on_24 : decode cX4_on 24 = .ok (.getfield 12, 3) := dgrp_at dg_a_83 12 rfl
theorem dX4_on_27 : decode cX4_on 27 = .ok (.getfield 74, 3) := dgrp_at dg_a_83 13 rfl
theorem dX4_on_30 : decode cX4_on 30 = .ok (.iload_n 1, 1) := dgrp_at dg_a_83 14 rfl
theorem dX4_on_31 : decode cX4_on 31 = .ok (.invokevirtual 132, 3) := dgrp_at dg_a_83 15 rfl
theorem dX4_on_34 : decode cX4_on 34 = .ok (.ireturn, 1) := dgrp_at dg_a_83 16 rfl
def dl_a_84 : List (Nat × Instr × Nat) := [(0, .aload_n 0, 1), (1, .getfield 12, 3), (4, .getfield 74, 3), (7, .istore_n 1, 1), (8, .iconst 0, 1), (9, .istore_n 2, 1), (10, .iload_n 2, 1), (11, .sipush 256, 3), (14, .if_icmp .gt 31, 3), (17, .aload_n 0, 1), (18, .getfield 12, 3), (21, .iload_n 1, 1), (22, .invokevirtual 123, 3), (25, .ifCond .eq 5, 3), (28, .iload_n 2, 1), (29, .ireturn, 1), (30, .aload_n 0, 1), (31, .getfield 12, 3), (34, .iload_n 1, 1), (35, .invokevirtual 77, 3), (38, .istore_n 1, 1), (39, .iinc 2 1, 3), (42, .goto (-32), 3), (45, .aload_n 0, 1), (46, .ldc 135, 2), (48, .invokevirtual 52, 3), (51, .ireturn, 1)]
theorem dg_a_84 : dgrp cX4_when dl_a_84 = true := by decide +kernel
theorem dX4_when_0 : decode cX4_when 0 = .ok (.aload_n 0, 1) := dgrp_at dg_a_84 0 rfl
theorem dX4_when_1 : decode cX4_when 1 = .ok (.getfield 12, 3) := dgrp_at dg_a_84 1 rfl
theorem dX4_when_4 : decode cX4_when 4 = .ok (.getfield 74, 3) := dgrp_at dg_a_84 2 rfl
theorem dX4_when_7 : decode cX4_when 7 = .ok (.istore_n 1, 1) := dgrp_at dg_a_84 3 rfl
theorem dX4_when_8 : decode cX4_when 8 = .ok (.iconst 0, 1) := dgrp_at dg_a_84 4 rfl
theorem dX4_when_9 : decode cX4_when 9 = .ok (.istore_n 2, 1) := dgrp_at dg_a_84 5 rfl
theorem dX4_when_10 : decode cX4_when 10 = .ok (.iload_n 2, 1) := dgrp_at dg_a_84 6 rfl
theorem dX4_when_11 : decode cX4_when 11 = .ok (.sipush 256, 3) := dgrp_at dg_a_84 7 rfl
theorem dX4_when_14 : decode cX4_when 14 = .ok (.if_icmp .gt 31, 3) := dgrp_at dg_a_84 8 rfl
theorem dX4_when_17 : decode cX4_when 17 = .ok (.aload_n 0, 1) := dgrp_at dg_a_84 9 rfl
theorem dX4_when_18 : decode cX4_when 18 = .ok (.getfield 12, 3) := dgrp_at dg_a_84 10 rfl
theorem dX4_when_21 : decode cX4_when 21 = .ok (.iload_n 1, 1) := dgrp_at dg_a_84 11 rfl
theorem dX4_when_22 : decode cX4_when 22 = .ok (.invokevirtual 123, 3) := dgrp_at dg_a_84 12 rfl
theorem dX4_when_25 : decode cX4_when 25 = .ok (.ifCond .eq 5, 3) := dgrp_at dg_a_84 13 rfl
theorem dX4_when_28 : decode cX4_when 28 = .ok (.iload_n 2, 1) := dgrp_at dg_a_84 14 rfl
theorem dX4_when_29 : decode cX4_when 29 = .ok (.ireturn, 1) := dgrp_at dg_a_84 15 rfl
theorem dX4_when_30 : decode cX4_when 30 = .ok (.aload_n 0, 1) := dgrp_at dg_a_84 16 rfl
theorem dX4_when_31 : decode cX4_when 31 = .ok (.getfield 12, 3) := dgrp_at dg_a_84 17 rfl
theorem dX4_when_34 : decode cX4_when 34 = .ok (.iload_n 1, 1) := dgrp_at dg_a_84 18 rfl
theorem dX4_when_35 : decode cX4_when 35 = .ok (.invokevirtual 77, 3) := dgrp_at dg_a_84 19 rfl
theorem dX4_when_38 : decode cX4_when 38 = .ok (.istore_n 1, 1) := dgrp_at dg_a_84 20 rfl
theorem dX4_when_39 : decode cX4_when 39 = .ok (.iinc 2 1, 3) := dgrp_at dg_a_84 21 rfl
theorem dX4_when_42 : decode cX4_when 42 = .ok (.goto (-32), 3) := dgrp_at dg_a_84 22 rfl
theorem dX4_when_45 : decode cX4_when 45 = .ok (.aload_n 0, 1) := dgrp_at dg_a_84 23 rfl
theorem dX4_when_46 : decode cX4_when 46 = .ok (.ldc 135, 2) := dgrp_at dg_a_84 24 rfl
theorem dX4_when_48 : decode cX4_when 48 = .ok (.invokevirtual 52, 3) := dgrp_at dg_a_84 25 rfl
theorem dX4_when_51 : decode cX4_when 51 = .ok (.ireturn, 1) := dgrp_at dg_a_84 26 rfl
def dl_a_85 : List (Nat × Instr × Nat) := [(0, .iload_n 1, 1), (1, .ifCond .eq 15, 3), (4, .iload_n 1, 1), (5, .iconst 1, 1), (6, .if_icmp .eq 10, 3), (9, .aload_n 0, 1), (10, .ldc 51, 2), (12, .invokevirtual 52, 3), (15, .ireturn, 1), (16, .aload_n 0, 1), (17, .getfield 12, 3), (20, .invokevirtual 136, 3), (23, .istore_n 2, 1), (24, .iload_n 1, 1), (25, .iconst 1, 1), (26, .if_icmp .ne 7, 3), (29, .iload_n 2, 1), (30, .goto 11, 3), (33, .aload_n 0, 1), (34, .getfield 12, 3), (37, .iload_n 2, 1), (38, .invokevirtual 140, 3), (41, .ireturn, 1)]
theorem dg_a_85 : dgrp cX4_ring dl_a_85 = true := by decide +kernel
theorem dX4_ring_0 : decode cX4_ring 0 = .ok (.iload_n 1, 1) := dgrp_at dg_a_85 0 rfl
theorem dX4_ring_1 : decode cX4_ring 1 = .ok (.ifCond .eq 15, 3) := dgrp_at dg_a_85 1 rfl
theorem dX4_ring_4 : decode cX4_ring 4 = .ok (.iload_n 1, 1) := dgrp_at dg_a_85 2 rfl
theorem dX4_ring_5 : decode cX4_ring 5 = .ok (.iconst 1, 1) := dgrp_at dg_a_85 3 rfl
theorem dX4_ring_6 : decode cX4_ring 6 = .ok (.if_icmp .eq 10, 3) := dgrp_at dg_a_85 4 rfl
theorem dX4_ring_9 : decode cX4_ring 9 = .ok (.aload_n 0, 1) := dgrp_at dg_a_85 5 rfl
theorem dX4_ring_10 : decode cX4_ring 10 = .ok (.ldc 51, 2) := dgrp_at dg_a_85 6 rfl
theorem dX4_ring_12 : decode cX4_ring 12 = .ok (.invokevirtual 52, 3) := dgrp_at dg_a_85 7 rfl
theorem dX4_ring_15 : decode cX4_ring 15 = .ok (.ireturn, 1) := dgrp_at dg_a_85 8 rfl
theorem dX4_ring_16 : decode cX4_ring 16 = .ok (.aload_n 0, 1) := dgrp_at dg_a_85 9 rfl
theorem dX4_ring_17 : decode cX4_ring 17 = .ok (.getfield 12, 3) := dgrp_at dg_a_85 10 rfl
theorem dX4_ring_20 : decode cX4_ring 20 = .ok (.invokevirtual 136, 3) := dgrp_at dg_a_85 11 rfl
theorem dX4_ring_23 : decode cX4_ring 23 = .ok (.istore_n 2, 1) := dgrp_at dg_a_85 12 rfl
theorem dX4_ring_24 : decode cX4_ring 24 = .ok (.iload_n 1, 1) := dgrp_at dg_a_85 13 rfl
theorem dX4_ring_25 : decode cX4_ring 25 = .ok (.iconst 1, 1) := dgrp_at dg_a_85 14 rfl
theorem dX4_ring_26 : decode cX4_ring 26 = .ok (.if_icmp .ne 7, 3) := dgrp_at dg_a_85 15 rfl
theorem dX4_ring_29 : decode cX4_ring 29 = .ok (.iload_n 2, 1) := dgrp_at dg_a_85 16 rfl
theorem dX4_ring_30 : decode cX4_ring 30 = .ok (.goto 11, 3) := dgrp_at dg_a_85 17 rfl
theorem dX4_ring_33 : decode cX4_ring 33 = .ok (.aload_n 0, 1) := dgrp_at dg_a_85 18 rfl
theorem dX4_ring_34 : decode cX4_ring 34 = .ok (.getfield 12, 3) := dgrp_at dg_a_85 19 rfl
theorem dX4_ring_37 : decode cX4_ring 37 = .ok (.iload_n 2, 1) := dgrp_at dg_a_85 20 rfl
theorem dX4_ring_38 : decode cX4_ring 38 = .ok (.invokevirtual 140, 3) := dgrp_at dg_a_85 21 rfl
theorem dX4_ring_41 : decode cX4_ring 41 = .ok (.ireturn, 1) := dgrp_at dg_a_85 22 rfl
def dl_a_86 : List (Nat × Instr × Nat) := [(0, .aload_n 0, 1), (1, .getfield 29, 3), (4, .aload_n 0, 1), (5, .getfield 12, 3), (8, .invokevirtual 143, 3), (11, .istore_n 1, 1), (12, .iload_n 1, 1), (13, .ifCond .ge 12, 3), (16, .aload_n 0, 1), (17, .ldc 135, 2), (19, .invokevirtual 52, 3), (22, .goto 11, 3), (25, .aload_n 0, 1), (26, .getfield 29, 3), (29, .iload_n 1, 1), (30, .invokevirtual 147, 3), (33, .ireturn, 1)]
theorem dg_a_86 : dgrp cX4_fewest dl_a_86 = true := by decide +kernel
theorem dX4_fewest_0 : decode cX4_fewest 0 = .ok (.aload_n 0, 1) := dgrp_at dg_a_86 0 rfl
theorem dX4_fewest_1 : decode cX4_fewest 1 = .ok (.getfield 29, 3) := dgrp_at dg_a_86 1 rfl
theorem dX4_fewest_4 : decode cX4_fewest 4 = .ok (.aload_n 0, 1) := dgrp_at dg_a_86 2 rfl
theorem dX4_fewest_5 : decode cX4_fewest 5 = .ok (.getfield 12, 3) := dgrp_at dg_a_86 3 rfl
theorem dX4_fewest_8 : decode cX4_fewest 8 = .ok (.invokevirtual 143, 3) := dgrp_at dg_a_86 4 rfl
theorem dX4_fewest_11 : decode cX4_fewest 11 = .ok (.istore_n 1, 1) := dgrp_at dg_a_86 5 rfl
theorem dX4_fewest_12 : decode cX4_fewest 12 = .ok (.iload_n 1, 1) := dgrp_at dg_a_86 6 rfl
theorem dX4_fewest_13 : decode cX4_fewest 13 = .ok (.ifCond .ge 12, 3) := dgrp_at dg_a_86 7 rfl
theorem dX4_fewest_16 : decode cX4_fewest 16 = .ok (.aload_n 0, 1) := dgrp_at dg_a_86 8 rfl
theorem dX4_fewest_17 : decode cX4_fewest 17 = .ok (.ldc 135, 2) := dgrp_at dg_a_86 9 rfl
theorem dX4_fewest_19 : decode cX4_fewest 19 = .ok (.invokevirtual 52, 3) := dgrp_at dg_a_86 10 rfl
theorem dX4_fewest_22 : decode cX4_fewest 22 = .ok (.goto 11, 3) := dgrp_at dg_a_86 11 rfl
theorem dX4_fewest_25 : decode cX4_fewest 25 = .ok (.aload_n 0, 1) := dgrp_at dg_a_86 12 rfl
theorem dX4_fewest_26 : decode cX4_fewest 26 = .ok (.getfield 29, 3) := dgrp_at dg_a_86 13 rfl
theorem dX4_fewest_29 : decode cX4_fewest 29 = .ok (.iload_n 1, 1) := dgrp_at dg_a_86 14 rfl
theorem dX4_fewest_30 : decode cX4_fewest 30 = .ok (.invokevirtual 147, 3) := dgrp_at dg_a_86 15 rfl
theorem dX4_fewest_33 : decode cX4_fewest 33 = .ok (.ireturn, 1) := dgrp_at dg_a_86 16 rfl
def dl_a_87 : List (Nat × Instr × Nat) := [(0, .aload_n 0, 1), (1, .getfield 29, 3), (4, .aload_n 0, 1), (5, .getfield 12, 3), (8, .invokevirtual 143, 3), (11, .istore_n 1, 1), (12, .iload_n 1, 1), (13, .ifCond .ge 7, 3), (16, .iconst (-1), 1), (17, .goto 11, 3), (20, .aload_n 0, 1), (21, .getfield 29, 3), (24, .iload_n 1, 1), (25, .invokevirtual 150, 3), (28, .istore_n 2, 1), (29, .iload_n 2, 1), (30, .ifCond .ge 12, 3), (33, .aload_n 0, 1), (34, .ldc 135, 2), (36, .invokevirtual 52, 3), (39, .goto 4, 3), (42, .iload_n 2, 1), (43, .ireturn, 1)]
theorem dg_a_87 : dgrp cX4_first dl_a_87 = true := by decide +kernel
theorem dX4_first_0 : decode cX4_first 0 = .ok (.aload_n 0, 1) := dgrp_at dg_a_87 0 rfl
theorem dX4_first_1 : decode cX4_first 1 = .ok (.getfield 29, 3) := dgrp_at dg_a_87 1 rfl
theorem dX4_first_4 : decode cX4_first 4 = .ok (.aload_n 0, 1) := dgrp_at dg_a_87 2 rfl
theorem dX4_first_5 : decode cX4_first 5 = .ok (.getfield 12, 3) := dgrp_at dg_a_87 3 rfl
theorem dX4_first_8 : decode cX4_first 8 = .ok (.invokevirtual 143, 3) := dgrp_at dg_a_87 4 rfl
theorem dX4_first_11 : decode cX4_first 11 = .ok (.istore_n 1, 1) := dgrp_at dg_a_87 5 rfl
theorem dX4_first_12 : decode cX4_first 12 = .ok (.iload_n 1, 1) := dgrp_at dg_a_87 6 rfl
theorem dX4_first_13 : decode cX4_first 13 = .ok (.ifCond .ge 7, 3) := dgrp_at dg_a_87 7 rfl
theorem dX4_first_16 : decode cX4_first 16 = .ok (.iconst (-1), 1) := dgrp_at dg_a_87 8 rfl
theorem dX4_first_17 : decode cX4_first 17 = .ok (.goto 11, 3) := dgrp_at dg_a_87 9 rfl
theorem dX4_first_20 : decode cX4_first 20 = .ok (.aload_n 0, 1) := dgrp_at dg_a_87 10 rfl
theorem dX4_first_21 : decode cX4_first 21 = .ok (.getfield 29, 3) := dgrp_at dg_a_87 11 rfl
theorem dX4_first_24 : decode cX4_first 24 = .ok (.iload_n 1, 1) := dgrp_at dg_a_87 12 rfl
theorem dX4_first_25 : decode cX4_first 25 = .ok (.invokevirtual 150, 3) := dgrp_at dg_a_87 13 rfl
theorem dX4_first_28 : decode cX4_first 28 = .ok (.istore_n 2, 1) := dgrp_at dg_a_87 14 rfl
theorem dX4_first_29 : decode cX4_first 29 = .ok (.iload_n 2, 1) := dgrp_at dg_a_87 15 rfl
theorem dX4_first_30 : decode cX4_first 30 = .ok (.ifCond .ge 12, 3) := dgrp_at dg_a_87 16 rfl
theorem dX4_first_33 : decode cX4_first 33 = .ok (.aload_n 0, 1) := dgrp_at dg_a_87 17 rfl
theorem dX4_first_34 : decode cX4_first 34 = .ok (.ldc 135, 2) := dgrp_at dg_a_87 18 rfl
theorem dX4_first_36 : decode cX4_first 36 = .ok (.invokevirtual 52, 3) := dgrp_at dg_a_87 19 rfl
theorem dX4_first_39 : decode cX4_first 39 = .ok (.goto 4, 3) := dgrp_at dg_a_87 20 rfl
theorem dX4_first_42 : decode cX4_first 42 = .ok (.iload_n 2, 1) := dgrp_at dg_a_87 21 rfl
theorem dX4_first_43 : decode cX4_first 43 = .ok (.ireturn, 1) := dgrp_at dg_a_87 22 rfl
def dl_a_88 : List (Nat × Instr × Nat) := [(0, .iconst 0, 1), (1, .istore_n 1, 1), (2, .iconst 0, 1), (3, .istore_n 2, 1), (4, .iload_n 2, 1), (5, .aload_n 0, 1), (6, .getfield 12, 3), (9, .invokevirtual 153, 3), (12, .if_icmp .ge 23, 3), (15, .iload_n 1, 1), (16, .aload_n 0, 1), (17, .getfield 12, 3), (20, .iload_n 2, 1), (21, .invokevirtual 123, 3), (24, .invokestatic 84, 3), (27, .iadd, 1), (28, .istore_n 1, 1), (29, .iinc 2 1, 3), (32, .goto (-28), 3), (35, .iload_n 1, 1), (36, .ireturn, 1)]
theorem dg_a_88 : dgrp cX4_settled dl_a_88 = true := by decide +kernel
theorem dX4_settled_0 : decode cX4_settled 0 = .ok (.iconst 0, 1) := dgrp_at dg_a_88 0 rfl
theorem dX4_settled_1 : decode cX4_settled 1 = .ok (.istore_n 1, 1) := dgrp_at dg_a_88 1 rfl
theorem dX4_settled_2 : decode cX4_settled 2 = .ok (.iconst 0, 1) := dgrp_at dg_a_88 2 rfl
theorem dX4_settled_3 : decode cX4_settled 3 = .ok (.istore_n 2, 1) := dgrp_at dg_a_88 3 rfl
theorem dX4_settled_4 : decode cX4_settled 4 = .ok (.iload_n 2, 1) := dgrp_at dg_a_88 4 rfl
theorem dX4_settled_5 : decode cX4_settled 5 = .ok (.aload_n 0, 1) := dgrp_at dg_a_88 5 rfl
theorem dX4_settled_6 : decode cX4_settled 6 = .ok (.getfield 12, 3) := dgrp_at dg_a_88 6 rfl
theorem dX4_settled_9 : decode cX4_settled 9 = .ok (.invokevirtual 153, 3) := dgrp_at dg_a_88 7 rfl
theorem dX4_settled_12 : decode cX4_settled 12 = .ok (.if_icmp .ge 23, 3) := dgrp_at dg_a_88 8 rfl
theorem dX4_settled_15 : decode cX4_settled 15 = .ok (.iload_n 1, 1) := dgrp_at dg_a_88 9 rfl
theorem dX4_settled_16 : decode cX4_settled 16 = .ok (.aload_n 0, 1) := dgrp_at dg_a_88 10 rfl
theorem dX4_settled_17 : decode cX4_settled 17 = .ok (.getfield 12, 3) := dgrp_at dg_a_88 11 rfl
theorem dX4_settled_20 : decode cX4_settled 20 = .ok (.iload_n 2, 1) := dgrp_at dg_a_88 12 rfl
theorem dX4_settled_21 : decode cX4_settled 21 = .ok (.invokevirtual 123, 3) := dgrp_at dg_a_88 13 rfl
theorem dX4_settled_24 : decode cX4_settled 24 = .ok (.invokestatic 84, 3) := dgrp_at dg_a_88 14 rfl
theorem dX4_settled_27 : decode cX4_settled 27 = .ok (.iadd, 1) := dgrp_at dg_a_88 15 rfl
theorem dX4_settled_28 : decode cX4_settled 28 = .ok (.istore_n 1, 1) := dgrp_at dg_a_88 16 rfl
theorem dX4_settled_29 : decode cX4_settled 29 = .ok (.iinc 2 1, 3) := dgrp_at dg_a_88 17 rfl
theorem dX4_settled_32 : decode cX4_settled 32 = .ok (.goto (-28), 3) := dgrp_at dg_a_88 18 rfl
theorem dX4_settled_35 : decode cX4_settled 35 = .ok (.iload_n 1, 1) := dgrp_at dg_a_88 19 rfl
theorem dX4_settled_36 : decode cX4_settled 36 = .ok (.ireturn, 1) := dgrp_at dg_a_88 20 rfl
def dl_a_89 : List (Nat × Instr × Nat) := [(0, .iload_n 1, 1), (1, .ifCond .ge 10, 3), (4, .aload_n 0, 1), (5, .ldc 51, 2), (7, .invokevirtual 52, 3), (10, .ireturn, 1), (11, .iconst 0, 1), (12, .istore_n 2, 1), (13, .iconst 0, 1), (14, .istore_n 3, 1), (15, .iload_n 3, 1), (16, .aload_n 0, 1), (17, .getfield 12, 3), (20, .invokevirtual 153, 3), (23, .if_icmp .ge 30, 3), (26, .aload_n 0, 1), (27, .getfield 12, 3), (30, .iload_n 3, 1), (31, .invokevirtual 123, 3), (34, .ifCond .eq 13, 3), (37, .iload_n 2, 1), (38, .iload_n 1, 1), (39, .if_icmp .ne 5, 3), (42, .iload_n 3, 1), (43, .ireturn, 1), (44, .iinc 2 1, 3), (47, .iinc 3 1, 3), (50, .goto (-35), 3), (53, .aload_n 0, 1), (54, .ldc 135, 2), (56, .invokevirtual 52, 3), (59, .ireturn, 1)]
theorem dg_a_89 : dgrp cX4_ith dl_a_89 = true := by decide +kernel
theorem dX4_ith_0 : decode cX4_ith 0 = .ok (.iload_n 1, 1) := dgrp_at dg_a_89 0 rfl
theorem dX4_ith_1 : decode cX4_ith 1 = .ok (.ifCond .ge 10, 3) := dgrp_at dg_a_89 1 rfl
theorem dX4_ith_4 : decode cX4_ith 4 = .ok (.aload_n 0, 1) := dgrp_at dg_a_89 2 rfl
theorem dX4_ith_5 : decode cX4_ith 5 = .ok (.ldc 51, 2) := dgrp_at dg_a_89 3 rfl
theorem dX4_ith_7 : decode cX4_ith 7 = .ok (.invokevirtual 52, 3) := dgrp_at dg_a_89 4 rfl
theorem dX4_ith_10 : decode cX4_ith 10 = .ok (.ireturn, 1) := dgrp_at dg_a_89 5 rfl
theorem dX4_ith_11 : decode cX4_ith 11 = .ok (.iconst 0, 1) := dgrp_at dg_a_89 6 rfl
theorem dX4_ith_12 : decode cX4_ith 12 = .ok (.istore_n 2, 1) := dgrp_at dg_a_89 7 rfl
theorem dX4_ith_13 : decode cX4_ith 13 = .ok (.iconst 0, 1) := dgrp_at dg_a_89 8 rfl
theorem dX4_ith_14 : decode cX4_ith 14 = .ok (.istore_n 3, 1) := dgrp_at dg_a_89 9 rfl
theorem dX4_ith_15 : decode cX4_ith 15 = .ok (.iload_n 3, 1) := dgrp_at dg_a_89 10 rfl
theorem dX4_ith_16 : decode cX4_ith 16 = .ok (.aload_n 0, 1) := dgrp_at dg_a_89 11 rfl
theorem dX4_ith_17 : decode cX4_ith 17 = .ok (.getfield 12, 3) := dgrp_at dg_a_89 12 rfl
theorem dX4_ith_20 : decode cX4_ith 20 = .ok (.invokevirtual 153, 3) := dgrp_at dg_a_89 13 rfl
theorem dX4_ith_23 : decode cX4_ith 23 = .ok (.if_icmp .ge 30, 3) := dgrp_at dg_a_89 14 rfl
theorem dX4_ith_26 : decode cX4_ith 26 = .ok (.aload_n 0, 1) := dgrp_at dg_a_89 15 rfl
theorem dX4_ith_27 : decode cX4_ith 27 = .ok (.getfield 12, 3) := dgrp_at dg_a_89 16 rfl
theorem dX4_ith_30 : decode cX4_ith 30 = .ok (.iload_n 3, 1) := dgrp_at dg_a_89 17 rfl
theorem dX4_ith_31 : decode cX4_ith 31 = .ok (.invokevirtual 123, 3) := dgrp_at dg_a_89 18 rfl
theorem dX4_ith_34 : decode cX4_ith 34 = .ok (.ifCond .eq 13, 3) := dgrp_at dg_a_89 19 rfl
theorem dX4_ith_37 : decode cX4_ith 37 = .ok (.iload_n 2, 1) := dgrp_at dg_a_89 20 rfl
theorem dX4_ith_38 : decode cX4_ith 38 = .ok (.iload_n 1, 1) := dgrp_at dg_a_89 21 rfl
theorem dX4_ith_39 : decode cX4_ith 39 = .ok (.if_icmp .ne 5, 3) := dgrp_at dg_a_89 22 rfl
theorem dX4_ith_42 : decode cX4_ith 42 = .ok (.iload_n 3, 1) := dgrp_at dg_a_89 23 rfl
theorem dX4_ith_43 : decode cX4_ith 43 = .ok (.ireturn, 1) := dgrp_at dg_a_89 24 rfl
theorem dX4_ith_44 : decode cX4_ith 44 = .ok (.iinc 2 1, 3) := dgrp_at dg_a_89 25 rfl
theorem dX4_ith_47 : decode cX4_ith 47 = .ok (.iinc 3 1, 3) := dgrp_at dg_a_89 26 rfl
theorem dX4_ith_50 : decode cX4_ith 50 = .ok (.goto (-35), 3) := dgrp_at dg_a_89 27 rfl
theorem dX4_ith_53 : decode cX4_ith 53 = .ok (.aload_n 0, 1) := dgrp_at dg_a_89 28 rfl
theorem dX4_ith_54 : decode cX4_ith 54 = .ok (.ldc 135, 2) := dgrp_at dg_a_89 29 rfl
theorem dX4_ith_56 : decode cX4_ith 56 = .ok (.invokevirtual 52, 3) := dgrp_at dg_a_89 30 rfl
theorem dX4_ith_59 : decode cX4_ith 59 = .ok (.ireturn, 1) := dgrp_at dg_a_89 31 rfl
def dl_a_90 : List (Nat × Instr × Nat) := [(0, .iload_n 1, 1), (1, .ifCond .lt 8, 3), (4, .iload_n 1, 1), (5, .iconst 3, 1), (6, .if_icmp .le 10, 3), (9, .aload_n 0, 1), (10, .ldc 51, 2), (12, .invokevirtual 52, 3), (15, .ireturn, 1), (16, .aload_n 0, 1), (17, .getfield 12, 3), (20, .invokevirtual 156, 3), (23, .istore_n 2, 1), (24, .iconst 0, 1), (25, .istore_n 3, 1), (26, .iconst (-1), 1), (27, .istore 4, 2), (29, .bipush 8, 2), (31, .istore 5, 2), (33, .iconst 0, 1), (34, .istore 6, 2), (36, .iload 6, 2), (38, .aload_n 0, 1), (39, .getfield 12, 3), (42, .invokevirtual 153, 3), (45, .if_icmp .ge 55, 3), (48, .aload_n 0, 1), (49, .getfield 12, 3), (52, .iload 6, 2), (54, .invokevirtual 123, 3), (57, .ifCond .eq 37, 3), (60, .iload_n 2, 1)]
theorem dg_a_90 : dgrp cX4_sure dl_a_90 = true := by decide +kernel
theorem dX4_sure_0 : decode cX4_sure 0 = .ok (.iload_n 1, 1) := dgrp_at dg_a_90 0 rfl
theorem dX4_sure_1 : decode cX4_sure 1 = .ok (.ifCond .lt 8, 3) := dgrp_at dg_a_90 1 rfl
theorem dX4_sure_4 : decode cX4_sure 4 = .ok (.iload_n 1, 1) := dgrp_at dg_a_90 2 rfl
theorem dX4_sure_5 : decode cX4_sure 5 = .ok (.iconst 3, 1) := dgrp_at dg_a_90 3 rfl
theorem dX4_sure_6 : decode cX4_sure 6 = .ok (.if_icmp .le 10, 3) := dgrp_at dg_a_90 4 rfl
theorem dX4_sure_9 : decode cX4_sure 9 = .ok (.aload_n 0, 1) := dgrp_at dg_a_90 5 rfl
theorem dX4_sure_10 : decode cX4_sure 10 = .ok (.ldc 51, 2) := dgrp_at dg_a_90 6 rfl
theorem dX4_sure_12 : decode cX4_sure 12 = .ok (.invokevirtual 52, 3) := dgrp_at dg_a_90 7 rfl
theorem dX4_sure_15 : decode cX4_sure 15 = .ok (.ireturn, 1) := dgrp_at dg_a_90 8 rfl
theorem dX4_sure_16 : decode cX4_sure 16 = .ok (.aload_n 0, 1) := dgrp_at dg_a_90 9 rfl
theorem dX4_sure_17 : decode cX4_sure 17 = .ok (.getfield 12, 3) := dgrp_at dg_a_90 10 rfl
theorem dX4_sure_20 : decode cX4_sure 20 = .ok (.invokevirtual 156, 3) := dgrp_at dg_a_90 11 rfl
theorem dX4_sure_23 : decode cX4_sure 23 = .ok (.istore_n 2, 1) := dgrp_at dg_a_90 12 rfl
theorem dX4_sure_24 : decode cX4_sure 24 = .ok (.iconst 0, 1) := dgrp_at dg_a_90 13 rfl
theorem dX4_sure_25 : decode cX4_sure 25 = .ok (.istore_n 3, 1) := dgrp_at dg_a_90 14 rfl
theorem dX4_sure_26 : decode cX4_sure 26 = .ok (.iconst (-1), 1) := dgrp_at dg_a_90 15 rfl
theorem dX4_sure_27 : decode cX4_sure 27 = .ok (.istore 4, 2) := dgrp_at dg_a_90 16 rfl
theorem dX4_sure_29 : decode cX4_sure 29 = .ok (.bipush 8, 2) := dgrp_at dg_a_90 17 rfl
theorem dX4_sure_31 : decode cX4_sure 31 = .ok (.istore 5, 2) := dgrp_at dg_a_90 18 rfl
theorem dX4_sure_33 : decode cX4_sure 33 = .ok (.iconst 0, 1) := dgrp_at dg_a_90 19 rfl
theorem dX4_sure_34 : decode cX4_sure 34 = .ok (.istore 6, 2) := dgrp_at dg_a_90 20 rfl
theorem dX4_sure_36 : decode cX4_sure 36 = .ok (.iload 6, 2) := dgrp_at dg_a_90 21 rfl
theorem dX4_sure_38 : decode cX4_sure 38 = .ok (.aload_n 0, 1) := dgrp_at dg_a_90 22 rfl
theorem dX4_sure_39 : decode cX4_sure 39 = .ok (.getfield 12, 3) := dgrp_at dg_a_90 23 rfl
theorem dX4_sure_42 : decode cX4_sure 42 = .ok (.invokevirtual 153, 3) := dgrp_at dg_a_90 24 rfl
theorem dX4_sure_45 : decode cX4_sure 45 = .ok (.if_icmp .ge 55, 3) := dgrp_at dg_a_90 25 rfl
theorem dX4_sure_48 : decode cX4_sure 48 = .ok (.aload_n 0, 1) := dgrp_at dg_a_90 26 rfl
theorem dX4_sure_49 : decode cX4_sure 49 = .ok (.getfield 12, 3) := dgrp_at dg_a_90 27 rfl
theorem dX4_sure_52 : decode cX4_sure 52 = .ok (.iload 6, 2) := dgrp_at dg_a_90 28 rfl
theorem dX4_sure_54 : decode cX4_sure 54 = .ok (.invokevirtual 123, 3) := dgrp_at dg_a_90 29 rfl
theorem dX4_sure_57 : decode cX4_sure 57 = .ok (.ifCond .eq 37, 3) := dgrp_at dg_a_90 30 rfl
theorem dX4_sure_60 : decode cX4_sure 60 = .ok (.iload_n 2, 1) := dgrp_at dg_a_90 31 rfl
def dl_a_91 : List (Nat × Instr × Nat) := [(61, .iload 6, 2), (63, .iand, 1), (64, .istore_n 2, 1), (65, .iload_n 3, 1), (66, .iload 6, 2), (68, .ior, 1), (69, .istore_n 3, 1), (70, .iload 4, 2), (72, .iload 6, 2), (74, .invokestatic 118, 3), (77, .invokestatic 159, 3), (80, .istore 4, 2), (82, .iload 5, 2), (84, .iload 6, 2), (86, .invokestatic 118, 3), (89, .invokestatic 164, 3), (92, .istore 5, 2), (94, .iinc 6 1, 3), (97, .goto (-61), 3), (100, .iload 4, 2), (102, .ifCond .ge 10, 3), (105, .aload_n 0, 1), (106, .ldc 135, 2), (108, .invokevirtual 52, 3), (111, .ireturn, 1), (112, .iload_n 1, 1), (140, .iload_n 2, 1), (141, .ireturn, 1), (142, .iload_n 3, 1), (143, .ireturn, 1), (144, .iload 4, 2), (146, .ireturn, 1)]
theorem dg_a_91 : dgrp cX4_sure dl_a_91 = true := by decide +kernel
theorem dX4_sure_61 : decode cX4_sure 61 = .ok (.iload 6, 2) := dgrp_at dg_a_91 0 rfl
theorem dX4_sure_63 : decode cX4_sure 63 = .ok (.iand, 1) := dgrp_at dg_a_91 1 rfl
theorem dX4_sure_64 : decode cX4_sure 64 = .ok (.istore_n 2, 1) := dgrp_at dg_a_91 2 rfl
theorem dX4_sure_65 : decode cX4_sure 65 = .ok (.iload_n 3, 1) := dgrp_at dg_a_91 3 rfl
theorem dX4_sure_66 : decode cX4_sure 66 = .ok (.iload 6, 2) := dgrp_at dg_a_91 4 rfl
theorem dX4_sure_68 : decode cX4_sure 68 = .ok (.ior, 1) := dgrp_at dg_a_91 5 rfl
theorem dX4_sure_69 : decode cX4_sure 69 = .ok (.istore_n 3, 1) := dgrp_at dg_a_91 6 rfl
theorem dX4_sure_70 : decode cX4_sure 70 = .ok (.iload 4, 2) := dgrp_at dg_a_91 7 rfl
theorem dX4_sure_72 : decode cX4_sure 72 = .ok (.iload 6, 2) := dgrp_at dg_a_91 8 rfl
theorem dX4_sure_74 : decode cX4_sure 74 = .ok (.invokestatic 118, 3) := dgrp_at dg_a_91 9 rfl
theorem dX4_sure_77 : decode cX4_sure 77 = .ok (.invokestatic 159, 3) := dgrp_at dg_a_91 10 rfl
theorem dX4_sure_80 : decode cX4_sure 80 = .ok (.istore 4, 2) := dgrp_at dg_a_91 11 rfl
theorem dX4_sure_82 : decode cX4_sure 82 = .ok (.iload 5, 2) := dgrp_at dg_a_91 12 rfl
theorem dX4_sure_84 : decode cX4_sure 84 = .ok (.iload 6, 2) := dgrp_at dg_a_91 13 rfl
theorem dX4_sure_86 : decode cX4_sure 86 = .ok (.invokestatic 118, 3) := dgrp_at dg_a_91 14 rfl
theorem dX4_sure_89 : decode cX4_sure 89 = .ok (.invokestatic 164, 3) := dgrp_at dg_a_91 15 rfl
theorem dX4_sure_92 : decode cX4_sure 92 = .ok (.istore 5, 2) := dgrp_at dg_a_91 16 rfl
theorem dX4_sure_94 : decode cX4_sure 94 = .ok (.iinc 6 1, 3) := dgrp_at dg_a_91 17 rfl
theorem dX4_sure_97 : decode cX4_sure 97 = .ok (.goto (-61), 3) := dgrp_at dg_a_91 18 rfl
theorem dX4_sure_100 : decode cX4_sure 100 = .ok (.iload 4, 2) := dgrp_at dg_a_91 19 rfl
theorem dX4_sure_102 : decode cX4_sure 102 = .ok (.ifCond .ge 10, 3) := dgrp_at dg_a_91 20 rfl
theorem dX4_sure_105 : decode cX4_sure 105 = .ok (.aload_n 0, 1) := dgrp_at dg_a_91 21 rfl
theorem dX4_sure_106 : decode cX4_sure 106 = .ok (.ldc 135, 2) := dgrp_at dg_a_91 22 rfl
theorem dX4_sure_108 : decode cX4_sure 108 = .ok (.invokevirtual 52, 3) := dgrp_at dg_a_91 23 rfl
theorem dX4_sure_111 : decode cX4_sure 111 = .ok (.ireturn, 1) := dgrp_at dg_a_91 24 rfl
theorem dX4_sure_112 : decode cX4_sure 112 = .ok (.iload_n 1, 1) := dgrp_at dg_a_91 25 rfl
theorem dX4_sure_140 : decode cX4_sure 140 = .ok (.iload_n 2, 1) := dgrp_at dg_a_91 26 rfl
theorem dX4_sure_141 : decode cX4_sure 141 = .ok (.ireturn, 1) := dgrp_at dg_a_91 27 rfl
theorem dX4_sure_142 : decode cX4_sure 142 = .ok (.iload_n 3, 1) := dgrp_at dg_a_91 28 rfl
theorem dX4_sure_143 : decode cX4_sure 143 = .ok (.ireturn, 1) := dgrp_at dg_a_91 29 rfl
theorem dX4_sure_144 : decode cX4_sure 144 = .ok (.iload 4, 2) := dgrp_at dg_a_91 30 rfl
theorem dX4_sure_146 : decode cX4_sure 146 = .ok (.ireturn, 1) := dgrp_at dg_a_91 31 rfl
def dl_a_92 : List (Nat × Instr × Nat) := [(147, .iload 5, 2), (149, .ireturn, 1)]
theorem dg_a_92 : dgrp cX4_sure dl_a_92 = true := by decide +kernel
theorem dX4_sure_147 : decode cX4_sure 147 = .ok (.iload 5, 2) := dgrp_at dg_a_92 0 rfl
theorem dX4_sure_149 : decode cX4_sure 149 = .ok (.ireturn, 1) := dgrp_at dg_a_92 1 rfl
def dl_a_93 : List (Nat × Instr × Nat) := [(0, .iconst 0, 1), (1, .istore_n 1, 1), (2, .iconst 0, 1), (3, .istore_n 2, 1), (4, .iload_n 2, 1), (5, .aload_n 0, 1), (6, .getfield 12, 3), (9, .invokevirtual 153, 3), (12, .if_icmp .ge 33, 3), (15, .iload_n 1, 1), (16, .aload_n 0, 1), (17, .getfield 12, 3), (20, .aload_n 0, 1), (21, .getfield 12, 3), (24, .iload_n 2, 1), (25, .sipush 256, 3), (28, .invokevirtual 132, 3), (31, .invokevirtual 123, 3), (34, .invokestatic 84, 3), (37, .iadd, 1), (38, .istore_n 1, 1), (39, .iinc 2 1, 3), (42, .goto (-38), 3), (45, .iload_n 1, 1), (46, .ireturn, 1)]
theorem dg_a_93 : dgrp cX4_basin dl_a_93 = true := by decide +kernel
theorem dX4_basin_0 : decode cX4_basin 0 = .ok (.iconst 0, 1) := dgrp_at dg_a_93 0 rfl
theorem dX4_basin_1 : decode cX4_basin 1 = .ok (.istore_n 1, 1) := dgrp_at dg_a_93 1 rfl
theorem dX4_basin_2 : decode cX4_basin 2 = .ok (.iconst 0, 1) := dgrp_at dg_a_93 2 rfl
theorem dX4_basin_3 : decode cX4_basin 3 = .ok (.istore_n 2, 1) := dgrp_at dg_a_93 3 rfl
theorem dX4_basin_4 : decode cX4_basin 4 = .ok (.iload_n 2, 1) := dgrp_at dg_a_93 4 rfl
theorem dX4_basin_5 : decode cX4_basin 5 = .ok (.aload_n 0, 1) := dgrp_at dg_a_93 5 rfl
theorem dX4_basin_6 : decode cX4_basin 6 = .ok (.getfield 12, 3) := dgrp_at dg_a_93 6 rfl
theorem dX4_basin_9 : decode cX4_basin 9 = .ok (.invokevirtual 153, 3) := dgrp_at dg_a_93 7 rfl
theorem dX4_basin_12 : decode cX4_basin 12 = .ok (.if_icmp .ge 33, 3) := dgrp_at dg_a_93 8 rfl
theorem dX4_basin_15 : decode cX4_basin 15 = .ok (.iload_n 1, 1) := dgrp_at dg_a_93 9 rfl
theorem dX4_basin_16 : decode cX4_basin 16 = .ok (.aload_n 0, 1) := dgrp_at dg_a_93 10 rfl
theorem dX4_basin_17 : decode cX4_basin 17 = .ok (.getfield 12, 3) := dgrp_at dg_a_93 11 rfl
theorem dX4_basin_20 : decode cX4_basin 20 = .ok (.aload_n 0, 1) := dgrp_at dg_a_93 12 rfl
theorem dX4_basin_21 : decode cX4_basin 21 = .ok (.getfield 12, 3) := dgrp_at dg_a_93 13 rfl
theorem dX4_basin_24 : decode cX4_basin 24 = .ok (.iload_n 2, 1) := dgrp_at dg_a_93 14 rfl
theorem dX4_basin_25 : decode cX4_basin 25 = .ok (.sipush 256, 3) := dgrp_at dg_a_93 15 rfl
theorem dX4_basin_28 : decode cX4_basin 28 = .ok (.invokevirtual 132, 3) := dgrp_at dg_a_93 16 rfl
theorem dX4_basin_31 : decode cX4_basin 31 = .ok (.invokevirtual 123, 3) := dgrp_at dg_a_93 17 rfl
theorem dX4_basin_34 : decode cX4_basin 34 = .ok (.invokestatic 84, 3) := dgrp_at dg_a_93 18 rfl
theorem dX4_basin_37 : decode cX4_basin 37 = .ok (.iadd, 1) := dgrp_at dg_a_93 19 rfl
theorem dX4_basin_38 : decode cX4_basin 38 = .ok (.istore_n 1, 1) := dgrp_at dg_a_93 20 rfl
theorem dX4_basin_39 : decode cX4_basin 39 = .ok (.iinc 2 1, 3) := dgrp_at dg_a_93 21 rfl
theorem dX4_basin_42 : decode cX4_basin 42 = .ok (.goto (-38), 3) := dgrp_at dg_a_93 22 rfl
theorem dX4_basin_45 : decode cX4_basin 45 = .ok (.iload_n 1, 1) := dgrp_at dg_a_93 23 rfl
theorem dX4_basin_46 : decode cX4_basin 46 = .ok (.ireturn, 1) := dgrp_at dg_a_93 24 rfl
def dl_a_94 : List (Nat × Instr × Nat) := [(0, .aload_n 0, 1), (1, .getfield 12, 3), (4, .iload_n 1, 1), (5, .invokevirtual 65, 3), (8, .ifCond .eq 12, 3), (11, .iload_n 2, 1), (12, .ifCond .eq 16, 3), (15, .iload_n 2, 1), (16, .iconst 1, 1), (17, .if_icmp .eq 11, 3), (20, .aload_n 0, 1), (21, .ldc 51, 2), (23, .invokevirtual 52, 3), (26, .i2l, 1), (27, .lreturn, 1), (28, .lconst 0, 1), (29, .lstore_n 3, 1), (30, .aload_n 0, 1), (31, .getfield 12, 3), (34, .invokevirtual 153, 3), (37, .i2l, 1), (38, .lstore 5, 2), (40, .iconst 0, 1), (41, .istore 7, 2), (43, .iload 7, 2), (45, .aload_n 0, 1), (46, .getfield 12, 3), (49, .invokevirtual 153, 3), (52, .if_icmp .ge 45, 3), (55, .aload_n 0, 1), (56, .getfield 12, 3), (59, .iload 7, 2)]
theorem dg_a_94 : dgrp cX4_odds dl_a_94 = true := by decide +kernel
theorem dX4_odds_0 : decode cX4_odds 0 = .ok (.aload_n 0, 1) := dgrp_at dg_a_94 0 rfl
theorem dX4_odds_1 : decode cX4_odds 1 = .ok (.getfield 12, 3) := dgrp_at dg_a_94 1 rfl
theorem dX4_odds_4 : decode cX4_odds 4 = .ok (.iload_n 1, 1) := dgrp_at dg_a_94 2 rfl
theorem dX4_odds_5 : decode cX4_odds 5 = .ok (.invokevirtual 65, 3) := dgrp_at dg_a_94 3 rfl
theorem dX4_odds_8 : decode cX4_odds 8 = .ok (.ifCond .eq 12, 3) := dgrp_at dg_a_94 4 rfl
theorem dX4_odds_11 : decode cX4_odds 11 = .ok (.iload_n 2, 1) := dgrp_at dg_a_94 5 rfl
theorem dX4_odds_12 : decode cX4_odds 12 = .ok (.ifCond .eq 16, 3) := dgrp_at dg_a_94 6 rfl
theorem dX4_odds_15 : decode cX4_odds 15 = .ok (.iload_n 2, 1) := dgrp_at dg_a_94 7 rfl
theorem dX4_odds_16 : decode cX4_odds 16 = .ok (.iconst 1, 1) := dgrp_at dg_a_94 8 rfl
theorem dX4_odds_17 : decode cX4_odds 17 = .ok (.if_icmp .eq 11, 3) := dgrp_at dg_a_94 9 rfl
theorem dX4_odds_20 : decode cX4_odds 20 = .ok (.aload_n 0, 1) := dgrp_at dg_a_94 10 rfl
theorem dX4_odds_21 : decode cX4_odds 21 = .ok (.ldc 51, 2) := dgrp_at dg_a_94 11 rfl
theorem dX4_odds_23 : decode cX4_odds 23 = .ok (.invokevirtual 52, 3) := dgrp_at dg_a_94 12 rfl
theorem dX4_odds_26 : decode cX4_odds 26 = .ok (.i2l, 1) := dgrp_at dg_a_94 13 rfl
theorem dX4_odds_27 : decode cX4_odds 27 = .ok (.lreturn, 1) := dgrp_at dg_a_94 14 rfl
theorem dX4_odds_28 : decode cX4_odds 28 = .ok (.lconst 0, 1) := dgrp_at dg_a_94 15 rfl
theorem dX4_odds_29 : decode cX4_odds 29 = .ok (.lstore_n 3, 1) := dgrp_at dg_a_94 16 rfl
theorem dX4_odds_30 : decode cX4_odds 30 = .ok (.aload_n 0, 1) := dgrp_at dg_a_94 17 rfl
theorem dX4_odds_31 : decode cX4_odds 31 = .ok (.getfield 12, 3) := dgrp_at dg_a_94 18 rfl
theorem dX4_odds_34 : decode cX4_odds 34 = .ok (.invokevirtual 153, 3) := dgrp_at dg_a_94 19 rfl
theorem dX4_odds_37 : decode cX4_odds 37 = .ok (.i2l, 1) := dgrp_at dg_a_94 20 rfl
theorem dX4_odds_38 : decode cX4_odds 38 = .ok (.lstore 5, 2) := dgrp_at dg_a_94 21 rfl
theorem dX4_odds_40 : decode cX4_odds 40 = .ok (.iconst 0, 1) := dgrp_at dg_a_94 22 rfl
theorem dX4_odds_41 : decode cX4_odds 41 = .ok (.istore 7, 2) := dgrp_at dg_a_94 23 rfl
theorem dX4_odds_43 : decode cX4_odds 43 = .ok (.iload 7, 2) := dgrp_at dg_a_94 24 rfl
theorem dX4_odds_45 : decode cX4_odds 45 = .ok (.aload_n 0, 1) := dgrp_at dg_a_94 25 rfl
theorem dX4_odds_46 : decode cX4_odds 46 = .ok (.getfield 12, 3) := dgrp_at dg_a_94 26 rfl
theorem dX4_odds_49 : decode cX4_odds 49 = .ok (.invokevirtual 153, 3) := dgrp_at dg_a_94 27 rfl
theorem dX4_odds_52 : decode cX4_odds 52 = .ok (.if_icmp .ge 45, 3) := dgrp_at dg_a_94 28 rfl
theorem dX4_odds_55 : decode cX4_odds 55 = .ok (.aload_n 0, 1) := dgrp_at dg_a_94 29 rfl
theorem dX4_odds_56 : decode cX4_odds 56 = .ok (.getfield 12, 3) := dgrp_at dg_a_94 30 rfl
theorem dX4_odds_59 : decode cX4_odds 59 = .ok (.iload 7, 2) := dgrp_at dg_a_94 31 rfl
def dl_a_95 : List (Nat × Instr × Nat) := [(61, .sipush 256, 3), (64, .invokevirtual 132, 3), (67, .istore 8, 2), (69, .aload_n 0, 1), (70, .getfield 12, 3), (73, .iload 8, 2), (75, .invokevirtual 123, 3), (78, .ifCond .eq 13, 3), (81, .lload_n 3, 1), (82, .iload 8, 2), (84, .iload_n 1, 1), (85, .ishr, 1), (86, .iconst 1, 1), (87, .iand, 1), (88, .i2l, 1), (89, .ladd, 1), (90, .lstore_n 3, 1), (91, .iinc 7 1, 3), (94, .goto (-51), 3), (97, .iconst 0, 1), (98, .istore 7, 2), (100, .iload 7, 2), (102, .bipush 8, 2), (104, .if_icmp .ge 44, 3), (107, .lload_n 3, 1), (108, .ldc2_w 167, 3), (111, .lrem, 1), (112, .lconst 0, 1), (113, .lcmp, 1), (114, .ifCond .ne 34, 3), (117, .lload 5, 2), (119, .ldc2_w 167, 3)]
theorem dg_a_95 : dgrp cX4_odds dl_a_95 = true := by decide +kernel
theorem dX4_odds_61 : decode cX4_odds 61 = .ok (.sipush 256, 3) := dgrp_at dg_a_95 0 rfl
theorem dX4_odds_64 : decode cX4_odds 64 = .ok (.invokevirtual 132, 3) := dgrp_at dg_a_95 1 rfl
theorem dX4_odds_67 : decode cX4_odds 67 = .ok (.istore 8, 2) := dgrp_at dg_a_95 2 rfl
theorem dX4_odds_69 : decode cX4_odds 69 = .ok (.aload_n 0, 1) := dgrp_at dg_a_95 3 rfl
theorem dX4_odds_70 : decode cX4_odds 70 = .ok (.getfield 12, 3) := dgrp_at dg_a_95 4 rfl
theorem dX4_odds_73 : decode cX4_odds 73 = .ok (.iload 8, 2) := dgrp_at dg_a_95 5 rfl
theorem dX4_odds_75 : decode cX4_odds 75 = .ok (.invokevirtual 123, 3) := dgrp_at dg_a_95 6 rfl
theorem dX4_odds_78 : decode cX4_odds 78 = .ok (.ifCond .eq 13, 3) := dgrp_at dg_a_95 7 rfl
theorem dX4_odds_81 : decode cX4_odds 81 = .ok (.lload_n 3, 1) := dgrp_at dg_a_95 8 rfl
theorem dX4_odds_82 : decode cX4_odds 82 = .ok (.iload 8, 2) := dgrp_at dg_a_95 9 rfl
theorem dX4_odds_84 : decode cX4_odds 84 = .ok (.iload_n 1, 1) := dgrp_at dg_a_95 10 rfl
theorem dX4_odds_85 : decode cX4_odds 85 = .ok (.ishr, 1) := dgrp_at dg_a_95 11 rfl
theorem dX4_odds_86 : decode cX4_odds 86 = .ok (.iconst 1, 1) := dgrp_at dg_a_95 12 rfl
theorem dX4_odds_87 : decode cX4_odds 87 = .ok (.iand, 1) := dgrp_at dg_a_95 13 rfl
theorem dX4_odds_88 : decode cX4_odds 88 = .ok (.i2l, 1) := dgrp_at dg_a_95 14 rfl
theorem dX4_odds_89 : decode cX4_odds 89 = .ok (.ladd, 1) := dgrp_at dg_a_95 15 rfl
theorem dX4_odds_90 : decode cX4_odds 90 = .ok (.lstore_n 3, 1) := dgrp_at dg_a_95 16 rfl
theorem dX4_odds_91 : decode cX4_odds 91 = .ok (.iinc 7 1, 3) := dgrp_at dg_a_95 17 rfl
theorem dX4_odds_94 : decode cX4_odds 94 = .ok (.goto (-51), 3) := dgrp_at dg_a_95 18 rfl
theorem dX4_odds_97 : decode cX4_odds 97 = .ok (.iconst 0, 1) := dgrp_at dg_a_95 19 rfl
theorem dX4_odds_98 : decode cX4_odds 98 = .ok (.istore 7, 2) := dgrp_at dg_a_95 20 rfl
theorem dX4_odds_100 : decode cX4_odds 100 = .ok (.iload 7, 2) := dgrp_at dg_a_95 21 rfl
theorem dX4_odds_102 : decode cX4_odds 102 = .ok (.bipush 8, 2) := dgrp_at dg_a_95 22 rfl
theorem dX4_odds_104 : decode cX4_odds 104 = .ok (.if_icmp .ge 44, 3) := dgrp_at dg_a_95 23 rfl
theorem dX4_odds_107 : decode cX4_odds 107 = .ok (.lload_n 3, 1) := dgrp_at dg_a_95 24 rfl
theorem dX4_odds_108 : decode cX4_odds 108 = .ok (.ldc2_w 167, 3) := dgrp_at dg_a_95 25 rfl
theorem dX4_odds_111 : decode cX4_odds 111 = .ok (.lrem, 1) := dgrp_at dg_a_95 26 rfl
theorem dX4_odds_112 : decode cX4_odds 112 = .ok (.lconst 0, 1) := dgrp_at dg_a_95 27 rfl
theorem dX4_odds_113 : decode cX4_odds 113 = .ok (.lcmp, 1) := dgrp_at dg_a_95 28 rfl
theorem dX4_odds_114 : decode cX4_odds 114 = .ok (.ifCond .ne 34, 3) := dgrp_at dg_a_95 29 rfl
theorem dX4_odds_117 : decode cX4_odds 117 = .ok (.lload 5, 2) := dgrp_at dg_a_95 30 rfl
theorem dX4_odds_119 : decode cX4_odds 119 = .ok (.ldc2_w 167, 3) := dgrp_at dg_a_95 31 rfl
def dl_a_96 : List (Nat × Instr × Nat) := [(122, .lrem, 1), (123, .lconst 0, 1), (124, .lcmp, 1), (125, .ifCond .ne 23, 3), (128, .lload_n 3, 1), (129, .ldc2_w 167, 3), (132, .ldiv, 1), (133, .lstore_n 3, 1), (134, .lload 5, 2), (136, .ldc2_w 167, 3), (139, .ldiv, 1), (140, .lstore 5, 2), (142, .iinc 7 1, 3), (145, .goto (-45), 3), (148, .iload_n 2, 1), (149, .ifCond .ne 7, 3), (152, .lload_n 3, 1), (153, .goto 5, 3), (156, .lload 5, 2), (158, .lreturn, 1)]
theorem dg_a_96 : dgrp cX4_odds dl_a_96 = true := by decide +kernel
theorem dX4_odds_122 : decode cX4_odds 122 = .ok (.lrem, 1) := dgrp_at dg_a_96 0 rfl
theorem dX4_odds_123 : decode cX4_odds 123 = .ok (.lconst 0, 1) := dgrp_at dg_a_96 1 rfl
theorem dX4_odds_124 : decode cX4_odds 124 = .ok (.lcmp, 1) := dgrp_at dg_a_96 2 rfl
theorem dX4_odds_125 : decode cX4_odds 125 = .ok (.ifCond .ne 23, 3) := dgrp_at dg_a_96 3 rfl
theorem dX4_odds_128 : decode cX4_odds 128 = .ok (.lload_n 3, 1) := dgrp_at dg_a_96 4 rfl
theorem dX4_odds_129 : decode cX4_odds 129 = .ok (.ldc2_w 167, 3) := dgrp_at dg_a_96 5 rfl
theorem dX4_odds_132 : decode cX4_odds 132 = .ok (.ldiv, 1) := dgrp_at dg_a_96 6 rfl
theorem dX4_odds_133 : decode cX4_odds 133 = .ok (.lstore_n 3, 1) := dgrp_at dg_a_96 7 rfl
theorem dX4_odds_134 : decode cX4_odds 134 = .ok (.lload 5, 2) := dgrp_at dg_a_96 8 rfl
theorem dX4_odds_136 : decode cX4_odds 136 = .ok (.ldc2_w 167, 3) := dgrp_at dg_a_96 9 rfl
theorem dX4_odds_139 : decode cX4_odds 139 = .ok (.ldiv, 1) := dgrp_at dg_a_96 10 rfl
theorem dX4_odds_140 : decode cX4_odds 140 = .ok (.lstore 5, 2) := dgrp_at dg_a_96 11 rfl
theorem dX4_odds_142 : decode cX4_odds 142 = .ok (.iinc 7 1, 3) := dgrp_at dg_a_96 12 rfl
theorem dX4_odds_145 : decode cX4_odds 145 = .ok (.goto (-45), 3) := dgrp_at dg_a_96 13 rfl
theorem dX4_odds_148 : decode cX4_odds 148 = .ok (.iload_n 2, 1) := dgrp_at dg_a_96 14 rfl
theorem dX4_odds_149 : decode cX4_odds 149 = .ok (.ifCond .ne 7, 3) := dgrp_at dg_a_96 15 rfl
theorem dX4_odds_152 : decode cX4_odds 152 = .ok (.lload_n 3, 1) := dgrp_at dg_a_96 16 rfl
theorem dX4_odds_153 : decode cX4_odds 153 = .ok (.goto 5, 3) := dgrp_at dg_a_96 17 rfl
theorem dX4_odds_156 : decode cX4_odds 156 = .ok (.lload 5, 2) := dgrp_at dg_a_96 18 rfl
theorem dX4_odds_158 : decode cX4_odds 158 = .ok (.lreturn, 1) := dgrp_at dg_a_96 19 rfl
def dl_a_97 : List (Nat × Instr × Nat) := [(0, .aload_n 0, 1), (1, .getfield 12, 3), (4, .iload_n 1, 1), (5, .invokevirtual 115, 3), (8, .ifCond .eq 21, 3), (11, .aload_n 0, 1), (12, .getfield 12, 3), (15, .iload_n 1, 1), (16, .aload_n 0, 1), (17, .getfield 12, 3), (20, .invokevirtual 156, 3), (23, .invokevirtual 169, 3), (26, .goto 9, 3), (29, .aload_n 0, 1), (30, .ldc 51, 2), (32, .invokevirtual 52, 3), (35, .ireturn, 1)]
theorem dg_a_97 : dgrp cX4_last dl_a_97 = true := by decide +kernel
theorem dX4_last_0 : decode cX4_last 0 = .ok (.aload_n 0, 1) := dgrp_at dg_a_97 0 rfl
theorem dX4_last_1 : decode cX4_last 1 = .ok (.getfield 12, 3) := dgrp_at dg_a_97 1 rfl
theorem dX4_last_4 : decode cX4_last 4 = .ok (.iload_n 1, 1) := dgrp_at dg_a_97 2 rfl
theorem dX4_last_5 : decode cX4_last 5 = .ok (.invokevirtual 115, 3) := dgrp_at dg_a_97 3 rfl
theorem dX4_last_8 : decode cX4_last 8 = .ok (.ifCond .eq 21, 3) := dgrp_at dg_a_97 4 rfl
theorem dX4_last_11 : decode cX4_last 11 = .ok (.aload_n 0, 1) := dgrp_at dg_a_97 5 rfl
theorem dX4_last_12 : decode cX4_last 12 = .ok (.getfield 12, 3) := dgrp_at dg_a_97 6 rfl
theorem dX4_last_15 : decode cX4_last 15 = .ok (.iload_n 1, 1) := dgrp_at dg_a_97 7 rfl
theorem dX4_last_16 : decode cX4_last 16 = .ok (.aload_n 0, 1) := dgrp_at dg_a_97 8 rfl
theorem dX4_last_17 : decode cX4_last 17 = .ok (.getfield 12, 3) := dgrp_at dg_a_97 9 rfl
theorem dX4_last_20 : decode cX4_last 20 = .ok (.invokevirtual 156, 3) := dgrp_at dg_a_97 10 rfl
theorem dX4_last_23 : decode cX4_last 23 = .ok (.invokevirtual 169, 3) := dgrp_at dg_a_97 11 rfl
theorem dX4_last_26 : decode cX4_last 26 = .ok (.goto 9, 3) := dgrp_at dg_a_97 12 rfl
theorem dX4_last_29 : decode cX4_last 29 = .ok (.aload_n 0, 1) := dgrp_at dg_a_97 13 rfl
theorem dX4_last_30 : decode cX4_last 30 = .ok (.ldc 51, 2) := dgrp_at dg_a_97 14 rfl
theorem dX4_last_32 : decode cX4_last 32 = .ok (.invokevirtual 52, 3) := dgrp_at dg_a_97 15 rfl
theorem dX4_last_35 : decode cX4_last 35 = .ok (.ireturn, 1) := dgrp_at dg_a_97 16 rfl
def dl_a_98 : List (Nat × Instr × Nat) := [(0, .iload_n 1, 1), (1, .ifCond .lt 9, 3), (4, .iload_n 1, 1), (5, .bipush 8, 2), (7, .if_icmp .le 10, 3), (10, .aload_n 0, 1), (11, .ldc 51, 2), (13, .invokevirtual 52, 3), (16, .ireturn, 1), (17, .aload_n 0, 1), (18, .iload_n 1, 1), (19, .invokevirtual 172, 3), (22, .istore_n 2, 1), (23, .iload_n 2, 1), (24, .ifCond .ge 12, 3), (27, .aload_n 0, 1), (28, .ldc 135, 2), (30, .invokevirtual 52, 3), (33, .goto 4, 3), (36, .iload_n 2, 1), (37, .ireturn, 1)]
theorem dg_a_98 : dgrp cX4_buys dl_a_98 = true := by decide +kernel
theorem dX4_buys_0 : decode cX4_buys 0 = .ok (.iload_n 1, 1) := dgrp_at dg_a_98 0 rfl
theorem dX4_buys_1 : decode cX4_buys 1 = .ok (.ifCond .lt 9, 3) := dgrp_at dg_a_98 1 rfl
theorem dX4_buys_4 : decode cX4_buys 4 = .ok (.iload_n 1, 1) := dgrp_at dg_a_98 2 rfl
theorem dX4_buys_5 : decode cX4_buys 5 = .ok (.bipush 8, 2) := dgrp_at dg_a_98 3 rfl
theorem dX4_buys_7 : decode cX4_buys 7 = .ok (.if_icmp .le 10, 3) := dgrp_at dg_a_98 4 rfl
theorem dX4_buys_10 : decode cX4_buys 10 = .ok (.aload_n 0, 1) := dgrp_at dg_a_98 5 rfl
theorem dX4_buys_11 : decode cX4_buys 11 = .ok (.ldc 51, 2) := dgrp_at dg_a_98 6 rfl
theorem dX4_buys_13 : decode cX4_buys 13 = .ok (.invokevirtual 52, 3) := dgrp_at dg_a_98 7 rfl
theorem dX4_buys_16 : decode cX4_buys 16 = .ok (.ireturn, 1) := dgrp_at dg_a_98 8 rfl
theorem dX4_buys_17 : decode cX4_buys 17 = .ok (.aload_n 0, 1) := dgrp_at dg_a_98 9 rfl
theorem dX4_buys_18 : decode cX4_buys 18 = .ok (.iload_n 1, 1) := dgrp_at dg_a_98 10 rfl
theorem dX4_buys_19 : decode cX4_buys 19 = .ok (.invokevirtual 172, 3) := dgrp_at dg_a_98 11 rfl
theorem dX4_buys_22 : decode cX4_buys 22 = .ok (.istore_n 2, 1) := dgrp_at dg_a_98 12 rfl
theorem dX4_buys_23 : decode cX4_buys 23 = .ok (.iload_n 2, 1) := dgrp_at dg_a_98 13 rfl
theorem dX4_buys_24 : decode cX4_buys 24 = .ok (.ifCond .ge 12, 3) := dgrp_at dg_a_98 14 rfl
theorem dX4_buys_27 : decode cX4_buys 27 = .ok (.aload_n 0, 1) := dgrp_at dg_a_98 15 rfl
theorem dX4_buys_28 : decode cX4_buys 28 = .ok (.ldc 135, 2) := dgrp_at dg_a_98 16 rfl
theorem dX4_buys_30 : decode cX4_buys 30 = .ok (.invokevirtual 52, 3) := dgrp_at dg_a_98 17 rfl
theorem dX4_buys_33 : decode cX4_buys 33 = .ok (.goto 4, 3) := dgrp_at dg_a_98 18 rfl
theorem dX4_buys_36 : decode cX4_buys 36 = .ok (.iload_n 2, 1) := dgrp_at dg_a_98 19 rfl
theorem dX4_buys_37 : decode cX4_buys 37 = .ok (.ireturn, 1) := dgrp_at dg_a_98 20 rfl
def dl_a_99 : List (Nat × Instr × Nat) := [(0, .iload_n 1, 1), (1, .ifCond .lt 9, 3), (4, .iload_n 1, 1), (5, .bipush 8, 2), (7, .if_icmp .le 10, 3), (10, .aload_n 0, 1), (11, .ldc 51, 2), (13, .invokevirtual 52, 3), (16, .ireturn, 1), (17, .aload_n 0, 1), (18, .iload_n 1, 1), (19, .invokevirtual 172, 3), (22, .istore_n 2, 1), (23, .iload_n 2, 1), (24, .ifCond .ge 12, 3), (27, .aload_n 0, 1), (28, .ldc 135, 2), (30, .invokevirtual 52, 3), (33, .goto 11, 3), (36, .aload_n 0, 1), (37, .getfield 12, 3), (40, .iload_n 2, 1), (41, .invokevirtual 126, 3), (44, .ireturn, 1)]
theorem dg_a_99 : dgrp cX4_price dl_a_99 = true := by decide +kernel
theorem dX4_price_0 : decode cX4_price 0 = .ok (.iload_n 1, 1) := dgrp_at dg_a_99 0 rfl
theorem dX4_price_1 : decode cX4_price 1 = .ok (.ifCond .lt 9, 3) := dgrp_at dg_a_99 1 rfl
theorem dX4_price_4 : decode cX4_price 4 = .ok (.iload_n 1, 1) := dgrp_at dg_a_99 2 rfl
theorem dX4_price_5 : decode cX4_price 5 = .ok (.bipush 8, 2) := dgrp_at dg_a_99 3 rfl
theorem dX4_price_7 : decode cX4_price 7 = .ok (.if_icmp .le 10, 3) := dgrp_at dg_a_99 4 rfl
theorem dX4_price_10 : decode cX4_price 10 = .ok (.aload_n 0, 1) := dgrp_at dg_a_99 5 rfl
theorem dX4_price_11 : decode cX4_price 11 = .ok (.ldc 51, 2) := dgrp_at dg_a_99 6 rfl
theorem dX4_price_13 : decode cX4_price 13 = .ok (.invokevirtual 52, 3) := dgrp_at dg_a_99 7 rfl
theorem dX4_price_16 : decode cX4_price 16 = .ok (.ireturn, 1) := dgrp_at dg_a_99 8 rfl
theorem dX4_price_17 : decode cX4_price 17 = .ok (.aload_n 0, 1) := dgrp_at dg_a_99 9 rfl
theorem dX4_price_18 : decode cX4_price 18 = .ok (.iload_n 1, 1) := dgrp_at dg_a_99 10 rfl
theorem dX4_price_19 : decode cX4_price 19 = .ok (.invokevirtual 172, 3) := dgrp_at dg_a_99 11 rfl
theorem dX4_price_22 : decode cX4_price 22 = .ok (.istore_n 2, 1) := dgrp_at dg_a_99 12 rfl
theorem dX4_price_23 : decode cX4_price 23 = .ok (.iload_n 2, 1) := dgrp_at dg_a_99 13 rfl
theorem dX4_price_24 : decode cX4_price 24 = .ok (.ifCond .ge 12, 3) := dgrp_at dg_a_99 14 rfl
theorem dX4_price_27 : decode cX4_price 27 = .ok (.aload_n 0, 1) := dgrp_at dg_a_99 15 rfl
theorem dX4_price_28 : decode cX4_price 28 = .ok (.ldc 135, 2) := dgrp_at dg_a_99 16 rfl
theorem dX4_price_30 : decode cX4_price 30 = .ok (.invokevirtual 52, 3) := dgrp_at dg_a_99 17 rfl
theorem dX4_price_33 : decode cX4_price 33 = .ok (.goto 11, 3) := dgrp_at dg_a_99 18 rfl
theorem dX4_price_36 : decode cX4_price 36 = .ok (.aload_n 0, 1) := dgrp_at dg_a_99 19 rfl
theorem dX4_price_37 : decode cX4_price 37 = .ok (.getfield 12, 3) := dgrp_at dg_a_99 20 rfl
theorem dX4_price_40 : decode cX4_price 40 = .ok (.iload_n 2, 1) := dgrp_at dg_a_99 21 rfl
theorem dX4_price_41 : decode cX4_price 41 = .ok (.invokevirtual 126, 3) := dgrp_at dg_a_99 22 rfl
theorem dX4_price_44 : decode cX4_price 44 = .ok (.ireturn, 1) := dgrp_at dg_a_99 23 rfl
def dl_a_100 : List (Nat × Instr × Nat) := [(0, .iconst (-1), 1), (1, .istore_n 1, 1), (2, .bipush 9, 2), (4, .istore_n 2, 1), (5, .iconst 0, 1), (6, .istore_n 3, 1), (7, .iload_n 3, 1), (8, .aload_n 0, 1), (9, .getfield 12, 3), (12, .getfield 56, 3), (15, .if_icmp .ge 46, 3), (18, .aload_n 0, 1), (19, .getfield 12, 3), (22, .iconst 0, 1), (23, .aload_n 0, 1), (24, .getfield 12, 3), (27, .invokevirtual 156, 3), (30, .iconst 1, 1), (31, .iload_n 3, 1), (32, .ishl, 1), (33, .iconst (-1), 1), (34, .ixor, 1), (35, .iand, 1), (36, .invokevirtual 169, 3), (39, .invokestatic 118, 3), (42, .istore 4, 2), (44, .iload 4, 2), (46, .iload_n 2, 1), (47, .if_icmp .ge 8, 3), (50, .iload 4, 2), (52, .istore_n 2, 1), (53, .iload_n 3, 1)]
theorem dg_a_100 : dgrp cX4_spoils dl_a_100 = true := by decide +kernel
theorem dX4_spoils_0 : decode cX4_spoils 0 = .ok (.iconst (-1), 1) := dgrp_at dg_a_100 0 rfl
theorem dX4_spoils_1 : decode cX4_spoils 1 = .ok (.istore_n 1, 1) := dgrp_at dg_a_100 1 rfl
theorem dX4_spoils_2 : decode cX4_spoils 2 = .ok (.bipush 9, 2) := dgrp_at dg_a_100 2 rfl
theorem dX4_spoils_4 : decode cX4_spoils 4 = .ok (.istore_n 2, 1) := dgrp_at dg_a_100 3 rfl
theorem dX4_spoils_5 : decode cX4_spoils 5 = .ok (.iconst 0, 1) := dgrp_at dg_a_100 4 rfl
theorem dX4_spoils_6 : decode cX4_spoils 6 = .ok (.istore_n 3, 1) := dgrp_at dg_a_100 5 rfl
theorem dX4_spoils_7 : decode cX4_spoils 7 = .ok (.iload_n 3, 1) := dgrp_at dg_a_100 6 rfl
theorem dX4_spoils_8 : decode cX4_spoils 8 = .ok (.aload_n 0, 1) := dgrp_at dg_a_100 7 rfl
theorem dX4_spoils_9 : decode cX4_spoils 9 = .ok (.getfield 12, 3) := dgrp_at dg_a_100 8 rfl
theorem dX4_spoils_12 : decode cX4_spoils 12 = .ok (.getfield 56, 3) := dgrp_at dg_a_100 9 rfl
theorem dX4_spoils_15 : decode cX4_spoils 15 = .ok (.if_icmp .ge 46, 3) := dgrp_at dg_a_100 10 rfl
theorem dX4_spoils_18 : decode cX4_spoils 18 = .ok (.aload_n 0, 1) := dgrp_at dg_a_100 11 rfl
theorem dX4_spoils_19 : decode cX4_spoils 19 = .ok (.getfield 12, 3) := dgrp_at dg_a_100 12 rfl
theorem dX4_spoils_22 : decode cX4_spoils 22 = .ok (.iconst 0, 1) := dgrp_at dg_a_100 13 rfl
theorem dX4_spoils_23 : decode cX4_spoils 23 = .ok (.aload_n 0, 1) := dgrp_at dg_a_100 14 rfl
theorem dX4_spoils_24 : decode cX4_spoils 24 = .ok (.getfield 12, 3) := dgrp_at dg_a_100 15 rfl
theorem dX4_spoils_27 : decode cX4_spoils 27 = .ok (.invokevirtual 156, 3) := dgrp_at dg_a_100 16 rfl
theorem dX4_spoils_30 : decode cX4_spoils 30 = .ok (.iconst 1, 1) := dgrp_at dg_a_100 17 rfl
theorem dX4_spoils_31 : decode cX4_spoils 31 = .ok (.iload_n 3, 1) := dgrp_at dg_a_100 18 rfl
theorem dX4_spoils_32 : decode cX4_spoils 32 = .ok (.ishl, 1) := dgrp_at dg_a_100 19 rfl
theorem dX4_spoils_33 : decode cX4_spoils 33 = .ok (.iconst (-1), 1) := dgrp_at dg_a_100 20 rfl
theorem dX4_spoils_34 : decode cX4_spoils 34 = .ok (.ixor, 1) := dgrp_at dg_a_100 21 rfl
theorem dX4_spoils_35 : decode cX4_spoils 35 = .ok (.iand, 1) := dgrp_at dg_a_100 22 rfl
theorem dX4_spoils_36 : decode cX4_spoils 36 = .ok (.invokevirtual 169, 3) := dgrp_at dg_a_100 23 rfl
theorem dX4_spoils_39 : decode cX4_spoils 39 = .ok (.invokestatic 118, 3) := dgrp_at dg_a_100 24 rfl
theorem dX4_spoils_42 : decode cX4_spoils 42 = .ok (.istore 4, 2) := dgrp_at dg_a_100 25 rfl
theorem dX4_spoils_44 : decode cX4_spoils 44 = .ok (.iload 4, 2) := dgrp_at dg_a_100 26 rfl
theorem dX4_spoils_46 : decode cX4_spoils 46 = .ok (.iload_n 2, 1) := dgrp_at dg_a_100 27 rfl
theorem dX4_spoils_47 : decode cX4_spoils 47 = .ok (.if_icmp .ge 8, 3) := dgrp_at dg_a_100 28 rfl
theorem dX4_spoils_50 : decode cX4_spoils 50 = .ok (.iload 4, 2) := dgrp_at dg_a_100 29 rfl
theorem dX4_spoils_52 : decode cX4_spoils 52 = .ok (.istore_n 2, 1) := dgrp_at dg_a_100 30 rfl
theorem dX4_spoils_53 : decode cX4_spoils 53 = .ok (.iload_n 3, 1) := dgrp_at dg_a_100 31 rfl
def dl_a_101 : List (Nat × Instr × Nat) := [(54, .istore_n 1, 1), (55, .iinc 3 1, 3), (58, .goto (-51), 3), (61, .iload_n 1, 1), (62, .ifCond .ge 12, 3), (65, .aload_n 0, 1), (66, .ldc 135, 2), (68, .invokevirtual 52, 3), (71, .goto 4, 3), (74, .iload_n 1, 1), (75, .ireturn, 1)]
theorem dg_a_101 : dgrp cX4_spoils dl_a_101 = true := by decide +kernel
theorem dX4_spoils_54 : decode cX4_spoils 54 = .ok (.istore_n 1, 1) := dgrp_at dg_a_101 0 rfl
theorem dX4_spoils_55 : decode cX4_spoils 55 = .ok (.iinc 3 1, 3) := dgrp_at dg_a_101 1 rfl
theorem dX4_spoils_58 : decode cX4_spoils 58 = .ok (.goto (-51), 3) := dgrp_at dg_a_101 2 rfl
theorem dX4_spoils_61 : decode cX4_spoils 61 = .ok (.iload_n 1, 1) := dgrp_at dg_a_101 3 rfl
theorem dX4_spoils_62 : decode cX4_spoils 62 = .ok (.ifCond .ge 12, 3) := dgrp_at dg_a_101 4 rfl
theorem dX4_spoils_65 : decode cX4_spoils 65 = .ok (.aload_n 0, 1) := dgrp_at dg_a_101 5 rfl
theorem dX4_spoils_66 : decode cX4_spoils 66 = .ok (.ldc 135, 2) := dgrp_at dg_a_101 6 rfl
theorem dX4_spoils_68 : decode cX4_spoils 68 = .ok (.invokevirtual 52, 3) := dgrp_at dg_a_101 7 rfl
theorem dX4_spoils_71 : decode cX4_spoils 71 = .ok (.goto 4, 3) := dgrp_at dg_a_101 8 rfl
theorem dX4_spoils_74 : decode cX4_spoils 74 = .ok (.iload_n 1, 1) := dgrp_at dg_a_101 9 rfl
theorem dX4_spoils_75 : decode cX4_spoils 75 = .ok (.ireturn, 1) := dgrp_at dg_a_101 10 rfl
def dl_a_102 : List (Nat × Instr × Nat) := [(0, .iload_n 1, 1), (1, .ifCond .lt 14, 3), (4, .iload_n 2, 1), (5, .bipush 8, 2), (7, .if_icmp .gt 8, 3), (10, .iload_n 1, 1), (11, .iload_n 2, 1), (12, .if_icmp .le 10, 3), (15, .aload_n 0, 1), (16, .ldc 51, 2), (18, .invokevirtual 52, 3), (21, .ireturn, 1), (22, .iconst (-1), 1), (23, .istore_n 3, 1), (24, .iconst 0, 1), (25, .istore 4, 2), (27, .iload 4, 2), (29, .aload_n 0, 1), (30, .getfield 12, 3), (33, .invokevirtual 153, 3), (36, .if_icmp .ge 51, 3), (39, .iload_n 3, 1), (40, .ifCond .lt 15, 3), (43, .iload 4, 2), (45, .invokestatic 118, 3), (48, .iload_n 3, 1), (49, .invokestatic 118, 3), (52, .if_icmp .ge 7, 3), (55, .iconst 1, 1), (56, .goto 4, 3), (59, .iconst 0, 1), (60, .istore 5, 2)]
theorem dg_a_102 : dgrp cX4_invites dl_a_102 = true := by decide +kernel
theorem dX4_invites_0 : decode cX4_invites 0 = .ok (.iload_n 1, 1) := dgrp_at dg_a_102 0 rfl
theorem dX4_invites_1 : decode cX4_invites 1 = .ok (.ifCond .lt 14, 3) := dgrp_at dg_a_102 1 rfl
theorem dX4_invites_4 : decode cX4_invites 4 = .ok (.iload_n 2, 1) := dgrp_at dg_a_102 2 rfl
theorem dX4_invites_5 : decode cX4_invites 5 = .ok (.bipush 8, 2) := dgrp_at dg_a_102 3 rfl
theorem dX4_invites_7 : decode cX4_invites 7 = .ok (.if_icmp .gt 8, 3) := dgrp_at dg_a_102 4 rfl
theorem dX4_invites_10 : decode cX4_invites 10 = .ok (.iload_n 1, 1) := dgrp_at dg_a_102 5 rfl
theorem dX4_invites_11 : decode cX4_invites 11 = .ok (.iload_n 2, 1) := dgrp_at dg_a_102 6 rfl
theorem dX4_invites_12 : decode cX4_invites 12 = .ok (.if_icmp .le 10, 3) := dgrp_at dg_a_102 7 rfl
theorem dX4_invites_15 : decode cX4_invites 15 = .ok (.aload_n 0, 1) := dgrp_at dg_a_102 8 rfl
theorem dX4_invites_16 : decode cX4_invites 16 = .ok (.ldc 51, 2) := dgrp_at dg_a_102 9 rfl
theorem dX4_invites_18 : decode cX4_invites 18 = .ok (.invokevirtual 52, 3) := dgrp_at dg_a_102 10 rfl
theorem dX4_invites_21 : decode cX4_invites 21 = .ok (.ireturn, 1) := dgrp_at dg_a_102 11 rfl
theorem dX4_invites_22 : decode cX4_invites 22 = .ok (.iconst (-1), 1) := dgrp_at dg_a_102 12 rfl
theorem dX4_invites_23 : decode cX4_invites 23 = .ok (.istore_n 3, 1) := dgrp_at dg_a_102 13 rfl
theorem dX4_invites_24 : decode cX4_invites 24 = .ok (.iconst 0, 1) := dgrp_at dg_a_102 14 rfl
theorem dX4_invites_25 : decode cX4_invites 25 = .ok (.istore 4, 2) := dgrp_at dg_a_102 15 rfl
theorem dX4_invites_27 : decode cX4_invites 27 = .ok (.iload 4, 2) := dgrp_at dg_a_102 16 rfl
theorem dX4_invites_29 : decode cX4_invites 29 = .ok (.aload_n 0, 1) := dgrp_at dg_a_102 17 rfl
theorem dX4_invites_30 : decode cX4_invites 30 = .ok (.getfield 12, 3) := dgrp_at dg_a_102 18 rfl
theorem dX4_invites_33 : decode cX4_invites 33 = .ok (.invokevirtual 153, 3) := dgrp_at dg_a_102 19 rfl
theorem dX4_invites_36 : decode cX4_invites 36 = .ok (.if_icmp .ge 51, 3) := dgrp_at dg_a_102 20 rfl
theorem dX4_invites_39 : decode cX4_invites 39 = .ok (.iload_n 3, 1) := dgrp_at dg_a_102 21 rfl
theorem dX4_invites_40 : decode cX4_invites 40 = .ok (.ifCond .lt 15, 3) := dgrp_at dg_a_102 22 rfl
theorem dX4_invites_43 : decode cX4_invites 43 = .ok (.iload 4, 2) := dgrp_at dg_a_102 23 rfl
theorem dX4_invites_45 : decode cX4_invites 45 = .ok (.invokestatic 118, 3) := dgrp_at dg_a_102 24 rfl
theorem dX4_invites_48 : decode cX4_invites 48 = .ok (.iload_n 3, 1) := dgrp_at dg_a_102 25 rfl
theorem dX4_invites_49 : decode cX4_invites 49 = .ok (.invokestatic 118, 3) := dgrp_at dg_a_102 26 rfl
theorem dX4_invites_52 : decode cX4_invites 52 = .ok (.if_icmp .ge 7, 3) := dgrp_at dg_a_102 27 rfl
theorem dX4_invites_55 : decode cX4_invites 55 = .ok (.iconst 1, 1) := dgrp_at dg_a_102 28 rfl
theorem dX4_invites_56 : decode cX4_invites 56 = .ok (.goto 4, 3) := dgrp_at dg_a_102 29 rfl
theorem dX4_invites_59 : decode cX4_invites 59 = .ok (.iconst 0, 1) := dgrp_at dg_a_102 30 rfl
theorem dX4_invites_60 : decode cX4_invites 60 = .ok (.istore 5, 2) := dgrp_at dg_a_102 31 rfl
def dl_a_103 : List (Nat × Instr × Nat) := [(62, .iload 5, 2), (64, .ifCond .eq 17, 3), (67, .aload_n 0, 1), (68, .iload 4, 2), (70, .iload_n 1, 1), (71, .iload_n 2, 1), (72, .invokevirtual 175, 3), (75, .ifCond .eq 6, 3), (78, .iload 4, 2), (80, .istore_n 3, 1), (81, .iinc 4 1, 3), (84, .goto (-57), 3), (87, .iload_n 3, 1), (88, .ifCond .ge 12, 3), (91, .aload_n 0, 1), (92, .ldc 135, 2), (94, .invokevirtual 52, 3), (97, .goto 4, 3), (100, .iload_n 3, 1), (101, .ireturn, 1)]
theorem dg_a_103 : dgrp cX4_invites dl_a_103 = true := by decide +kernel
theorem dX4_invites_62 : decode cX4_invites 62 = .ok (.iload 5, 2) := dgrp_at dg_a_103 0 rfl
theorem dX4_invites_64 : decode cX4_invites 64 = .ok (.ifCond .eq 17, 3) := dgrp_at dg_a_103 1 rfl
theorem dX4_invites_67 : decode cX4_invites 67 = .ok (.aload_n 0, 1) := dgrp_at dg_a_103 2 rfl
theorem dX4_invites_68 : decode cX4_invites 68 = .ok (.iload 4, 2) := dgrp_at dg_a_103 3 rfl
theorem dX4_invites_70 : decode cX4_invites 70 = .ok (.iload_n 1, 1) := dgrp_at dg_a_103 4 rfl
theorem dX4_invites_71 : decode cX4_invites 71 = .ok (.iload_n 2, 1) := dgrp_at dg_a_103 5 rfl
theorem dX4_invites_72 : decode cX4_invites 72 = .ok (.invokevirtual 175, 3) := dgrp_at dg_a_103 6 rfl
theorem dX4_invites_75 : decode cX4_invites 75 = .ok (.ifCond .eq 6, 3) := dgrp_at dg_a_103 7 rfl
theorem dX4_invites_78 : decode cX4_invites 78 = .ok (.iload 4, 2) := dgrp_at dg_a_103 8 rfl
theorem dX4_invites_80 : decode cX4_invites 80 = .ok (.istore_n 3, 1) := dgrp_at dg_a_103 9 rfl
theorem dX4_invites_81 : decode cX4_invites 81 = .ok (.iinc 4 1, 3) := dgrp_at dg_a_103 10 rfl
theorem dX4_invites_84 : decode cX4_invites 84 = .ok (.goto (-57), 3) := dgrp_at dg_a_103 11 rfl
theorem dX4_invites_87 : decode cX4_invites 87 = .ok (.iload_n 3, 1) := dgrp_at dg_a_103 12 rfl
theorem dX4_invites_88 : decode cX4_invites 88 = .ok (.ifCond .ge 12, 3) := dgrp_at dg_a_103 13 rfl
theorem dX4_invites_91 : decode cX4_invites 91 = .ok (.aload_n 0, 1) := dgrp_at dg_a_103 14 rfl
theorem dX4_invites_92 : decode cX4_invites 92 = .ok (.ldc 135, 2) := dgrp_at dg_a_103 15 rfl
theorem dX4_invites_94 : decode cX4_invites 94 = .ok (.invokevirtual 52, 3) := dgrp_at dg_a_103 16 rfl
theorem dX4_invites_97 : decode cX4_invites 97 = .ok (.goto 4, 3) := dgrp_at dg_a_103 17 rfl
theorem dX4_invites_100 : decode cX4_invites 100 = .ok (.iload_n 3, 1) := dgrp_at dg_a_103 18 rfl
theorem dX4_invites_101 : decode cX4_invites 101 = .ok (.ireturn, 1) := dgrp_at dg_a_103 19 rfl
def dl_a_104 : List (Nat × Instr × Nat) := [(0, .aload_n 0, 1), (1, .getfield 12, 3), (4, .iload_n 1, 1), (5, .invokevirtual 65, 3), (8, .ifCond .eq 19, 3), (11, .aload_n 0, 1), (12, .getfield 12, 3), (15, .iload_n 2, 1), (16, .invokevirtual 65, 3), (19, .ifCond .eq 8, 3), (22, .iload_n 1, 1), (23, .iload_n 2, 1), (24, .if_icmp .ne 10, 3), (27, .aload_n 0, 1), (28, .ldc 51, 2), (30, .invokevirtual 52, 3), (33, .ireturn, 1), (34, .iconst 0, 1), (35, .istore_n 3, 1), (36, .iconst 0, 1), (37, .istore 4, 2), (39, .iconst 0, 1), (40, .istore 5, 2), (42, .iconst 0, 1), (43, .istore 6, 2), (45, .iload 6, 2), (47, .aload_n 0, 1), (48, .getfield 12, 3), (51, .invokevirtual 153, 3), (54, .if_icmp .ge 69, 3), (57, .aload_n 0, 1), (58, .getfield 12, 3)]
theorem dg_a_104 : dgrp cX4_against dl_a_104 = true := by decide +kernel
theorem dX4_against_0 : decode cX4_against 0 = .ok (.aload_n 0, 1) := dgrp_at dg_a_104 0 rfl
theorem dX4_against_1 : decode cX4_against 1 = .ok (.getfield 12, 3) := dgrp_at dg_a_104 1 rfl
theorem dX4_against_4 : decode cX4_against 4 = .ok (.iload_n 1, 1) := dgrp_at dg_a_104 2 rfl
theorem dX4_against_5 : decode cX4_against 5 = .ok (.invokevirtual 65, 3) := dgrp_at dg_a_104 3 rfl
theorem dX4_against_8 : decode cX4_against 8 = .ok (.ifCond .eq 19, 3) := dgrp_at dg_a_104 4 rfl
theorem dX4_against_11 : decode cX4_against 11 = .ok (.aload_n 0, 1) := dgrp_at dg_a_104 5 rfl
theorem dX4_against_12 : decode cX4_against 12 = .ok (.getfield 12, 3) := dgrp_at dg_a_104 6 rfl
theorem dX4_against_15 : decode cX4_against 15 = .ok (.iload_n 2, 1) := dgrp_at dg_a_104 7 rfl
theorem dX4_against_16 : decode cX4_against 16 = .ok (.invokevirtual 65, 3) := dgrp_at dg_a_104 8 rfl
theorem dX4_against_19 : decode cX4_against 19 = .ok (.ifCond .eq 8, 3) := dgrp_at dg_a_104 9 rfl
theorem dX4_against_22 : decode cX4_against 22 = .ok (.iload_n 1, 1) := dgrp_at dg_a_104 10 rfl
theorem dX4_against_23 : decode cX4_against 23 = .ok (.iload_n 2, 1) := dgrp_at dg_a_104 11 rfl
theorem dX4_against_24 : decode cX4_against 24 = .ok (.if_icmp .ne 10, 3) := dgrp_at dg_a_104 12 rfl
theorem dX4_against_27 : decode cX4_against 27 = .ok (.aload_n 0, 1) := dgrp_at dg_a_104 13 rfl
theorem dX4_against_28 : decode cX4_against 28 = .ok (.ldc 51, 2) := dgrp_at dg_a_104 14 rfl
theorem dX4_against_30 : decode cX4_against 30 = .ok (.invokevirtual 52, 3) := dgrp_at dg_a_104 15 rfl
theorem dX4_against_33 : decode cX4_against 33 = .ok (.ireturn, 1) := dgrp_at dg_a_104 16 rfl
theorem dX4_against_34 : decode cX4_against 34 = .ok (.iconst 0, 1) := dgrp_at dg_a_104 17 rfl
theorem dX4_against_35 : decode cX4_against 35 = .ok (.istore_n 3, 1) := dgrp_at dg_a_104 18 rfl
theorem dX4_against_36 : decode cX4_against 36 = .ok (.iconst 0, 1) := dgrp_at dg_a_104 19 rfl
theorem dX4_against_37 : decode cX4_against 37 = .ok (.istore 4, 2) := dgrp_at dg_a_104 20 rfl
theorem dX4_against_39 : decode cX4_against 39 = .ok (.iconst 0, 1) := dgrp_at dg_a_104 21 rfl
theorem dX4_against_40 : decode cX4_against 40 = .ok (.istore 5, 2) := dgrp_at dg_a_104 22 rfl
theorem dX4_against_42 : decode cX4_against 42 = .ok (.iconst 0, 1) := dgrp_at dg_a_104 23 rfl
theorem dX4_against_43 : decode cX4_against 43 = .ok (.istore 6, 2) := dgrp_at dg_a_104 24 rfl
theorem dX4_against_45 : decode cX4_against 45 = .ok (.iload 6, 2) := dgrp_at dg_a_104 25 rfl
theorem dX4_against_47 : decode cX4_against 47 = .ok (.aload_n 0, 1) := dgrp_at dg_a_104 26 rfl
theorem dX4_against_48 : decode cX4_against 48 = .ok (.getfield 12, 3) := dgrp_at dg_a_104 27 rfl
theorem dX4_against_51 : decode cX4_against 51 = .ok (.invokevirtual 153, 3) := dgrp_at dg_a_104 28 rfl
theorem dX4_against_54 : decode cX4_against 54 = .ok (.if_icmp .ge 69, 3) := dgrp_at dg_a_104 29 rfl
theorem dX4_against_57 : decode cX4_against 57 = .ok (.aload_n 0, 1) := dgrp_at dg_a_104 30 rfl
theorem dX4_against_58 : decode cX4_against 58 = .ok (.getfield 12, 3) := dgrp_at dg_a_104 31 rfl
def dl_a_105 : List (Nat × Instr × Nat) := [(61, .iload 6, 2), (63, .invokevirtual 123, 3), (66, .ifCond .eq 51, 3), (69, .iload_n 1, 1), (70, .iload 6, 2), (72, .invokestatic 179, 3), (75, .istore 7, 2), (77, .iload_n 2, 1), (78, .iload 6, 2), (80, .invokestatic 179, 3), (83, .istore 8, 2), (85, .iload_n 3, 1), (86, .iload 7, 2), (88, .ior, 1), (89, .istore_n 3, 1), (90, .iload 4, 2), (92, .iload 8, 2), (94, .ior, 1), (95, .istore 4, 2), (97, .iload 5, 2), (99, .iload 7, 2), (101, .ifCond .eq 12, 3), (104, .iload 8, 2), (106, .ifCond .eq 7, 3), (109, .iconst 1, 1), (110, .goto 4, 3), (113, .iconst 0, 1), (114, .ior, 1), (115, .istore 5, 2), (117, .iinc 6 1, 3), (120, .goto (-75), 3), (123, .iload_n 3, 1)]
theorem dg_a_105 : dgrp cX4_against dl_a_105 = true := by decide +kernel
theorem dX4_against_61 : decode cX4_against 61 = .ok (.iload 6, 2) := dgrp_at dg_a_105 0 rfl
theorem dX4_against_63 : decode cX4_against 63 = .ok (.invokevirtual 123, 3) := dgrp_at dg_a_105 1 rfl
theorem dX4_against_66 : decode cX4_against 66 = .ok (.ifCond .eq 51, 3) := dgrp_at dg_a_105 2 rfl
theorem dX4_against_69 : decode cX4_against 69 = .ok (.iload_n 1, 1) := dgrp_at dg_a_105 3 rfl
theorem dX4_against_70 : decode cX4_against 70 = .ok (.iload 6, 2) := dgrp_at dg_a_105 4 rfl
theorem dX4_against_72 : decode cX4_against 72 = .ok (.invokestatic 179, 3) := dgrp_at dg_a_105 5 rfl
theorem dX4_against_75 : decode cX4_against 75 = .ok (.istore 7, 2) := dgrp_at dg_a_105 6 rfl
theorem dX4_against_77 : decode cX4_against 77 = .ok (.iload_n 2, 1) := dgrp_at dg_a_105 7 rfl
theorem dX4_against_78 : decode cX4_against 78 = .ok (.iload 6, 2) := dgrp_at dg_a_105 8 rfl
theorem dX4_against_80 : decode cX4_against 80 = .ok (.invokestatic 179, 3) := dgrp_at dg_a_105 9 rfl
theorem dX4_against_83 : decode cX4_against 83 = .ok (.istore 8, 2) := dgrp_at dg_a_105 10 rfl
theorem dX4_against_85 : decode cX4_against 85 = .ok (.iload_n 3, 1) := dgrp_at dg_a_105 11 rfl
theorem dX4_against_86 : decode cX4_against 86 = .ok (.iload 7, 2) := dgrp_at dg_a_105 12 rfl
theorem dX4_against_88 : decode cX4_against 88 = .ok (.ior, 1) := dgrp_at dg_a_105 13 rfl
theorem dX4_against_89 : decode cX4_against 89 = .ok (.istore_n 3, 1) := dgrp_at dg_a_105 14 rfl
theorem dX4_against_90 : decode cX4_against 90 = .ok (.iload 4, 2) := dgrp_at dg_a_105 15 rfl
theorem dX4_against_92 : decode cX4_against 92 = .ok (.iload 8, 2) := dgrp_at dg_a_105 16 rfl
theorem dX4_against_94 : decode cX4_against 94 = .ok (.ior, 1) := dgrp_at dg_a_105 17 rfl
theorem dX4_against_95 : decode cX4_against 95 = .ok (.istore 4, 2) := dgrp_at dg_a_105 18 rfl
theorem dX4_against_97 : decode cX4_against 97 = .ok (.iload 5, 2) := dgrp_at dg_a_105 19 rfl
theorem dX4_against_99 : decode cX4_against 99 = .ok (.iload 7, 2) := dgrp_at dg_a_105 20 rfl
theorem dX4_against_101 : decode cX4_against 101 = .ok (.ifCond .eq 12, 3) := dgrp_at dg_a_105 21 rfl
theorem dX4_against_104 : decode cX4_against 104 = .ok (.iload 8, 2) := dgrp_at dg_a_105 22 rfl
theorem dX4_against_106 : decode cX4_against 106 = .ok (.ifCond .eq 7, 3) := dgrp_at dg_a_105 23 rfl
theorem dX4_against_109 : decode cX4_against 109 = .ok (.iconst 1, 1) := dgrp_at dg_a_105 24 rfl
theorem dX4_against_110 : decode cX4_against 110 = .ok (.goto 4, 3) := dgrp_at dg_a_105 25 rfl
theorem dX4_against_113 : decode cX4_against 113 = .ok (.iconst 0, 1) := dgrp_at dg_a_105 26 rfl
theorem dX4_against_114 : decode cX4_against 114 = .ok (.ior, 1) := dgrp_at dg_a_105 27 rfl
theorem dX4_against_115 : decode cX4_against 115 = .ok (.istore 5, 2) := dgrp_at dg_a_105 28 rfl
theorem dX4_against_117 : decode cX4_against 117 = .ok (.iinc 6 1, 3) := dgrp_at dg_a_105 29 rfl
theorem dX4_against_120 : decode cX4_against 120 = .ok (.goto (-75), 3) := dgrp_at dg_a_105 30 rfl
theorem dX4_against_123 : decode cX4_against 123 = .ok (.iload_n 3, 1) := dgrp_at dg_a_105 31 rfl
def dl_a_106 : List (Nat × Instr × Nat) := [(124, .ifCond .eq 17, 3), (127, .iload 4, 2), (129, .ifCond .eq 12, 3), (132, .iload 5, 2), (134, .ifCond .ne 7, 3), (137, .iconst 1, 1), (138, .goto 4, 3), (141, .iconst 0, 1), (142, .invokestatic 84, 3), (145, .ireturn, 1)]
theorem dg_a_106 : dgrp cX4_against dl_a_106 = true := by decide +kernel
theorem dX4_against_124 : decode cX4_against 124 = .ok (.ifCond .eq 17, 3) := dgrp_at dg_a_106 0 rfl
theorem dX4_against_127 : decode cX4_against 127 = .ok (.iload 4, 2) := dgrp_at dg_a_106 1 rfl
theorem dX4_against_129 : decode cX4_against 129 = .ok (.ifCond .eq 12, 3) := dgrp_at dg_a_106 2 rfl
theorem dX4_against_132 : decode cX4_against 132 = .ok (.iload 5, 2) := dgrp_at dg_a_106 3 rfl
theorem dX4_against_134 : decode cX4_against 134 = .ok (.ifCond .ne 7, 3) := dgrp_at dg_a_106 4 rfl
theorem dX4_against_137 : decode cX4_against 137 = .ok (.iconst 1, 1) := dgrp_at dg_a_106 5 rfl
theorem dX4_against_138 : decode cX4_against 138 = .ok (.goto 4, 3) := dgrp_at dg_a_106 6 rfl
theorem dX4_against_141 : decode cX4_against 141 = .ok (.iconst 0, 1) := dgrp_at dg_a_106 7 rfl
theorem dX4_against_142 : decode cX4_against 142 = .ok (.invokestatic 84, 3) := dgrp_at dg_a_106 8 rfl
theorem dX4_against_145 : decode cX4_against 145 = .ok (.ireturn, 1) := dgrp_at dg_a_106 9 rfl
def dl_a_107 : List (Nat × Instr × Nat) := [(0, .aload_n 0, 1), (1, .getfield 12, 3), (4, .iload_n 1, 1), (5, .invokevirtual 65, 3), (8, .ifCond .ne 10, 3), (11, .aload_n 0, 1), (12, .ldc 51, 2), (14, .invokevirtual 52, 3), (17, .ireturn, 1), (18, .iconst 1, 1), (19, .iload_n 1, 1), (20, .ishl, 1), (21, .istore_n 2, 1), (22, .iconst 0, 1), (23, .istore_n 3, 1), (24, .iconst 0, 1), (25, .istore 4, 2), (27, .iload 4, 2), (29, .aload_n 0, 1), (30, .getfield 12, 3), (33, .invokevirtual 153, 3), (36, .if_icmp .ge 37, 3), (39, .iload_n 3, 1), (40, .aload_n 0, 1), (41, .getfield 12, 3), (44, .iload 4, 2), (46, .iload_n 2, 1), (47, .ior, 1), (48, .invokevirtual 77, 3), (51, .aload_n 0, 1), (52, .getfield 12, 3), (55, .iload 4, 2)]
theorem dg_a_107 : dgrp cX4_minds dl_a_107 = true := by decide +kernel
theorem dX4_minds_0 : decode cX4_minds 0 = .ok (.aload_n 0, 1) := dgrp_at dg_a_107 0 rfl
theorem dX4_minds_1 : decode cX4_minds 1 = .ok (.getfield 12, 3) := dgrp_at dg_a_107 1 rfl
theorem dX4_minds_4 : decode cX4_minds 4 = .ok (.iload_n 1, 1) := dgrp_at dg_a_107 2 rfl
theorem dX4_minds_5 : decode cX4_minds 5 = .ok (.invokevirtual 65, 3) := dgrp_at dg_a_107 3 rfl
theorem dX4_minds_8 : decode cX4_minds 8 = .ok (.ifCond .ne 10, 3) := dgrp_at dg_a_107 4 rfl
theorem dX4_minds_11 : decode cX4_minds 11 = .ok (.aload_n 0, 1) := dgrp_at dg_a_107 5 rfl
theorem dX4_minds_12 : decode cX4_minds 12 = .ok (.ldc 51, 2) := dgrp_at dg_a_107 6 rfl
theorem dX4_minds_14 : decode cX4_minds 14 = .ok (.invokevirtual 52, 3) := dgrp_at dg_a_107 7 rfl
theorem dX4_minds_17 : decode cX4_minds 17 = .ok (.ireturn, 1) := dgrp_at dg_a_107 8 rfl
theorem dX4_minds_18 : decode cX4_minds 18 = .ok (.iconst 1, 1) := dgrp_at dg_a_107 9 rfl
theorem dX4_minds_19 : decode cX4_minds 19 = .ok (.iload_n 1, 1) := dgrp_at dg_a_107 10 rfl
theorem dX4_minds_20 : decode cX4_minds 20 = .ok (.ishl, 1) := dgrp_at dg_a_107 11 rfl
theorem dX4_minds_21 : decode cX4_minds 21 = .ok (.istore_n 2, 1) := dgrp_at dg_a_107 12 rfl
theorem dX4_minds_22 : decode cX4_minds 22 = .ok (.iconst 0, 1) := dgrp_at dg_a_107 13 rfl
theorem dX4_minds_23 : decode cX4_minds 23 = .ok (.istore_n 3, 1) := dgrp_at dg_a_107 14 rfl
theorem dX4_minds_24 : decode cX4_minds 24 = .ok (.iconst 0, 1) := dgrp_at dg_a_107 15 rfl
theorem dX4_minds_25 : decode cX4_minds 25 = .ok (.istore 4, 2) := dgrp_at dg_a_107 16 rfl
theorem dX4_minds_27 : decode cX4_minds 27 = .ok (.iload 4, 2) := dgrp_at dg_a_107 17 rfl
theorem dX4_minds_29 : decode cX4_minds 29 = .ok (.aload_n 0, 1) := dgrp_at dg_a_107 18 rfl
theorem dX4_minds_30 : decode cX4_minds 30 = .ok (.getfield 12, 3) := dgrp_at dg_a_107 19 rfl
theorem dX4_minds_33 : decode cX4_minds 33 = .ok (.invokevirtual 153, 3) := dgrp_at dg_a_107 20 rfl
theorem dX4_minds_36 : decode cX4_minds 36 = .ok (.if_icmp .ge 37, 3) := dgrp_at dg_a_107 21 rfl
theorem dX4_minds_39 : decode cX4_minds 39 = .ok (.iload_n 3, 1) := dgrp_at dg_a_107 22 rfl
theorem dX4_minds_40 : decode cX4_minds 40 = .ok (.aload_n 0, 1) := dgrp_at dg_a_107 23 rfl
theorem dX4_minds_41 : decode cX4_minds 41 = .ok (.getfield 12, 3) := dgrp_at dg_a_107 24 rfl
theorem dX4_minds_44 : decode cX4_minds 44 = .ok (.iload 4, 2) := dgrp_at dg_a_107 25 rfl
theorem dX4_minds_46 : decode cX4_minds 46 = .ok (.iload_n 2, 1) := dgrp_at dg_a_107 26 rfl
theorem dX4_minds_47 : decode cX4_minds 47 = .ok (.ior, 1) := dgrp_at dg_a_107 27 rfl
theorem dX4_minds_48 : decode cX4_minds 48 = .ok (.invokevirtual 77, 3) := dgrp_at dg_a_107 28 rfl
theorem dX4_minds_51 : decode cX4_minds 51 = .ok (.aload_n 0, 1) := dgrp_at dg_a_107 29 rfl
theorem dX4_minds_52 : decode cX4_minds 52 = .ok (.getfield 12, 3) := dgrp_at dg_a_107 30 rfl
theorem dX4_minds_55 : decode cX4_minds 55 = .ok (.iload 4, 2) := dgrp_at dg_a_107 31 rfl
def dl_a_108 : List (Nat × Instr × Nat) := [(57, .iload_n 2, 1), (58, .iconst (-1), 1), (59, .ixor, 1), (60, .iand, 1), (61, .invokevirtual 77, 3), (64, .ixor, 1), (65, .ior, 1), (66, .istore_n 3, 1), (67, .iinc 4 1, 3), (70, .goto (-43), 3), (73, .iload_n 3, 1), (74, .iload_n 2, 1), (75, .iconst (-1), 1), (76, .ixor, 1), (77, .iand, 1), (78, .ireturn, 1)]
theorem dg_a_108 : dgrp cX4_minds dl_a_108 = true := by decide +kernel
theorem dX4_minds_57 : decode cX4_minds 57 = .ok (.iload_n 2, 1) := dgrp_at dg_a_108 0 rfl
theorem dX4_minds_58 : decode cX4_minds 58 = .ok (.iconst (-1), 1) := dgrp_at dg_a_108 1 rfl
theorem dX4_minds_59 : decode cX4_minds 59 = .ok (.ixor, 1) := dgrp_at dg_a_108 2 rfl
theorem dX4_minds_60 : decode cX4_minds 60 = .ok (.iand, 1) := dgrp_at dg_a_108 3 rfl
theorem dX4_minds_61 : decode cX4_minds 61 = .ok (.invokevirtual 77, 3) := dgrp_at dg_a_108 4 rfl
theorem dX4_minds_64 : decode cX4_minds 64 = .ok (.ixor, 1) := dgrp_at dg_a_108 5 rfl
theorem dX4_minds_65 : decode cX4_minds 65 = .ok (.ior, 1) := dgrp_at dg_a_108 6 rfl
theorem dX4_minds_66 : decode cX4_minds 66 = .ok (.istore_n 3, 1) := dgrp_at dg_a_108 7 rfl
theorem dX4_minds_67 : decode cX4_minds 67 = .ok (.iinc 4 1, 3) := dgrp_at dg_a_108 8 rfl
theorem dX4_minds_70 : decode cX4_minds 70 = .ok (.goto (-43), 3) := dgrp_at dg_a_108 9 rfl
theorem dX4_minds_73 : decode cX4_minds 73 = .ok (.iload_n 3, 1) := dgrp_at dg_a_108 10 rfl
theorem dX4_minds_74 : decode cX4_minds 74 = .ok (.iload_n 2, 1) := dgrp_at dg_a_108 11 rfl
theorem dX4_minds_75 : decode cX4_minds 75 = .ok (.iconst (-1), 1) := dgrp_at dg_a_108 12 rfl
theorem dX4_minds_76 : decode cX4_minds 76 = .ok (.ixor, 1) := dgrp_at dg_a_108 13 rfl
theorem dX4_minds_77 : decode cX4_minds 77 = .ok (.iand, 1) := dgrp_at dg_a_108 14 rfl
theorem dX4_minds_78 : decode cX4_minds 78 = .ok (.ireturn, 1) := dgrp_at dg_a_108 15 rfl
def dl_a_109 : List (Nat × Instr × Nat) := [(0, .aload_n 0, 1), (1, .getfield 12, 3), (4, .iload_n 1, 1), (5, .invokevirtual 65, 3), (8, .ifCond .ne 10, 3), (11, .aload_n 0, 1), (12, .ldc 51, 2), (14, .invokevirtual 52, 3), (17, .ireturn, 1), (18, .iconst 0, 1), (19, .istore_n 2, 1), (20, .iconst (-1), 1), (21, .istore_n 3, 1), (22, .iconst 0, 1), (23, .istore 4, 2), (25, .iload 4, 2), (27, .bipush 6, 2), (29, .if_icmp .ge 33, 3), (32, .aload_n 0, 1), (33, .getfield 12, 3), (36, .iload_n 1, 1), (37, .iload 4, 2), (39, .invokevirtual 182, 3), (42, .istore 5, 2), (44, .iload 5, 2), (46, .iload_n 3, 1), (47, .if_icmp .le 9, 3), (50, .iload 5, 2), (52, .istore_n 3, 1), (53, .iload 4, 2), (55, .istore_n 2, 1), (56, .iinc 4 1, 3)]
theorem dg_a_109 : dgrp cX4_kind dl_a_109 = true := by decide +kernel
theorem dX4_kind_0 : decode cX4_kind 0 = .ok (.aload_n 0, 1) := dgrp_at dg_a_109 0 rfl
theorem dX4_kind_1 : decode cX4_kind 1 = .ok (.getfield 12, 3) := dgrp_at dg_a_109 1 rfl
theorem dX4_kind_4 : decode cX4_kind 4 = .ok (.iload_n 1, 1) := dgrp_at dg_a_109 2 rfl
theorem dX4_kind_5 : decode cX4_kind 5 = .ok (.invokevirtual 65, 3) := dgrp_at dg_a_109 3 rfl
theorem dX4_kind_8 : decode cX4_kind 8 = .ok (.ifCond .ne 10, 3) := dgrp_at dg_a_109 4 rfl
theorem dX4_kind_11 : decode cX4_kind 11 = .ok (.aload_n 0, 1) := dgrp_at dg_a_109 5 rfl
theorem dX4_kind_12 : decode cX4_kind 12 = .ok (.ldc 51, 2) := dgrp_at dg_a_109 6 rfl
theorem dX4_kind_14 : decode cX4_kind 14 = .ok (.invokevirtual 52, 3) := dgrp_at dg_a_109 7 rfl
theorem dX4_kind_17 : decode cX4_kind 17 = .ok (.ireturn, 1) := dgrp_at dg_a_109 8 rfl
theorem dX4_kind_18 : decode cX4_kind 18 = .ok (.iconst 0, 1) := dgrp_at dg_a_109 9 rfl
theorem dX4_kind_19 : decode cX4_kind 19 = .ok (.istore_n 2, 1) := dgrp_at dg_a_109 10 rfl
theorem dX4_kind_20 : decode cX4_kind 20 = .ok (.iconst (-1), 1) := dgrp_at dg_a_109 11 rfl
theorem dX4_kind_21 : decode cX4_kind 21 = .ok (.istore_n 3, 1) := dgrp_at dg_a_109 12 rfl
theorem dX4_kind_22 : decode cX4_kind 22 = .ok (.iconst 0, 1) := dgrp_at dg_a_109 13 rfl
theorem dX4_kind_23 : decode cX4_kind 23 = .ok (.istore 4, 2) := dgrp_at dg_a_109 14 rfl
theorem dX4_kind_25 : decode cX4_kind 25 = .ok (.iload 4, 2) := dgrp_at dg_a_109 15 rfl
theorem dX4_kind_27 : decode cX4_kind 27 = .ok (.bipush 6, 2) := dgrp_at dg_a_109 16 rfl
theorem dX4_kind_29 : decode cX4_kind 29 = .ok (.if_icmp .ge 33, 3) := dgrp_at dg_a_109 17 rfl
theorem dX4_kind_32 : decode cX4_kind 32 = .ok (.aload_n 0, 1) := dgrp_at dg_a_109 18 rfl
theorem dX4_kind_33 : decode cX4_kind 33 = .ok (.getfield 12, 3) := dgrp_at dg_a_109 19 rfl
theorem dX4_kind_36 : decode cX4_kind 36 = .ok (.iload_n 1, 1) := dgrp_at dg_a_109 20 rfl
theorem dX4_kind_37 : decode cX4_kind 37 = .ok (.iload 4, 2) := dgrp_at dg_a_109 21 rfl
theorem dX4_kind_39 : decode cX4_kind 39 = .ok (.invokevirtual 182, 3) := dgrp_at dg_a_109 22 rfl
theorem dX4_kind_42 : decode cX4_kind 42 = .ok (.istore 5, 2) := dgrp_at dg_a_109 23 rfl
theorem dX4_kind_44 : decode cX4_kind 44 = .ok (.iload 5, 2) := dgrp_at dg_a_109 24 rfl
theorem dX4_kind_46 : decode cX4_kind 46 = .ok (.iload_n 3, 1) := dgrp_at dg_a_109 25 rfl
theorem dX4_kind_47 : decode cX4_kind 47 = .ok (.if_icmp .le 9, 3) := dgrp_at dg_a_109 26 rfl
theorem dX4_kind_50 : decode cX4_kind 50 = .ok (.iload 5, 2) := dgrp_at dg_a_109 27 rfl
theorem dX4_kind_52 : decode cX4_kind 52 = .ok (.istore_n 3, 1) := dgrp_at dg_a_109 28 rfl
theorem dX4_kind_53 : decode cX4_kind 53 = .ok (.iload 4, 2) := dgrp_at dg_a_109 29 rfl
theorem dX4_kind_55 : decode cX4_kind 55 = .ok (.istore_n 2, 1) := dgrp_at dg_a_109 30 rfl
theorem dX4_kind_56 : decode cX4_kind 56 = .ok (.iinc 4 1, 3) := dgrp_at dg_a_109 31 rfl
def dl_a_110 : List (Nat × Instr × Nat) := [(59, .goto (-34), 3), (62, .iload_n 2, 1), (63, .ireturn, 1)]
theorem dg_a_110 : dgrp cX4_kind dl_a_110 = true := by decide +kernel
theorem dX4_kind_59 : decode cX4_kind 59 = .ok (.goto (-34), 3) := dgrp_at dg_a_110 0 rfl
theorem dX4_kind_62 : decode cX4_kind 62 = .ok (.iload_n 2, 1) := dgrp_at dg_a_110 1 rfl
theorem dX4_kind_63 : decode cX4_kind 63 = .ok (.ireturn, 1) := dgrp_at dg_a_110 2 rfl
def dl_a_111 : List (Nat × Instr × Nat) := [(0, .iload_n 1, 1), (1, .invokestatic 185, 3), (4, .ifCond .eq 25, 3), (7, .iload_n 2, 1), (8, .ifCond .eq 28, 3), (11, .iload_n 2, 1), (12, .bipush 8, 2), (14, .if_icmp .eq 22, 3), (17, .iload_n 2, 1), (18, .bipush 16, 2), (20, .if_icmp .eq 16, 3), (23, .iload_n 2, 1), (24, .bipush 64, 2), (26, .if_icmp .eq 10, 3), (29, .aload_n 0, 1), (30, .ldc 51, 2), (32, .invokevirtual 52, 3), (35, .ireturn, 1), (36, .iload_n 3, 1), (37, .ifCond .ge 10, 3), (40, .aload_n 0, 1), (41, .ldc 188, 2), (43, .invokevirtual 52, 3), (46, .ireturn, 1), (47, .iload_n 3, 1), (48, .bipush 40, 2), (50, .if_icmp .le 12, 3), (53, .aload_n 0, 1), (54, .ldc 51, 2), (56, .invokevirtual 52, 3), (59, .goto 14, 3), (62, .aload_n 0, 1)]
theorem dg_a_111 : dgrp cX4_sheet dl_a_111 = true := by decide +kernel
theorem dX4_sheet_0 : decode cX4_sheet 0 = .ok (.iload_n 1, 1) := dgrp_at dg_a_111 0 rfl
theorem dX4_sheet_1 : decode cX4_sheet 1 = .ok (.invokestatic 185, 3) := dgrp_at dg_a_111 1 rfl
theorem dX4_sheet_4 : decode cX4_sheet 4 = .ok (.ifCond .eq 25, 3) := dgrp_at dg_a_111 2 rfl
theorem dX4_sheet_7 : decode cX4_sheet 7 = .ok (.iload_n 2, 1) := dgrp_at dg_a_111 3 rfl
theorem dX4_sheet_8 : decode cX4_sheet 8 = .ok (.ifCond .eq 28, 3) := dgrp_at dg_a_111 4 rfl
theorem dX4_sheet_11 : decode cX4_sheet 11 = .ok (.iload_n 2, 1) := dgrp_at dg_a_111 5 rfl
theorem dX4_sheet_12 : decode cX4_sheet 12 = .ok (.bipush 8, 2) := dgrp_at dg_a_111 6 rfl
theorem dX4_sheet_14 : decode cX4_sheet 14 = .ok (.if_icmp .eq 22, 3) := dgrp_at dg_a_111 7 rfl
theorem dX4_sheet_17 : decode cX4_sheet 17 = .ok (.iload_n 2, 1) := dgrp_at dg_a_111 8 rfl
theorem dX4_sheet_18 : decode cX4_sheet 18 = .ok (.bipush 16, 2) := dgrp_at dg_a_111 9 rfl
theorem dX4_sheet_20 : decode cX4_sheet 20 = .ok (.if_icmp .eq 16, 3) := dgrp_at dg_a_111 10 rfl
theorem dX4_sheet_23 : decode cX4_sheet 23 = .ok (.iload_n 2, 1) := dgrp_at dg_a_111 11 rfl
theorem dX4_sheet_24 : decode cX4_sheet 24 = .ok (.bipush 64, 2) := dgrp_at dg_a_111 12 rfl
theorem dX4_sheet_26 : decode cX4_sheet 26 = .ok (.if_icmp .eq 10, 3) := dgrp_at dg_a_111 13 rfl
theorem dX4_sheet_29 : decode cX4_sheet 29 = .ok (.aload_n 0, 1) := dgrp_at dg_a_111 14 rfl
theorem dX4_sheet_30 : decode cX4_sheet 30 = .ok (.ldc 51, 2) := dgrp_at dg_a_111 15 rfl
theorem dX4_sheet_32 : decode cX4_sheet 32 = .ok (.invokevirtual 52, 3) := dgrp_at dg_a_111 16 rfl
theorem dX4_sheet_35 : decode cX4_sheet 35 = .ok (.ireturn, 1) := dgrp_at dg_a_111 17 rfl
theorem dX4_sheet_36 : decode cX4_sheet 36 = .ok (.iload_n 3, 1) := dgrp_at dg_a_111 18 rfl
theorem dX4_sheet_37 : decode cX4_sheet 37 = .ok (.ifCond .ge 10, 3) := dgrp_at dg_a_111 19 rfl
theorem dX4_sheet_40 : decode cX4_sheet 40 = .ok (.aload_n 0, 1) := dgrp_at dg_a_111 20 rfl
theorem dX4_sheet_41 : decode cX4_sheet 41 = .ok (.ldc 188, 2) := dgrp_at dg_a_111 21 rfl
theorem dX4_sheet_43 : decode cX4_sheet 43 = .ok (.invokevirtual 52, 3) := dgrp_at dg_a_111 22 rfl
theorem dX4_sheet_46 : decode cX4_sheet 46 = .ok (.ireturn, 1) := dgrp_at dg_a_111 23 rfl
theorem dX4_sheet_47 : decode cX4_sheet 47 = .ok (.iload_n 3, 1) := dgrp_at dg_a_111 24 rfl
theorem dX4_sheet_48 : decode cX4_sheet 48 = .ok (.bipush 40, 2) := dgrp_at dg_a_111 25 rfl
theorem dX4_sheet_50 : decode cX4_sheet 50 = .ok (.if_icmp .le 12, 3) := dgrp_at dg_a_111 26 rfl
theorem dX4_sheet_53 : decode cX4_sheet 53 = .ok (.aload_n 0, 1) := dgrp_at dg_a_111 27 rfl
theorem dX4_sheet_54 : decode cX4_sheet 54 = .ok (.ldc 51, 2) := dgrp_at dg_a_111 28 rfl
theorem dX4_sheet_56 : decode cX4_sheet 56 = .ok (.invokevirtual 52, 3) := dgrp_at dg_a_111 29 rfl
theorem dX4_sheet_59 : decode cX4_sheet 59 = .ok (.goto 14, 3) := dgrp_at dg_a_111 30 rfl
theorem dX4_sheet_62 : decode cX4_sheet 62 = .ok (.aload_n 0, 1) := dgrp_at dg_a_111 31 rfl
def dl_a_112 : List (Nat × Instr × Nat) := [(63, .getfield 35, 3), (66, .iload_n 1, 1), (67, .aaload, 1), (68, .iload_n 2, 1), (69, .iload_n 3, 1), (70, .invokevirtual 189, 3), (73, .ireturn, 1)]
theorem dg_a_112 : dgrp cX4_sheet dl_a_112 = true := by decide +kernel
theorem dX4_sheet_63 : decode cX4_sheet 63 = .ok (.getfield 35, 3) := dgrp_at dg_a_112 0 rfl
theorem dX4_sheet_66 : decode cX4_sheet 66 = .ok (.iload_n 1, 1) := dgrp_at dg_a_112 1 rfl
theorem dX4_sheet_67 : decode cX4_sheet 67 = .ok (.aaload, 1) := dgrp_at dg_a_112 2 rfl
theorem dX4_sheet_68 : decode cX4_sheet 68 = .ok (.iload_n 2, 1) := dgrp_at dg_a_112 3 rfl
theorem dX4_sheet_69 : decode cX4_sheet 69 = .ok (.iload_n 3, 1) := dgrp_at dg_a_112 4 rfl
theorem dX4_sheet_70 : decode cX4_sheet 70 = .ok (.invokevirtual 189, 3) := dgrp_at dg_a_112 5 rfl
theorem dX4_sheet_73 : decode cX4_sheet 73 = .ok (.ireturn, 1) := dgrp_at dg_a_112 6 rfl
def dl_a_113 : List (Nat × Instr × Nat) := [(0, .aload_n 0, 1), (1, .iload_n 1, 1), (2, .invokevirtual 192, 3), (5, .istore 5, 2), (7, .iload 5, 2), (9, .ifCond .eq 11, 3), (12, .aload_n 0, 1), (13, .iload 5, 2), (15, .invokevirtual 52, 3), (18, .i2l, 1), (19, .lreturn, 1), (20, .iload_n 2, 1), (21, .ifCond .lt 16, 3), (24, .iload_n 2, 1), (25, .aload_n 0, 1), (26, .getfield 35, 3), (29, .iload_n 1, 1), (30, .aaload, 1), (31, .getfield 195, 3), (34, .if_icmp .lt 11, 3), (37, .aload_n 0, 1), (38, .ldc 51, 2), (40, .invokevirtual 52, 3), (43, .i2l, 1), (44, .lreturn, 1), (45, .aload_n 0, 1), (46, .getfield 35, 3), (49, .iload_n 1, 1), (50, .aaload, 1), (51, .iload_n 2, 1), (52, .lload_n 3, 1), (53, .invokevirtual 196, 3)]
theorem dg_a_113 : dgrp cX4_write dl_a_113 = true := by decide +kernel
theorem dX4_write_0 : decode cX4_write 0 = .ok (.aload_n 0, 1) := dgrp_at dg_a_113 0 rfl
theorem dX4_write_1 : decode cX4_write 1 = .ok (.iload_n 1, 1) := dgrp_at dg_a_113 1 rfl
theorem dX4_write_2 : decode cX4_write 2 = .ok (.invokevirtual 192, 3) := dgrp_at dg_a_113 2 rfl
theorem dX4_write_5 : decode cX4_write 5 = .ok (.istore 5, 2) := dgrp_at dg_a_113 3 rfl
theorem dX4_write_7 : decode cX4_write 7 = .ok (.iload 5, 2) := dgrp_at dg_a_113 4 rfl
theorem dX4_write_9 : decode cX4_write 9 = .ok (.ifCond .eq 11, 3) := dgrp_at dg_a_113 5 rfl
theorem dX4_write_12 : decode cX4_write 12 = .ok (.aload_n 0, 1) := dgrp_at dg_a_113 6 rfl
theorem dX4_write_13 : decode cX4_write 13 = .ok (.iload 5, 2) := dgrp_at dg_a_113 7 rfl
theorem dX4_write_15 : decode cX4_write 15 = .ok (.invokevirtual 52, 3) := dgrp_at dg_a_113 8 rfl
theorem dX4_write_18 : decode cX4_write 18 = .ok (.i2l, 1) := dgrp_at dg_a_113 9 rfl
theorem dX4_write_19 : decode cX4_write 19 = .ok (.lreturn, 1) := dgrp_at dg_a_113 10 rfl
theorem dX4_write_20 : decode cX4_write 20 = .ok (.iload_n 2, 1) := dgrp_at dg_a_113 11 rfl
theorem dX4_write_21 : decode cX4_write 21 = .ok (.ifCond .lt 16, 3) := dgrp_at dg_a_113 12 rfl
theorem dX4_write_24 : decode cX4_write 24 = .ok (.iload_n 2, 1) := dgrp_at dg_a_113 13 rfl
theorem dX4_write_25 : decode cX4_write 25 = .ok (.aload_n 0, 1) := dgrp_at dg_a_113 14 rfl
theorem dX4_write_26 : decode cX4_write 26 = .ok (.getfield 35, 3) := dgrp_at dg_a_113 15 rfl
theorem dX4_write_29 : decode cX4_write 29 = .ok (.iload_n 1, 1) := dgrp_at dg_a_113 16 rfl
theorem dX4_write_30 : decode cX4_write 30 = .ok (.aaload, 1) := dgrp_at dg_a_113 17 rfl
theorem dX4_write_31 : decode cX4_write 31 = .ok (.getfield 195, 3) := dgrp_at dg_a_113 18 rfl
theorem dX4_write_34 : decode cX4_write 34 = .ok (.if_icmp .lt 11, 3) := dgrp_at dg_a_113 19 rfl
theorem dX4_write_37 : decode cX4_write 37 = .ok (.aload_n 0, 1) := dgrp_at dg_a_113 20 rfl
theorem dX4_write_38 : decode cX4_write 38 = .ok (.ldc 51, 2) := dgrp_at dg_a_113 21 rfl
theorem dX4_write_40 : decode cX4_write 40 = .ok (.invokevirtual 52, 3) := dgrp_at dg_a_113 22 rfl
theorem dX4_write_43 : decode cX4_write 43 = .ok (.i2l, 1) := dgrp_at dg_a_113 23 rfl
theorem dX4_write_44 : decode cX4_write 44 = .ok (.lreturn, 1) := dgrp_at dg_a_113 24 rfl
theorem dX4_write_45 : decode cX4_write 45 = .ok (.aload_n 0, 1) := dgrp_at dg_a_113 25 rfl
theorem dX4_write_46 : decode cX4_write 46 = .ok (.getfield 35, 3) := dgrp_at dg_a_113 26 rfl
theorem dX4_write_49 : decode cX4_write 49 = .ok (.iload_n 1, 1) := dgrp_at dg_a_113 27 rfl
theorem dX4_write_50 : decode cX4_write 50 = .ok (.aaload, 1) := dgrp_at dg_a_113 28 rfl
theorem dX4_write_51 : decode cX4_write 51 = .ok (.iload_n 2, 1) := dgrp_at dg_a_113 29 rfl
theorem dX4_write_52 : decode cX4_write 52 = .ok (.lload_n 3, 1) := dgrp_at dg_a_113 30 rfl
theorem dX4_write_53 : decode cX4_write 53 = .ok (.invokevirtual 196, 3) := dgrp_at dg_a_113 31 rfl
def dl_a_114 : List (Nat × Instr × Nat) := [(56, .lreturn, 1)]
theorem dg_a_114 : dgrp cX4_write dl_a_114 = true := by decide +kernel
theorem dX4_write_56 : decode cX4_write 56 = .ok (.lreturn, 1) := dgrp_at dg_a_114 0 rfl
