theorem dJ6_bitCount_0f7a4_0 : decode cJ6_bitCount_0f7a4 0 = .ok (.iload_n 0, 1) := by decide +kernel
theorem dJ6_bitCount_0f7a4_1 : decode cJ6_bitCount_0f7a4 1 = .ok (.iload_n 0, 1) := by decide +kernel
theorem dJ6_bitCount_0f7a4_2 : decode cJ6_bitCount_0f7a4 2 = .ok (.iconst 1, 1) := by decide +kernel
theorem dJ6_bitCount_0f7a4_3 : decode cJ6_bitCount_0f7a4 3 = .ok (.iushr, 1) := by decide +kernel
theorem dJ6_bitCount_0f7a4_4 : decode cJ6_bitCount_0f7a4 4 = .ok (.ldc_w 265, 3) := by decide +kernel
theorem dJ6_bitCount_0f7a4_7 : decode cJ6_bitCount_0f7a4 7 = .ok (.iand, 1) := by decide +kernel
theorem dJ6_bitCount_0f7a4_8 : decode cJ6_bitCount_0f7a4 8 = .ok (.isub, 1) := by decide +kernel
theorem dJ6_bitCount_0f7a4_9 : decode cJ6_bitCount_0f7a4 9 = .ok (.istore_n 0, 1) := by decide +kernel
theorem dJ6_bitCount_0f7a4_10 : decode cJ6_bitCount_0f7a4 10 = .ok (.iload_n 0, 1) := by decide +kernel
theorem dJ6_bitCount_0f7a4_11 : decode cJ6_bitCount_0f7a4 11 = .ok (.ldc_w 266, 3) := by decide +kernel
theorem dJ6_bitCount_0f7a4_14 : decode cJ6_bitCount_0f7a4 14 = .ok (.iand, 1) := by decide +kernel
theorem dJ6_bitCount_0f7a4_15 : decode cJ6_bitCount_0f7a4 15 = .ok (.iload_n 0, 1) := by decide +kernel
theorem dJ6_bitCount_0f7a4_16 : decode cJ6_bitCount_0f7a4 16 = .ok (.iconst 2, 1) := by decide +kernel
theorem dJ6_bitCount_0f7a4_17 : decode cJ6_bitCount_0f7a4 17 = .ok (.iushr, 1) := by decide +kernel
theorem dJ6_bitCount_0f7a4_18 : decode cJ6_bitCount_0f7a4 18 = .ok (.ldc_w 266, 3) := by decide +kernel
theorem dJ6_bitCount_0f7a4_21 : decode cJ6_bitCount_0f7a4 21 = .ok (.iand, 1) := by decide +kernel
theorem dJ6_bitCount_0f7a4_22 : decode cJ6_bitCount_0f7a4 22 = .ok (.iadd, 1) := by decide +kernel
theorem dJ6_bitCount_0f7a4_23 : decode cJ6_bitCount_0f7a4 23 = .ok (.istore_n 0, 1) := by decide +kernel
theorem dJ6_bitCount_0f7a4_24 : decode cJ6_bitCount_0f7a4 24 = .ok (.iload_n 0, 1) := by decide +kernel
theorem dJ6_bitCount_0f7a4_25 : decode cJ6_bitCount_0f7a4 25 = .ok (.iload_n 0, 1) := by decide +kernel
theorem dJ6_bitCount_0f7a4_26 : decode cJ6_bitCount_0f7a4 26 = .ok (.iconst 4, 1) := by decide +kernel
theorem dJ6_bitCount_0f7a4_27 : decode cJ6_bitCount_0f7a4 27 = .ok (.iushr, 1) := by decide +kernel
theorem dJ6_bitCount_0f7a4_28 : decode cJ6_bitCount_0f7a4 28 = .ok (.iadd, 1) := by decide +kernel
theorem dJ6_bitCount_0f7a4_29 : decode cJ6_bitCount_0f7a4 29 = .ok (.ldc_w 267, 3) := by decide +kernel
theorem dJ6_bitCount_0f7a4_32 : decode cJ6_bitCount_0f7a4 32 = .ok (.iand, 1) := by decide +kernel
theorem dJ6_bitCount_0f7a4_33 : decode cJ6_bitCount_0f7a4 33 = .ok (.istore_n 0, 1) := by decide +kernel
theorem dJ6_bitCount_0f7a4_34 : decode cJ6_bitCount_0f7a4 34 = .ok (.iload_n 0, 1) := by decide +kernel
theorem dJ6_bitCount_0f7a4_35 : decode cJ6_bitCount_0f7a4 35 = .ok (.iload_n 0, 1) := by decide +kernel
theorem dJ6_bitCount_0f7a4_36 : decode cJ6_bitCount_0f7a4 36 = .ok (.bipush 8, 2) := by decide +kernel
theorem dJ6_bitCount_0f7a4_38 : decode cJ6_bitCount_0f7a4 38 = .ok (.iushr, 1) := by decide +kernel
theorem dJ6_bitCount_0f7a4_39 : decode cJ6_bitCount_0f7a4 39 = .ok (.iadd, 1) := by decide +kernel
theorem dJ6_bitCount_0f7a4_40 : decode cJ6_bitCount_0f7a4 40 = .ok (.istore_n 0, 1) := by decide +kernel
theorem dJ6_bitCount_0f7a4_41 : decode cJ6_bitCount_0f7a4 41 = .ok (.iload_n 0, 1) := by decide +kernel
theorem dJ6_bitCount_0f7a4_42 : decode cJ6_bitCount_0f7a4 42 = .ok (.iload_n 0, 1) := by decide +kernel
theorem dJ6_bitCount_0f7a4_43 : decode cJ6_bitCount_0f7a4 43 = .ok (.bipush 16, 2) := by decide +kernel
theorem dJ6_bitCount_0f7a4_45 : decode cJ6_bitCount_0f7a4 45 = .ok (.iushr, 1) := by decide +kernel
theorem dJ6_bitCount_0f7a4_46 : decode cJ6_bitCount_0f7a4 46 = .ok (.iadd, 1) := by decide +kernel
theorem dJ6_bitCount_0f7a4_47 : decode cJ6_bitCount_0f7a4 47 = .ok (.istore_n 0, 1) := by decide +kernel
theorem dJ6_bitCount_0f7a4_48 : decode cJ6_bitCount_0f7a4 48 = .ok (.iload_n 0, 1) := by decide +kernel
theorem dJ6_bitCount_0f7a4_49 : decode cJ6_bitCount_0f7a4 49 = .ok (.bipush 63, 2) := by decide +kernel
theorem dJ6_bitCount_0f7a4_51 : decode cJ6_bitCount_0f7a4 51 = .ok (.iand, 1) := by decide +kernel
theorem dJ6_bitCount_0f7a4_52 : decode cJ6_bitCount_0f7a4 52 = .ok (.ireturn, 1) := by decide +kernel
theorem dJ7_fill_d0a16_0 : decode cJ7_fill_d0a16 0 = .ok (.iconst 0, 1) := by decide +kernel
theorem dJ7_fill_d0a16_1 : decode cJ7_fill_d0a16 1 = .ok (.istore_n 3, 1) := by decide +kernel
theorem dJ7_fill_d0a16_2 : decode cJ7_fill_d0a16 2 = .ok (.aload_n 0, 1) := by decide +kernel
theorem dJ7_fill_d0a16_3 : decode cJ7_fill_d0a16 3 = .ok (.arraylength, 1) := by decide +kernel
theorem dJ7_fill_d0a16_4 : decode cJ7_fill_d0a16 4 = .ok (.istore 4, 2) := by decide +kernel
theorem dJ7_fill_d0a16_6 : decode cJ7_fill_d0a16 6 = .ok (.iload_n 3, 1) := by decide +kernel
theorem dJ7_fill_d0a16_7 : decode cJ7_fill_d0a16 7 = .ok (.iload 4, 2) := by decide +kernel
theorem dJ7_fill_d0a16_9 : decode cJ7_fill_d0a16 9 = .ok (.if_icmp .ge 13, 3) := by decide +kernel
theorem dJ7_fill_d0a16_12 : decode cJ7_fill_d0a16 12 = .ok (.aload_n 0, 1) := by decide +kernel
theorem dJ7_fill_d0a16_13 : decode cJ7_fill_d0a16 13 = .ok (.iload_n 3, 1) := by decide +kernel
theorem dJ7_fill_d0a16_14 : decode cJ7_fill_d0a16 14 = .ok (.lload_n 1, 1) := by decide +kernel
theorem dJ7_fill_d0a16_15 : decode cJ7_fill_d0a16 15 = .ok (.lastore, 1) := by decide +kernel
theorem dJ7_fill_d0a16_16 : decode cJ7_fill_d0a16 16 = .ok (.iinc 3 1, 3) := by decide +kernel
theorem dJ7_fill_d0a16_19 : decode cJ7_fill_d0a16 19 = .ok (.goto (-13), 3) := by decide +kernel
theorem dJ7_fill_d0a16_22 : decode cJ7_fill_d0a16 22 = .ok (.return_, 1) := by decide +kernel
theorem dJ7_fill_53178_0 : decode cJ7_fill_53178 0 = .ok (.iconst 0, 1) := by decide +kernel
theorem dJ7_fill_53178_1 : decode cJ7_fill_53178 1 = .ok (.istore_n 2, 1) := by decide +kernel
theorem dJ7_fill_53178_2 : decode cJ7_fill_53178 2 = .ok (.aload_n 0, 1) := by decide +kernel
theorem dJ7_fill_53178_3 : decode cJ7_fill_53178 3 = .ok (.arraylength, 1) := by decide +kernel
theorem dJ7_fill_53178_4 : decode cJ7_fill_53178 4 = .ok (.istore_n 3, 1) := by decide +kernel
theorem dJ7_fill_53178_5 : decode cJ7_fill_53178 5 = .ok (.iload_n 2, 1) := by decide +kernel
theorem dJ7_fill_53178_6 : decode cJ7_fill_53178 6 = .ok (.iload_n 3, 1) := by decide +kernel
theorem dJ7_fill_53178_7 : decode cJ7_fill_53178 7 = .ok (.if_icmp .ge 13, 3) := by decide +kernel
theorem dJ7_fill_53178_10 : decode cJ7_fill_53178 10 = .ok (.aload_n 0, 1) := by decide +kernel
theorem dJ7_fill_53178_11 : decode cJ7_fill_53178 11 = .ok (.iload_n 2, 1) := by decide +kernel
theorem dJ7_fill_53178_12 : decode cJ7_fill_53178 12 = .ok (.iload_n 1, 1) := by decide +kernel
theorem dJ7_fill_53178_13 : decode cJ7_fill_53178 13 = .ok (.iastore, 1) := by decide +kernel
theorem dJ7_fill_53178_14 : decode cJ7_fill_53178 14 = .ok (.iinc 2 1, 3) := by decide +kernel
theorem dJ7_fill_53178_17 : decode cJ7_fill_53178 17 = .ok (.goto (-12), 3) := by decide +kernel
theorem dJ7_fill_53178_20 : decode cJ7_fill_53178 20 = .ok (.return_, 1) := by decide +kernel
theorem dJ9_max_7cf53_0 : decode cJ9_max_7cf53 0 = .ok (.iload_n 0, 1) := by decide +kernel
theorem dJ9_max_7cf53_1 : decode cJ9_max_7cf53 1 = .ok (.iload_n 1, 1) := by decide +kernel
theorem dJ9_max_7cf53_2 : decode cJ9_max_7cf53 2 = .ok (.if_icmp .lt 7, 3) := by decide +kernel
theorem dJ9_max_7cf53_5 : decode cJ9_max_7cf53 5 = .ok (.iload_n 0, 1) := by decide +kernel
theorem dJ9_max_7cf53_6 : decode cJ9_max_7cf53 6 = .ok (.goto 4, 3) := by decide +kernel
theorem dJ9_max_7cf53_9 : decode cJ9_max_7cf53 9 = .ok (.iload_n 1, 1) := by decide +kernel
theorem dJ9_max_7cf53_10 : decode cJ9_max_7cf53 10 = .ok (.ireturn, 1) := by decide +kernel
theorem dJ9_min_7cf53_0 : decode cJ9_min_7cf53 0 = .ok (.iload_n 0, 1) := by decide +kernel
theorem dJ9_min_7cf53_1 : decode cJ9_min_7cf53 1 = .ok (.iload_n 1, 1) := by decide +kernel
theorem dJ9_min_7cf53_2 : decode cJ9_min_7cf53 2 = .ok (.if_icmp .gt 7, 3) := by decide +kernel
theorem dJ9_min_7cf53_5 : decode cJ9_min_7cf53 5 = .ok (.iload_n 0, 1) := by decide +kernel
theorem dJ9_min_7cf53_6 : decode cJ9_min_7cf53 6 = .ok (.goto 4, 3) := by decide +kernel
theorem dJ9_min_7cf53_9 : decode cJ9_min_7cf53 9 = .ok (.iload_n 1, 1) := by decide +kernel
theorem dJ9_min_7cf53_10 : decode cJ9_min_7cf53 10 = .ok (.ireturn, 1) := by decide +kernel
theorem dX0_init_0 : decode cX0_init 0 = .ok (.aload_n 0, 1) := by decide +kernel
theorem dX0_init_1 : decode cX0_init 1 = .ok (.invokespecial 3, 3) := by decide +kernel
theorem dX0_init_4 : decode cX0_init 4 = .ok (.aload_n 0, 1) := by decide +kernel
theorem dX0_init_5 : decode cX0_init 5 = .ok (.bipush 8, 2) := by decide +kernel
theorem dX0_init_7 : decode cX0_init 7 = .ok (.newarray .int, 2) := by decide +kernel
theorem dX0_init_9 : decode cX0_init 9 = .ok (.putfield 9, 3) := by decide +kernel
theorem dX0_init_12 : decode cX0_init 12 = .ok (.aload_n 0, 1) := by decide +kernel
theorem dX0_init_13 : decode cX0_init 13 = .ok (.bipush 8, 2) := by decide +kernel
theorem dX0_init_15 : decode cX0_init 15 = .ok (.newarray .int, 2) := by decide +kernel
theorem dX0_init_17 : decode cX0_init 17 = .ok (.putfield 15, 3) := by decide +kernel
theorem dX0_init_20 : decode cX0_init 20 = .ok (.aload_n 0, 1) := by decide +kernel
theorem dX0_init_21 : decode cX0_init 21 = .ok (.bipush 32, 2) := by decide +kernel
theorem dX0_init_23 : decode cX0_init 23 = .ok (.newarray .long, 2) := by decide +kernel
theorem dX0_init_25 : decode cX0_init 25 = .ok (.putfield 18, 3) := by decide +kernel
theorem dX0_init_28 : decode cX0_init 28 = .ok (.aload_n 0, 1) := by decide +kernel
theorem dX0_init_29 : decode cX0_init 29 = .ok (.sipush 256, 3) := by decide +kernel
theorem dX0_init_32 : decode cX0_init 32 = .ok (.newarray .int, 2) := by decide +kernel
theorem dX0_init_34 : decode cX0_init 34 = .ok (.putfield 22, 3) := by decide +kernel
theorem dX0_init_37 : decode cX0_init 37 = .ok (.aload_n 0, 1) := by decide +kernel
theorem dX0_init_38 : decode cX0_init 38 = .ok (.getfield 18, 3) := by decide +kernel
theorem dX0_init_41 : decode cX0_init 41 = .ok (.ldc2_w 25, 3) := by decide +kernel
theorem dX0_init_44 : decode cX0_init 44 = .ok (.invokestatic 27, 3) := by decide +kernel
theorem dX0_init_47 : decode cX0_init 47 = .ok (.aload_n 0, 1) := by decide +kernel
theorem dX0_init_48 : decode cX0_init 48 = .ok (.getfield 22, 3) := by decide +kernel
theorem dX0_init_51 : decode cX0_init 51 = .ok (.iconst (-1), 1) := by decide +kernel
theorem dX0_init_52 : decode cX0_init 52 = .ok (.invokestatic 33, 3) := by decide +kernel
theorem dX0_init_55 : decode cX0_init 55 = .ok (.return_, 1) := by decide +kernel
theorem dX0_has_0 : decode cX0_has 0 = .ok (.iload_n 1, 1) := by decide +kernel
theorem dX0_has_1 : decode cX0_has 1 = .ok (.ifCond .lt 15, 3) := by decide +kernel
theorem dX0_has_4 : decode cX0_has 4 = .ok (.iload_n 1, 1) := by decide +kernel
theorem dX0_has_5 : decode cX0_has 5 = .ok (.aload_n 0, 1) := by decide +kernel
theorem dX0_has_6 : decode cX0_has 6 = .ok (.getfield 36, 3) := by decide +kernel
theorem dX0_has_9 : decode cX0_has 9 = .ok (.if_icmp .ge 7, 3) := by decide +kernel
theorem dX0_has_12 : decode cX0_has 12 = .ok (.iconst 1, 1) := by decide +kernel
theorem dX0_has_13 : decode cX0_has 13 = .ok (.goto 4, 3) := by decide +kernel
theorem dX0_has_16 : decode cX0_has 16 = .ok (.iconst 0, 1) := by decide +kernel
theorem dX0_has_17 : decode cX0_has 17 = .ok (.ireturn, 1) := by decide +kernel
theorem dX0_isSet_0 : decode cX0_isSet 0 = .ok (.iload_n 1, 1) := by decide +kernel
theorem dX0_isSet_1 : decode cX0_isSet 1 = .ok (.ifCond .lt 15, 3) := by decide +kernel
theorem dX0_isSet_4 : decode cX0_isSet 4 = .ok (.iload_n 1, 1) := by decide +kernel
theorem dX0_isSet_5 : decode cX0_isSet 5 = .ok (.aload_n 0, 1) := by decide +kernel
theorem dX0_isSet_6 : decode cX0_isSet 6 = .ok (.invokevirtual 40, 3) := by decide +kernel
theorem dX0_isSet_9 : decode cX0_isSet 9 = .ok (.if_icmp .ge 7, 3) := by decide +kernel
theorem dX0_isSet_12 : decode cX0_isSet 12 = .ok (.iconst 1, 1) := by decide +kernel
theorem dX0_isSet_13 : decode cX0_isSet 13 = .ok (.goto 4, 3) := by decide +kernel
theorem dX0_isSet_16 : decode cX0_isSet 16 = .ok (.iconst 0, 1) := by decide +kernel
theorem dX0_isSet_17 : decode cX0_isSet 17 = .ok (.ireturn, 1) := by decide +kernel
theorem dX0_lists_0 : decode cX0_lists 0 = .ok (.iconst 1, 1) := by decide +kernel
theorem dX0_lists_1 : decode cX0_lists 1 = .ok (.aload_n 0, 1) := by decide +kernel
theorem dX0_lists_2 : decode cX0_lists 2 = .ok (.getfield 36, 3) := by decide +kernel
theorem dX0_lists_5 : decode cX0_lists 5 = .ok (.ishl, 1) := by decide +kernel
theorem dX0_lists_6 : decode cX0_lists 6 = .ok (.ireturn, 1) := by decide +kernel
theorem dX0_everyone_0 : decode cX0_everyone 0 = .ok (.aload_n 0, 1) := by decide +kernel
theorem dX0_everyone_1 : decode cX0_everyone 1 = .ok (.invokevirtual 40, 3) := by decide +kernel
theorem dX0_everyone_4 : decode cX0_everyone 4 = .ok (.iconst 1, 1) := by decide +kernel
theorem dX0_everyone_5 : decode cX0_everyone 5 = .ok (.isub, 1) := by decide +kernel
theorem dX0_everyone_6 : decode cX0_everyone 6 = .ok (.ireturn, 1) := by decide +kernel
theorem dX0_welcome_0 : decode cX0_welcome 0 = .ok (.aload_n 0, 1) := by decide +kernel
theorem dX0_welcome_1 : decode cX0_welcome 1 = .ok (.getfield 36, 3) := by decide +kernel
theorem dX0_welcome_4 : decode cX0_welcome 4 = .ok (.istore_n 3, 1) := by decide +kernel
theorem dX0_welcome_5 : decode cX0_welcome 5 = .ok (.aload_n 0, 1) := by decide +kernel
theorem dX0_welcome_6 : decode cX0_welcome 6 = .ok (.getfield 9, 3) := by decide +kernel
theorem dX0_welcome_9 : decode cX0_welcome 9 = .ok (.iload_n 3, 1) := by decide +kernel
theorem dX0_welcome_10 : decode cX0_welcome 10 = .ok (.iload_n 1, 1) := by decide +kernel
theorem dX0_welcome_11 : decode cX0_welcome 11 = .ok (.iastore, 1) := by decide +kernel
theorem dX0_welcome_12 : decode cX0_welcome 12 = .ok (.aload_n 0, 1) := by decide +kernel
theorem dX0_welcome_13 : decode cX0_welcome 13 = .ok (.getfield 15, 3) := by decide +kernel
theorem dX0_welcome_16 : decode cX0_welcome 16 = .ok (.iload_n 3, 1) := by decide +kernel
theorem dX0_welcome_17 : decode cX0_welcome 17 = .ok (.iload_n 2, 1) := by decide +kernel
theorem dX0_welcome_18 : decode cX0_welcome 18 = .ok (.iastore, 1) := by decide +kernel
theorem dX0_welcome_19 : decode cX0_welcome 19 = .ok (.aload_n 0, 1) := by decide +kernel
theorem dX0_welcome_20 : decode cX0_welcome 20 = .ok (.dup, 1) := by decide +kernel
theorem dX0_welcome_21 : decode cX0_welcome 21 = .ok (.getfield 36, 3) := by decide +kernel
theorem dX0_welcome_24 : decode cX0_welcome 24 = .ok (.iconst 1, 1) := by decide +kernel
theorem dX0_welcome_25 : decode cX0_welcome 25 = .ok (.iadd, 1) := by decide +kernel
theorem dX0_welcome_26 : decode cX0_welcome 26 = .ok (.putfield 36, 3) := by decide +kernel
theorem dX0_welcome_29 : decode cX0_welcome 29 = .ok (.aload_n 0, 1) := by decide +kernel
theorem dX0_welcome_30 : decode cX0_welcome 30 = .ok (.getfield 22, 3) := by decide +kernel
theorem dX0_welcome_33 : decode cX0_welcome 33 = .ok (.iconst (-1), 1) := by decide +kernel
theorem dX0_welcome_34 : decode cX0_welcome 34 = .ok (.invokestatic 33, 3) := by decide +kernel
theorem dX0_welcome_37 : decode cX0_welcome 37 = .ok (.iload_n 3, 1) := by decide +kernel
theorem dX0_welcome_38 : decode cX0_welcome 38 = .ok (.ireturn, 1) := by decide +kernel
theorem dX0_turnInto_0 : decode cX0_turnInto 0 = .ok (.aload_n 0, 1) := by decide +kernel
theorem dX0_turnInto_1 : decode cX0_turnInto 1 = .ok (.getfield 9, 3) := by decide +kernel
theorem dX0_turnInto_4 : decode cX0_turnInto 4 = .ok (.iload_n 1, 1) := by decide +kernel
theorem dX0_turnInto_5 : decode cX0_turnInto 5 = .ok (.iaload, 1) := by decide +kernel
theorem dX0_turnInto_6 : decode cX0_turnInto 6 = .ok (.istore_n 3, 1) := by decide +kernel
theorem dX0_turnInto_7 : decode cX0_turnInto 7 = .ok (.aload_n 0, 1) := by decide +kernel
theorem dX0_turnInto_8 : decode cX0_turnInto 8 = .ok (.getfield 9, 3) := by decide +kernel
theorem dX0_turnInto_11 : decode cX0_turnInto 11 = .ok (.iload_n 1, 1) := by decide +kernel
theorem dX0_turnInto_12 : decode cX0_turnInto 12 = .ok (.iload_n 2, 1) := by decide +kernel
theorem dX0_turnInto_13 : decode cX0_turnInto 13 = .ok (.iastore, 1) := by decide +kernel
theorem dX0_turnInto_14 : decode cX0_turnInto 14 = .ok (.aload_n 0, 1) := by decide +kernel
theorem dX0_turnInto_15 : decode cX0_turnInto 15 = .ok (.getfield 22, 3) := by decide +kernel
theorem dX0_turnInto_18 : decode cX0_turnInto 18 = .ok (.iconst (-1), 1) := by decide +kernel
theorem dX0_turnInto_19 : decode cX0_turnInto 19 = .ok (.invokestatic 33, 3) := by decide +kernel
theorem dX0_turnInto_22 : decode cX0_turnInto 22 = .ok (.iload_n 3, 1) := by decide +kernel
theorem dX0_turnInto_23 : decode cX0_turnInto 23 = .ok (.ireturn, 1) := by decide +kernel
theorem dX0_tell_0 : decode cX0_tell 0 = .ok (.aload_n 0, 1) := by decide +kernel
theorem dX0_tell_1 : decode cX0_tell 1 = .ok (.getfield 18, 3) := by decide +kernel
theorem dX0_tell_4 : decode cX0_tell 4 = .ok (.iload_n 1, 1) := by decide +kernel
theorem dX0_tell_5 : decode cX0_tell 5 = .ok (.iconst 4, 1) := by decide +kernel
theorem dX0_tell_6 : decode cX0_tell 6 = .ok (.imul, 1) := by decide +kernel
theorem dX0_tell_7 : decode cX0_tell 7 = .ok (.iload_n 2, 1) := by decide +kernel
theorem dX0_tell_8 : decode cX0_tell 8 = .ok (.iadd, 1) := by decide +kernel
theorem dX0_tell_9 : decode cX0_tell 9 = .ok (.lload_n 3, 1) := by decide +kernel
theorem dX0_tell_10 : decode cX0_tell 10 = .ok (.lastore, 1) := by decide +kernel
theorem dX0_tell_11 : decode cX0_tell 11 = .ok (.aload_n 0, 1) := by decide +kernel
theorem dX0_tell_12 : decode cX0_tell 12 = .ok (.dup, 1) := by decide +kernel
theorem dX0_tell_13 : decode cX0_tell 13 = .ok (.getfield 44, 3) := by decide +kernel
theorem dX0_tell_16 : decode cX0_tell 16 = .ok (.iconst 1, 1) := by decide +kernel
theorem dX0_tell_17 : decode cX0_tell 17 = .ok (.iload_n 1, 1) := by decide +kernel
theorem dX0_tell_18 : decode cX0_tell 18 = .ok (.ishl, 1) := by decide +kernel
theorem dX0_tell_19 : decode cX0_tell 19 = .ok (.ior, 1) := by decide +kernel
theorem dX0_tell_20 : decode cX0_tell 20 = .ok (.putfield 44, 3) := by decide +kernel
theorem dX0_tell_23 : decode cX0_tell 23 = .ok (.aload_n 0, 1) := by decide +kernel
theorem dX0_tell_24 : decode cX0_tell 24 = .ok (.getfield 22, 3) := by decide +kernel
theorem dX0_tell_27 : decode cX0_tell 27 = .ok (.iconst (-1), 1) := by decide +kernel
theorem dX0_tell_28 : decode cX0_tell 28 = .ok (.invokestatic 33, 3) := by decide +kernel
theorem dX0_tell_31 : decode cX0_tell 31 = .ok (.return_, 1) := by decide +kernel
theorem dX0_take_0 : decode cX0_take 0 = .ok (.aload_n 0, 1) := by decide +kernel
theorem dX0_take_1 : decode cX0_take 1 = .ok (.aload_n 1, 1) := by decide +kernel
theorem dX0_take_2 : decode cX0_take 2 = .ok (.getfield 36, 3) := by decide +kernel
theorem dX0_take_5 : decode cX0_take 5 = .ok (.putfield 36, 3) := by decide +kernel
theorem dX0_take_8 : decode cX0_take 8 = .ok (.aload_n 0, 1) := by decide +kernel
theorem dX0_take_9 : decode cX0_take 9 = .ok (.aload_n 1, 1) := by decide +kernel
theorem dX0_take_10 : decode cX0_take 10 = .ok (.getfield 47, 3) := by decide +kernel
theorem dX0_take_13 : decode cX0_take 13 = .ok (.putfield 47, 3) := by decide +kernel
theorem dX0_take_16 : decode cX0_take 16 = .ok (.aload_n 0, 1) := by decide +kernel
theorem dX0_take_17 : decode cX0_take 17 = .ok (.aload_n 1, 1) := by decide +kernel
theorem dX0_take_18 : decode cX0_take 18 = .ok (.getfield 44, 3) := by decide +kernel
theorem dX0_take_21 : decode cX0_take 21 = .ok (.putfield 44, 3) := by decide +kernel
theorem dX0_take_24 : decode cX0_take 24 = .ok (.aload_n 1, 1) := by decide +kernel
theorem dX0_take_25 : decode cX0_take 25 = .ok (.getfield 9, 3) := by decide +kernel
theorem dX0_take_28 : decode cX0_take 28 = .ok (.iconst 0, 1) := by decide +kernel
theorem dX0_take_29 : decode cX0_take 29 = .ok (.aload_n 0, 1) := by decide +kernel
theorem dX0_take_30 : decode cX0_take 30 = .ok (.getfield 9, 3) := by decide +kernel
theorem dX0_take_33 : decode cX0_take 33 = .ok (.iconst 0, 1) := by decide +kernel
theorem dX0_take_34 : decode cX0_take 34 = .ok (.bipush 8, 2) := by decide +kernel
theorem dX0_take_36 : decode cX0_take 36 = .ok (.invokestatic 50, 3) := by decide +kernel
theorem dX0_take_39 : decode cX0_take 39 = .ok (.aload_n 1, 1) := by decide +kernel
theorem dX0_take_40 : decode cX0_take 40 = .ok (.getfield 15, 3) := by decide +kernel
theorem dX0_take_43 : decode cX0_take 43 = .ok (.iconst 0, 1) := by decide +kernel
theorem dX0_take_44 : decode cX0_take 44 = .ok (.aload_n 0, 1) := by decide +kernel
theorem dX0_take_45 : decode cX0_take 45 = .ok (.getfield 15, 3) := by decide +kernel
theorem dX0_take_48 : decode cX0_take 48 = .ok (.iconst 0, 1) := by decide +kernel
theorem dX0_take_49 : decode cX0_take 49 = .ok (.bipush 8, 2) := by decide +kernel
theorem dX0_take_51 : decode cX0_take 51 = .ok (.invokestatic 50, 3) := by decide +kernel
theorem dX0_take_54 : decode cX0_take 54 = .ok (.aload_n 1, 1) := by decide +kernel
theorem dX0_take_55 : decode cX0_take 55 = .ok (.getfield 18, 3) := by decide +kernel
theorem dX0_take_58 : decode cX0_take 58 = .ok (.iconst 0, 1) := by decide +kernel
theorem dX0_take_59 : decode cX0_take 59 = .ok (.aload_n 0, 1) := by decide +kernel
theorem dX0_take_60 : decode cX0_take 60 = .ok (.getfield 18, 3) := by decide +kernel
theorem dX0_take_63 : decode cX0_take 63 = .ok (.iconst 0, 1) := by decide +kernel
theorem dX0_take_64 : decode cX0_take 64 = .ok (.bipush 32, 2) := by decide +kernel
theorem dX0_take_66 : decode cX0_take 66 = .ok (.invokestatic 50, 3) := by decide +kernel
theorem dX0_take_69 : decode cX0_take 69 = .ok (.aload_n 0, 1) := by decide +kernel
theorem dX0_take_70 : decode cX0_take 70 = .ok (.getfield 22, 3) := by decide +kernel
theorem dX0_take_73 : decode cX0_take 73 = .ok (.iconst (-1), 1) := by decide +kernel
theorem dX0_take_74 : decode cX0_take 74 = .ok (.invokestatic 33, 3) := by decide +kernel
theorem dX0_take_77 : decode cX0_take 77 = .ok (.return_, 1) := by decide +kernel
theorem dX0_costsOf_0 : decode cX0_costsOf 0 = .ok (.iconst 0, 1) := by decide +kernel
theorem dX0_costsOf_1 : decode cX0_costsOf 1 = .ok (.istore_n 2, 1) := by decide +kernel
theorem dX0_costsOf_2 : decode cX0_costsOf 2 = .ok (.iconst 0, 1) := by decide +kernel
theorem dX0_costsOf_3 : decode cX0_costsOf 3 = .ok (.istore_n 3, 1) := by decide +kernel
theorem dX0_costsOf_4 : decode cX0_costsOf 4 = .ok (.iload_n 3, 1) := by decide +kernel
theorem dX0_costsOf_5 : decode cX0_costsOf 5 = .ok (.aload_n 0, 1) := by decide +kernel
theorem dX0_costsOf_6 : decode cX0_costsOf 6 = .ok (.getfield 36, 3) := by decide +kernel
theorem dX0_costsOf_9 : decode cX0_costsOf 9 = .ok (.if_icmp .ge 30, 3) := by decide +kernel
theorem dX0_costsOf_12 : decode cX0_costsOf 12 = .ok (.iload_n 2, 1) := by decide +kernel
theorem dX0_costsOf_13 : decode cX0_costsOf 13 = .ok (.iload_n 3, 1) := by decide +kernel
theorem dX0_costsOf_14 : decode cX0_costsOf 14 = .ok (.iload_n 1, 1) := by decide +kernel
theorem dX0_costsOf_15 : decode cX0_costsOf 15 = .ok (.invokestatic 56, 3) := by decide +kernel
theorem dX0_costsOf_18 : decode cX0_costsOf 18 = .ok (.ifCond .eq 12, 3) := by decide +kernel
theorem dX0_costsOf_21 : decode cX0_costsOf 21 = .ok (.aload_n 0, 1) := by decide +kernel
theorem dX0_costsOf_22 : decode cX0_costsOf 22 = .ok (.getfield 15, 3) := by decide +kernel
theorem dX0_costsOf_25 : decode cX0_costsOf 25 = .ok (.iload_n 3, 1) := by decide +kernel
theorem dX0_costsOf_26 : decode cX0_costsOf 26 = .ok (.iaload, 1) := by decide +kernel
theorem dX0_costsOf_27 : decode cX0_costsOf 27 = .ok (.goto 4, 3) := by decide +kernel
theorem dX0_costsOf_30 : decode cX0_costsOf 30 = .ok (.iconst 0, 1) := by decide +kernel
theorem dX0_costsOf_31 : decode cX0_costsOf 31 = .ok (.iadd, 1) := by decide +kernel
theorem dX0_costsOf_32 : decode cX0_costsOf 32 = .ok (.istore_n 2, 1) := by decide +kernel
theorem dX0_costsOf_33 : decode cX0_costsOf 33 = .ok (.iinc 3 1, 3) := by decide +kernel
theorem dX0_costsOf_36 : decode cX0_costsOf 36 = .ok (.goto (-32), 3) := by decide +kernel
theorem dX0_costsOf_39 : decode cX0_costsOf 39 = .ok (.iload_n 2, 1) := by decide +kernel
theorem dX0_costsOf_40 : decode cX0_costsOf 40 = .ok (.ireturn, 1) := by decide +kernel
theorem dX0_termHolds_0 : decode cX0_termHolds 0 = .ok (.iload_n 2, 1) := by decide +kernel
theorem dX0_termHolds_1 : decode cX0_termHolds 1 = .ok (.sipush 255, 3) := by decide +kernel
theorem dX0_termHolds_4 : decode cX0_termHolds 4 = .ok (.iand, 1) := by decide +kernel
theorem dX0_termHolds_5 : decode cX0_termHolds 5 = .ok (.bipush 64, 2) := by decide +kernel
theorem dX0_termHolds_7 : decode cX0_termHolds 7 = .ok (.idiv, 1) := by decide +kernel
theorem dX0_termHolds_8 : decode cX0_termHolds 8 = .ok (.istore_n 3, 1) := by decide +kernel
theorem dX0_termHolds_9 : decode cX0_termHolds 9 = .ok (.aload_n 0, 1) := by decide +kernel
theorem dX0_termHolds_10 : decode cX0_termHolds 10 = .ok (.getfield 18, 3) := by decide +kernel
theorem dX0_termHolds_13 : decode cX0_termHolds 13 = .ok (.iload_n 1, 1) := by decide +kernel
theorem dX0_termHolds_14 : decode cX0_termHolds 14 = .ok (.iconst 4, 1) := by decide +kernel
theorem dX0_termHolds_15 : decode cX0_termHolds 15 = .ok (.imul, 1) := by decide +kernel
theorem dX0_termHolds_16 : decode cX0_termHolds 16 = .ok (.iload_n 3, 1) := by decide +kernel
theorem dX0_termHolds_17 : decode cX0_termHolds 17 = .ok (.iadd, 1) := by decide +kernel
theorem dX0_termHolds_18 : decode cX0_termHolds 18 = .ok (.laload, 1) := by decide +kernel
theorem dX0_termHolds_19 : decode cX0_termHolds 19 = .ok (.iload_n 2, 1) := by decide +kernel
theorem dX0_termHolds_20 : decode cX0_termHolds 20 = .ok (.bipush 64, 2) := by decide +kernel
theorem dX0_termHolds_22 : decode cX0_termHolds 22 = .ok (.irem, 1) := by decide +kernel
theorem dX0_termHolds_23 : decode cX0_termHolds 23 = .ok (.lushr, 1) := by decide +kernel
theorem dX0_termHolds_24 : decode cX0_termHolds 24 = .ok (.lconst 1, 1) := by decide +kernel
theorem dX0_termHolds_25 : decode cX0_termHolds 25 = .ok (.land, 1) := by decide +kernel
theorem dX0_termHolds_26 : decode cX0_termHolds 26 = .ok (.lconst 0, 1) := by decide +kernel
theorem dX0_termHolds_27 : decode cX0_termHolds 27 = .ok (.lcmp, 1) := by decide +kernel
theorem dX0_termHolds_28 : decode cX0_termHolds 28 = .ok (.ifCond .eq 7, 3) := by decide +kernel
theorem dX0_termHolds_31 : decode cX0_termHolds 31 = .ok (.iconst 1, 1) := by decide +kernel
theorem dX0_termHolds_32 : decode cX0_termHolds 32 = .ok (.goto 4, 3) := by decide +kernel
theorem dX0_termHolds_35 : decode cX0_termHolds 35 = .ok (.iconst 0, 1) := by decide +kernel
theorem dX0_termHolds_36 : decode cX0_termHolds 36 = .ok (.ireturn, 1) := by decide +kernel
theorem dX0_wouldComeAs_0 : decode cX0_wouldComeAs 0 = .ok (.aload_n 0, 1) := by decide +kernel
theorem dX0_wouldComeAs_1 : decode cX0_wouldComeAs 1 = .ok (.iload_n 2, 1) := by decide +kernel
theorem dX0_wouldComeAs_2 : decode cX0_wouldComeAs 2 = .ok (.iload_n 3, 1) := by decide +kernel
theorem dX0_wouldComeAs_3 : decode cX0_wouldComeAs 3 = .ok (.invokevirtual 60, 3) := by decide +kernel
theorem dX0_wouldComeAs_6 : decode cX0_wouldComeAs 6 = .ok (.istore 4, 2) := by decide +kernel
theorem dX0_wouldComeAs_8 : decode cX0_wouldComeAs 8 = .ok (.iload_n 2, 1) := by decide +kernel
theorem dX0_wouldComeAs_9 : decode cX0_wouldComeAs 9 = .ok (.iload_n 3, 1) := by decide +kernel
theorem dX0_wouldComeAs_10 : decode cX0_wouldComeAs 10 = .ok (.invokestatic 63, 3) := by decide +kernel
theorem dX0_wouldComeAs_13 : decode cX0_wouldComeAs 13 = .ok (.istore 5, 2) := by decide +kernel
theorem dX0_wouldComeAs_15 : decode cX0_wouldComeAs 15 = .ok (.iload_n 1, 1) := by decide +kernel
theorem dX0_wouldComeAs_16 : decode cX0_wouldComeAs 16 = .ok (.tableswitch 116 0 5 #[40, 43, 60, 116, 77, 99], 40) := by decide +kernel
theorem dX0_wouldComeAs_56 : decode cX0_wouldComeAs 56 = .ok (.iload 4, 2) := by decide +kernel
theorem dX0_wouldComeAs_58 : decode cX0_wouldComeAs 58 = .ok (.ireturn, 1) := by decide +kernel
theorem dX0_wouldComeAs_59 : decode cX0_wouldComeAs 59 = .ok (.iload 4, 2) := by decide +kernel
theorem dX0_wouldComeAs_61 : decode cX0_wouldComeAs 61 = .ok (.ifCond .ne 9, 3) := by decide +kernel
theorem dX0_wouldComeAs_64 : decode cX0_wouldComeAs 64 = .ok (.iload 5, 2) := by decide +kernel
theorem dX0_wouldComeAs_66 : decode cX0_wouldComeAs 66 = .ok (.iconst 4, 1) := by decide +kernel
theorem dX0_wouldComeAs_67 : decode cX0_wouldComeAs 67 = .ok (.if_icmp .lt 7, 3) := by decide +kernel
theorem dX0_wouldComeAs_70 : decode cX0_wouldComeAs 70 = .ok (.iconst 1, 1) := by decide +kernel
theorem dX0_wouldComeAs_71 : decode cX0_wouldComeAs 71 = .ok (.goto 4, 3) := by decide +kernel
theorem dX0_wouldComeAs_74 : decode cX0_wouldComeAs 74 = .ok (.iconst 0, 1) := by decide +kernel
theorem dX0_wouldComeAs_75 : decode cX0_wouldComeAs 75 = .ok (.ireturn, 1) := by decide +kernel
theorem dX0_wouldComeAs_76 : decode cX0_wouldComeAs 76 = .ok (.iload 4, 2) := by decide +kernel
theorem dX0_wouldComeAs_78 : decode cX0_wouldComeAs 78 = .ok (.ifCond .eq 13, 3) := by decide +kernel
theorem dX0_wouldComeAs_81 : decode cX0_wouldComeAs 81 = .ok (.iload 5, 2) := by decide +kernel
theorem dX0_wouldComeAs_83 : decode cX0_wouldComeAs 83 = .ok (.iconst 4, 1) := by decide +kernel
theorem dX0_wouldComeAs_84 : decode cX0_wouldComeAs 84 = .ok (.if_icmp .gt 7, 3) := by decide +kernel
theorem dX0_wouldComeAs_87 : decode cX0_wouldComeAs 87 = .ok (.iconst 1, 1) := by decide +kernel
theorem dX0_wouldComeAs_88 : decode cX0_wouldComeAs 88 = .ok (.goto 4, 3) := by decide +kernel
theorem dX0_wouldComeAs_91 : decode cX0_wouldComeAs 91 = .ok (.iconst 0, 1) := by decide +kernel
theorem dX0_wouldComeAs_92 : decode cX0_wouldComeAs 92 = .ok (.ireturn, 1) := by decide +kernel
theorem dX0_wouldComeAs_93 : decode cX0_wouldComeAs 93 = .ok (.iload 4, 2) := by decide +kernel
theorem dX0_wouldComeAs_95 : decode cX0_wouldComeAs 95 = .ok (.ifCond .ne 14, 3) := by decide +kernel
theorem dX0_wouldComeAs_98 : decode cX0_wouldComeAs 98 = .ok (.iload 5, 2) := by decide +kernel
theorem dX0_wouldComeAs_100 : decode cX0_wouldComeAs 100 = .ok (.iconst 4, 1) := by decide +kernel
theorem dX0_wouldComeAs_101 : decode cX0_wouldComeAs 101 = .ok (.if_icmp .ge 8, 3) := by decide +kernel
theorem dX0_wouldComeAs_104 : decode cX0_wouldComeAs 104 = .ok (.iload 5, 2) := by decide +kernel
theorem dX0_wouldComeAs_106 : decode cX0_wouldComeAs 106 = .ok (.ifCond .ne 7, 3) := by decide +kernel
theorem dX0_wouldComeAs_109 : decode cX0_wouldComeAs 109 = .ok (.iconst 1, 1) := by decide +kernel
theorem dX0_wouldComeAs_110 : decode cX0_wouldComeAs 110 = .ok (.goto 4, 3) := by decide +kernel
theorem dX0_wouldComeAs_113 : decode cX0_wouldComeAs 113 = .ok (.iconst 0, 1) := by decide +kernel
theorem dX0_wouldComeAs_114 : decode cX0_wouldComeAs 114 = .ok (.ireturn, 1) := by decide +kernel
theorem dX0_wouldComeAs_115 : decode cX0_wouldComeAs 115 = .ok (.iload 4, 2) := by decide +kernel
theorem dX0_wouldComeAs_117 : decode cX0_wouldComeAs 117 = .ok (.ifCond .eq 9, 3) := by decide +kernel
theorem dX0_wouldComeAs_120 : decode cX0_wouldComeAs 120 = .ok (.iload 5, 2) := by decide +kernel
theorem dX0_wouldComeAs_122 : decode cX0_wouldComeAs 122 = .ok (.iconst 4, 1) := by decide +kernel
theorem dX0_wouldComeAs_123 : decode cX0_wouldComeAs 123 = .ok (.if_icmp .le 7, 3) := by decide +kernel
theorem dX0_wouldComeAs_126 : decode cX0_wouldComeAs 126 = .ok (.iconst 1, 1) := by decide +kernel
theorem dX0_wouldComeAs_127 : decode cX0_wouldComeAs 127 = .ok (.goto 4, 3) := by decide +kernel
theorem dX0_wouldComeAs_130 : decode cX0_wouldComeAs 130 = .ok (.iconst 0, 1) := by decide +kernel
theorem dX0_wouldComeAs_131 : decode cX0_wouldComeAs 131 = .ok (.ireturn, 1) := by decide +kernel
theorem dX0_wouldComeAs_132 : decode cX0_wouldComeAs 132 = .ok (.iconst 0, 1) := by decide +kernel
theorem dX0_wouldComeAs_133 : decode cX0_wouldComeAs 133 = .ok (.ireturn, 1) := by decide +kernel
theorem dX0_comers_0 : decode cX0_comers 0 = .ok (.iload_n 1, 1) := by decide +kernel
theorem dX0_comers_1 : decode cX0_comers 1 = .ok (.sipush 255, 3) := by decide +kernel
theorem dX0_comers_4 : decode cX0_comers 4 = .ok (.iand, 1) := by decide +kernel
theorem dX0_comers_5 : decode cX0_comers 5 = .ok (.istore_n 2, 1) := by decide +kernel
theorem dX0_comers_6 : decode cX0_comers 6 = .ok (.aload_n 0, 1) := by decide +kernel
theorem dX0_comers_7 : decode cX0_comers 7 = .ok (.getfield 22, 3) := by decide +kernel
theorem dX0_comers_10 : decode cX0_comers 10 = .ok (.iload_n 2, 1) := by decide +kernel
theorem dX0_comers_11 : decode cX0_comers 11 = .ok (.iaload, 1) := by decide +kernel
theorem dX0_comers_12 : decode cX0_comers 12 = .ok (.iconst (-1), 1) := by decide +kernel
theorem dX0_comers_13 : decode cX0_comers 13 = .ok (.if_icmp .ne 58, 3) := by decide +kernel
theorem dX0_comers_16 : decode cX0_comers 16 = .ok (.iconst 0, 1) := by decide +kernel
theorem dX0_comers_17 : decode cX0_comers 17 = .ok (.istore_n 3, 1) := by decide +kernel
theorem dX0_comers_18 : decode cX0_comers 18 = .ok (.iconst 0, 1) := by decide +kernel
theorem dX0_comers_19 : decode cX0_comers 19 = .ok (.istore 4, 2) := by decide +kernel
theorem dX0_comers_21 : decode cX0_comers 21 = .ok (.iload 4, 2) := by decide +kernel
theorem dX0_comers_23 : decode cX0_comers 23 = .ok (.aload_n 0, 1) := by decide +kernel
theorem dX0_comers_24 : decode cX0_comers 24 = .ok (.getfield 36, 3) := by decide +kernel
theorem dX0_comers_27 : decode cX0_comers 27 = .ok (.if_icmp .ge 37, 3) := by decide +kernel
theorem dX0_comers_30 : decode cX0_comers 30 = .ok (.iload_n 3, 1) := by decide +kernel
theorem dX0_comers_31 : decode cX0_comers 31 = .ok (.aload_n 0, 1) := by decide +kernel
theorem dX0_comers_32 : decode cX0_comers 32 = .ok (.aload_n 0, 1) := by decide +kernel
theorem dX0_comers_33 : decode cX0_comers 33 = .ok (.getfield 9, 3) := by decide +kernel
theorem dX0_comers_36 : decode cX0_comers 36 = .ok (.iload 4, 2) := by decide +kernel
theorem dX0_comers_38 : decode cX0_comers 38 = .ok (.iaload, 1) := by decide +kernel
theorem dX0_comers_39 : decode cX0_comers 39 = .ok (.iload 4, 2) := by decide +kernel
theorem dX0_comers_41 : decode cX0_comers 41 = .ok (.iload_n 2, 1) := by decide +kernel
theorem dX0_comers_42 : decode cX0_comers 42 = .ok (.invokevirtual 67, 3) := by decide +kernel
theorem dX0_comers_45 : decode cX0_comers 45 = .ok (.ifCond .eq 10, 3) := by decide +kernel
theorem dX0_comers_48 : decode cX0_comers 48 = .ok (.iconst 1, 1) := by decide +kernel
theorem dX0_comers_49 : decode cX0_comers 49 = .ok (.iload 4, 2) := by decide +kernel
theorem dX0_comers_51 : decode cX0_comers 51 = .ok (.ishl, 1) := by decide +kernel
theorem dX0_comers_52 : decode cX0_comers 52 = .ok (.goto 4, 3) := by decide +kernel
theorem dX0_comers_55 : decode cX0_comers 55 = .ok (.iconst 0, 1) := by decide +kernel
theorem dX0_comers_56 : decode cX0_comers 56 = .ok (.ior, 1) := by decide +kernel
theorem dX0_comers_57 : decode cX0_comers 57 = .ok (.istore_n 3, 1) := by decide +kernel
theorem dX0_comers_58 : decode cX0_comers 58 = .ok (.iinc 4 1, 3) := by decide +kernel
theorem dX0_comers_61 : decode cX0_comers 61 = .ok (.goto (-40), 3) := by decide +kernel
theorem dX0_comers_64 : decode cX0_comers 64 = .ok (.aload_n 0, 1) := by decide +kernel
theorem dX0_comers_65 : decode cX0_comers 65 = .ok (.getfield 22, 3) := by decide +kernel
theorem dX0_comers_68 : decode cX0_comers 68 = .ok (.iload_n 2, 1) := by decide +kernel
theorem dX0_comers_69 : decode cX0_comers 69 = .ok (.iload_n 3, 1) := by decide +kernel
theorem dX0_comers_70 : decode cX0_comers 70 = .ok (.iastore, 1) := by decide +kernel
theorem dX0_comers_71 : decode cX0_comers 71 = .ok (.aload_n 0, 1) := by decide +kernel
theorem dX0_comers_72 : decode cX0_comers 72 = .ok (.getfield 22, 3) := by decide +kernel
theorem dX0_comers_75 : decode cX0_comers 75 = .ok (.iload_n 2, 1) := by decide +kernel
theorem dX0_comers_76 : decode cX0_comers 76 = .ok (.iaload, 1) := by decide +kernel
theorem dX0_comers_77 : decode cX0_comers 77 = .ok (.ireturn, 1) := by decide +kernel
theorem dX0_comersAs_0 : decode cX0_comersAs 0 = .ok (.aload_n 0, 1) := by decide +kernel
theorem dX0_comersAs_1 : decode cX0_comersAs 1 = .ok (.iload_n 3, 1) := by decide +kernel
theorem dX0_comersAs_2 : decode cX0_comersAs 2 = .ok (.invokevirtual 71, 3) := by decide +kernel
theorem dX0_comersAs_5 : decode cX0_comersAs 5 = .ok (.iconst 1, 1) := by decide +kernel
theorem dX0_comersAs_6 : decode cX0_comersAs 6 = .ok (.iload_n 1, 1) := by decide +kernel
theorem dX0_comersAs_7 : decode cX0_comersAs 7 = .ok (.ishl, 1) := by decide +kernel
theorem dX0_comersAs_8 : decode cX0_comersAs 8 = .ok (.iconst (-1), 1) := by decide +kernel
theorem dX0_comersAs_9 : decode cX0_comersAs 9 = .ok (.ixor, 1) := by decide +kernel
theorem dX0_comersAs_10 : decode cX0_comersAs 10 = .ok (.iand, 1) := by decide +kernel
theorem dX0_comersAs_11 : decode cX0_comersAs 11 = .ok (.istore 4, 2) := by decide +kernel
theorem dX0_comersAs_13 : decode cX0_comersAs 13 = .ok (.aload_n 0, 1) := by decide +kernel
theorem dX0_comersAs_14 : decode cX0_comersAs 14 = .ok (.iload_n 2, 1) := by decide +kernel
theorem dX0_comersAs_15 : decode cX0_comersAs 15 = .ok (.iload_n 1, 1) := by decide +kernel
theorem dX0_comersAs_16 : decode cX0_comersAs 16 = .ok (.iload_n 3, 1) := by decide +kernel
theorem dX0_comersAs_17 : decode cX0_comersAs 17 = .ok (.invokevirtual 67, 3) := by decide +kernel
theorem dX0_comersAs_20 : decode cX0_comersAs 20 = .ok (.ifCond .eq 12, 3) := by decide +kernel
theorem dX0_comersAs_23 : decode cX0_comersAs 23 = .ok (.iload 4, 2) := by decide +kernel
theorem dX0_comersAs_25 : decode cX0_comersAs 25 = .ok (.iconst 1, 1) := by decide +kernel
theorem dX0_comersAs_26 : decode cX0_comersAs 26 = .ok (.iload_n 1, 1) := by decide +kernel
theorem dX0_comersAs_27 : decode cX0_comersAs 27 = .ok (.ishl, 1) := by decide +kernel
theorem dX0_comersAs_28 : decode cX0_comersAs 28 = .ok (.ior, 1) := by decide +kernel
theorem dX0_comersAs_29 : decode cX0_comersAs 29 = .ok (.goto 5, 3) := by decide +kernel
theorem dX0_comersAs_32 : decode cX0_comersAs 32 = .ok (.iload 4, 2) := by decide +kernel
theorem dX0_comersAs_34 : decode cX0_comersAs 34 = .ok (.ireturn, 1) := by decide +kernel
theorem dX0_isSettled_0 : decode cX0_isSettled 0 = .ok (.aload_n 0, 1) := by decide +kernel
theorem dX0_isSettled_1 : decode cX0_isSettled 1 = .ok (.iload_n 1, 1) := by decide +kernel
theorem dX0_isSettled_2 : decode cX0_isSettled 2 = .ok (.invokevirtual 71, 3) := by decide +kernel
theorem dX0_isSettled_5 : decode cX0_isSettled 5 = .ok (.iload_n 1, 1) := by decide +kernel
theorem dX0_isSettled_6 : decode cX0_isSettled 6 = .ok (.if_icmp .ne 7, 3) := by decide +kernel
theorem dX0_isSettled_9 : decode cX0_isSettled 9 = .ok (.iconst 1, 1) := by decide +kernel
theorem dX0_isSettled_10 : decode cX0_isSettled 10 = .ok (.goto 4, 3) := by decide +kernel
theorem dX0_isSettled_13 : decode cX0_isSettled 13 = .ok (.iconst 0, 1) := by decide +kernel
theorem dX0_isSettled_14 : decode cX0_isSettled 14 = .ok (.ireturn, 1) := by decide +kernel
theorem dX0_settledAs_0 : decode cX0_settledAs 0 = .ok (.iconst 0, 1) := by decide +kernel
theorem dX0_settledAs_1 : decode cX0_settledAs 1 = .ok (.istore_n 3, 1) := by decide +kernel
theorem dX0_settledAs_2 : decode cX0_settledAs 2 = .ok (.iconst 0, 1) := by decide +kernel
theorem dX0_settledAs_3 : decode cX0_settledAs 3 = .ok (.istore 4, 2) := by decide +kernel
theorem dX0_settledAs_5 : decode cX0_settledAs 5 = .ok (.iload 4, 2) := by decide +kernel
theorem dX0_settledAs_7 : decode cX0_settledAs 7 = .ok (.aload_n 0, 1) := by decide +kernel
theorem dX0_settledAs_8 : decode cX0_settledAs 8 = .ok (.invokevirtual 40, 3) := by decide +kernel
theorem dX0_settledAs_11 : decode cX0_settledAs 11 = .ok (.if_icmp .ge 33, 3) := by decide +kernel
theorem dX0_settledAs_14 : decode cX0_settledAs 14 = .ok (.iload_n 3, 1) := by decide +kernel
theorem dX0_settledAs_15 : decode cX0_settledAs 15 = .ok (.aload_n 0, 1) := by decide +kernel
theorem dX0_settledAs_16 : decode cX0_settledAs 16 = .ok (.iload_n 1, 1) := by decide +kernel
theorem dX0_settledAs_17 : decode cX0_settledAs 17 = .ok (.iload_n 2, 1) := by decide +kernel
theorem dX0_settledAs_18 : decode cX0_settledAs 18 = .ok (.iload 4, 2) := by decide +kernel
theorem dX0_settledAs_20 : decode cX0_settledAs 20 = .ok (.invokevirtual 75, 3) := by decide +kernel
theorem dX0_settledAs_23 : decode cX0_settledAs 23 = .ok (.iload 4, 2) := by decide +kernel
theorem dX0_settledAs_25 : decode cX0_settledAs 25 = .ok (.if_icmp .ne 7, 3) := by decide +kernel
theorem dX0_settledAs_28 : decode cX0_settledAs 28 = .ok (.iconst 1, 1) := by decide +kernel
theorem dX0_settledAs_29 : decode cX0_settledAs 29 = .ok (.goto 4, 3) := by decide +kernel
theorem dX0_settledAs_32 : decode cX0_settledAs 32 = .ok (.iconst 0, 1) := by decide +kernel
theorem dX0_settledAs_33 : decode cX0_settledAs 33 = .ok (.invokestatic 79, 3) := by decide +kernel
theorem dX0_settledAs_36 : decode cX0_settledAs 36 = .ok (.iadd, 1) := by decide +kernel
theorem dX0_settledAs_37 : decode cX0_settledAs 37 = .ok (.istore_n 3, 1) := by decide +kernel
theorem dX0_settledAs_38 : decode cX0_settledAs 38 = .ok (.iinc 4 1, 3) := by decide +kernel
theorem dX0_settledAs_41 : decode cX0_settledAs 41 = .ok (.goto (-36), 3) := by decide +kernel
theorem dX0_settledAs_44 : decode cX0_settledAs 44 = .ok (.iload_n 3, 1) := by decide +kernel
theorem dX0_settledAs_45 : decode cX0_settledAs 45 = .ok (.ireturn, 1) := by decide +kernel
theorem dX0_called_0 : decode cX0_called 0 = .ok (.iload_n 2, 1) := by decide +kernel
theorem dX0_called_1 : decode cX0_called 1 = .ok (.iconst 1, 1) := by decide +kernel
theorem dX0_called_2 : decode cX0_called 2 = .ok (.iload_n 1, 1) := by decide +kernel
theorem dX0_called_3 : decode cX0_called 3 = .ok (.ishl, 1) := by decide +kernel
theorem dX0_called_4 : decode cX0_called 4 = .ok (.iconst (-1), 1) := by decide +kernel
theorem dX0_called_5 : decode cX0_called 5 = .ok (.ixor, 1) := by decide +kernel
theorem dX0_called_6 : decode cX0_called 6 = .ok (.iand, 1) := by decide +kernel
theorem dX0_called_7 : decode cX0_called 7 = .ok (.aload_n 0, 1) := by decide +kernel
theorem dX0_called_8 : decode cX0_called 8 = .ok (.iload_n 2, 1) := by decide +kernel
theorem dX0_called_9 : decode cX0_called 9 = .ok (.invokevirtual 71, 3) := by decide +kernel
theorem dX0_called_12 : decode cX0_called 12 = .ok (.iconst 1, 1) := by decide +kernel
theorem dX0_called_13 : decode cX0_called 13 = .ok (.iload_n 1, 1) := by decide +kernel
theorem dX0_called_14 : decode cX0_called 14 = .ok (.ishl, 1) := by decide +kernel
theorem dX0_called_15 : decode cX0_called 15 = .ok (.iand, 1) := by decide +kernel
theorem dX0_called_16 : decode cX0_called 16 = .ok (.ior, 1) := by decide +kernel
theorem dX0_called_17 : decode cX0_called 17 = .ok (.ireturn, 1) := by decide +kernel
theorem dX0_ringUp_0 : decode cX0_ringUp 0 = .ok (.aload_n 0, 1) := by decide +kernel
theorem dX0_ringUp_1 : decode cX0_ringUp 1 = .ok (.getfield 47, 3) := by decide +kernel
theorem dX0_ringUp_4 : decode cX0_ringUp 4 = .ok (.istore_n 2, 1) := by decide +kernel
theorem dX0_ringUp_5 : decode cX0_ringUp 5 = .ok (.aload_n 0, 1) := by decide +kernel
theorem dX0_ringUp_6 : decode cX0_ringUp 6 = .ok (.aload_n 0, 1) := by decide +kernel
theorem dX0_ringUp_7 : decode cX0_ringUp 7 = .ok (.iload_n 1, 1) := by decide +kernel
theorem dX0_ringUp_8 : decode cX0_ringUp 8 = .ok (.iload_n 2, 1) := by decide +kernel
theorem dX0_ringUp_9 : decode cX0_ringUp 9 = .ok (.invokevirtual 83, 3) := by decide +kernel
theorem dX0_ringUp_12 : decode cX0_ringUp 12 = .ok (.putfield 47, 3) := by decide +kernel
theorem dX0_ringUp_15 : decode cX0_ringUp 15 = .ok (.aload_n 0, 1) := by decide +kernel
theorem dX0_ringUp_16 : decode cX0_ringUp 16 = .ok (.getfield 47, 3) := by decide +kernel
theorem dX0_ringUp_19 : decode cX0_ringUp 19 = .ok (.iload_n 2, 1) := by decide +kernel
theorem dX0_ringUp_20 : decode cX0_ringUp 20 = .ok (.if_icmp .eq 7, 3) := by decide +kernel
theorem dX0_ringUp_23 : decode cX0_ringUp 23 = .ok (.iconst 1, 1) := by decide +kernel
theorem dX0_ringUp_24 : decode cX0_ringUp 24 = .ok (.goto 4, 3) := by decide +kernel
theorem dX0_ringUp_27 : decode cX0_ringUp 27 = .ok (.iconst 0, 1) := by decide +kernel
theorem dX0_ringUp_28 : decode cX0_ringUp 28 = .ok (.invokestatic 79, 3) := by decide +kernel
theorem dX0_ringUp_31 : decode cX0_ringUp 31 = .ok (.ireturn, 1) := by decide +kernel
theorem dX0_behind_0 : decode cX0_behind 0 = .ok (.iload_n 1, 1) := by decide +kernel
theorem dX0_behind_1 : decode cX0_behind 1 = .ok (.istore_n 3, 1) := by decide +kernel
theorem dX0_behind_2 : decode cX0_behind 2 = .ok (.iconst 0, 1) := by decide +kernel
theorem dX0_behind_3 : decode cX0_behind 3 = .ok (.istore 4, 2) := by decide +kernel
theorem dX0_behind_5 : decode cX0_behind 5 = .ok (.iload 4, 2) := by decide +kernel
theorem dX0_behind_7 : decode cX0_behind 7 = .ok (.iload_n 2, 1) := by decide +kernel
theorem dX0_behind_8 : decode cX0_behind 8 = .ok (.if_icmp .ge 23, 3) := by decide +kernel
theorem dX0_behind_11 : decode cX0_behind 11 = .ok (.aload_n 0, 1) := by decide +kernel
theorem dX0_behind_12 : decode cX0_behind 12 = .ok (.iload_n 3, 1) := by decide +kernel
theorem dX0_behind_13 : decode cX0_behind 13 = .ok (.invokevirtual 86, 3) := by decide +kernel
theorem dX0_behind_16 : decode cX0_behind 16 = .ok (.ifCond .ne 15, 3) := by decide +kernel
theorem dX0_behind_19 : decode cX0_behind 19 = .ok (.aload_n 0, 1) := by decide +kernel
theorem dX0_behind_20 : decode cX0_behind 20 = .ok (.iload_n 3, 1) := by decide +kernel
theorem dX0_behind_21 : decode cX0_behind 21 = .ok (.invokevirtual 71, 3) := by decide +kernel
theorem dX0_behind_24 : decode cX0_behind 24 = .ok (.istore_n 3, 1) := by decide +kernel
theorem dX0_behind_25 : decode cX0_behind 25 = .ok (.iinc 4 1, 3) := by decide +kernel
theorem dX0_behind_28 : decode cX0_behind 28 = .ok (.goto (-23), 3) := by decide +kernel
theorem dX0_behind_31 : decode cX0_behind 31 = .ok (.iload_n 3, 1) := by decide +kernel
theorem dX0_behind_32 : decode cX0_behind 32 = .ok (.ireturn, 1) := by decide +kernel
theorem dX0_ringLength_0 : decode cX0_ringLength 0 = .ok (.aload_n 0, 1) := by decide +kernel
theorem dX0_ringLength_1 : decode cX0_ringLength 1 = .ok (.aload_n 0, 1) := by decide +kernel
theorem dX0_ringLength_2 : decode cX0_ringLength 2 = .ok (.getfield 47, 3) := by decide +kernel
theorem dX0_ringLength_5 : decode cX0_ringLength 5 = .ok (.sipush 256, 3) := by decide +kernel
theorem dX0_ringLength_8 : decode cX0_ringLength 8 = .ok (.invokevirtual 90, 3) := by decide +kernel
theorem dX0_ringLength_11 : decode cX0_ringLength 11 = .ok (.istore_n 1, 1) := by decide +kernel
theorem dX0_ringLength_12 : decode cX0_ringLength 12 = .ok (.aload_n 0, 1) := by decide +kernel
theorem dX0_ringLength_13 : decode cX0_ringLength 13 = .ok (.iload_n 1, 1) := by decide +kernel
theorem dX0_ringLength_14 : decode cX0_ringLength 14 = .ok (.invokevirtual 71, 3) := by decide +kernel
theorem dX0_ringLength_17 : decode cX0_ringLength 17 = .ok (.istore_n 2, 1) := by decide +kernel
theorem dX0_ringLength_18 : decode cX0_ringLength 18 = .ok (.iconst 1, 1) := by decide +kernel
theorem dX0_ringLength_19 : decode cX0_ringLength 19 = .ok (.istore_n 3, 1) := by decide +kernel
theorem dX0_ringLength_20 : decode cX0_ringLength 20 = .ok (.iconst 0, 1) := by decide +kernel
theorem dX0_ringLength_21 : decode cX0_ringLength 21 = .ok (.istore 4, 2) := by decide +kernel
theorem dX0_ringLength_23 : decode cX0_ringLength 23 = .ok (.iload 4, 2) := by decide +kernel
theorem dX0_ringLength_25 : decode cX0_ringLength 25 = .ok (.sipush 256, 3) := by decide +kernel
theorem dX0_ringLength_28 : decode cX0_ringLength 28 = .ok (.if_icmp .ge 23, 3) := by decide +kernel
theorem dX0_ringLength_31 : decode cX0_ringLength 31 = .ok (.iload_n 2, 1) := by decide +kernel
theorem dX0_ringLength_32 : decode cX0_ringLength 32 = .ok (.iload_n 1, 1) := by decide +kernel
theorem dX0_ringLength_33 : decode cX0_ringLength 33 = .ok (.if_icmp .eq 18, 3) := by decide +kernel
theorem dX0_ringLength_36 : decode cX0_ringLength 36 = .ok (.aload_n 0, 1) := by decide +kernel
theorem dX0_ringLength_37 : decode cX0_ringLength 37 = .ok (.iload_n 2, 1) := by decide +kernel
theorem dX0_ringLength_38 : decode cX0_ringLength 38 = .ok (.invokevirtual 71, 3) := by decide +kernel
theorem dX0_ringLength_41 : decode cX0_ringLength 41 = .ok (.istore_n 2, 1) := by decide +kernel
theorem dX0_ringLength_42 : decode cX0_ringLength 42 = .ok (.iinc 3 1, 3) := by decide +kernel
theorem dX0_ringLength_45 : decode cX0_ringLength 45 = .ok (.iinc 4 1, 3) := by decide +kernel
theorem dX0_ringLength_48 : decode cX0_ringLength 48 = .ok (.goto (-25), 3) := by decide +kernel
theorem dX0_ringLength_51 : decode cX0_ringLength 51 = .ok (.iload_n 3, 1) := by decide +kernel
theorem dX0_ringLength_52 : decode cX0_ringLength 52 = .ok (.ireturn, 1) := by decide +kernel
theorem dX0_roundsToRing_0 : decode cX0_roundsToRing 0 = .ok (.aload_n 0, 1) := by decide +kernel
theorem dX0_roundsToRing_1 : decode cX0_roundsToRing 1 = .ok (.getfield 47, 3) := by decide +kernel
theorem dX0_roundsToRing_4 : decode cX0_roundsToRing 4 = .ok (.istore_n 2, 1) := by decide +kernel
theorem dX0_roundsToRing_5 : decode cX0_roundsToRing 5 = .ok (.aload_n 0, 1) := by decide +kernel
theorem dX0_roundsToRing_6 : decode cX0_roundsToRing 6 = .ok (.aload_n 0, 1) := by decide +kernel
theorem dX0_roundsToRing_7 : decode cX0_roundsToRing 7 = .ok (.getfield 47, 3) := by decide +kernel
theorem dX0_roundsToRing_10 : decode cX0_roundsToRing 10 = .ok (.iload_n 1, 1) := by decide +kernel
theorem dX0_roundsToRing_11 : decode cX0_roundsToRing 11 = .ok (.invokevirtual 90, 3) := by decide +kernel
theorem dX0_roundsToRing_14 : decode cX0_roundsToRing 14 = .ok (.istore_n 3, 1) := by decide +kernel
theorem dX0_roundsToRing_15 : decode cX0_roundsToRing 15 = .ok (.iconst 0, 1) := by decide +kernel
theorem dX0_roundsToRing_16 : decode cX0_roundsToRing 16 = .ok (.istore 4, 2) := by decide +kernel
theorem dX0_roundsToRing_18 : decode cX0_roundsToRing 18 = .ok (.iconst 0, 1) := by decide +kernel
theorem dX0_roundsToRing_19 : decode cX0_roundsToRing 19 = .ok (.istore 5, 2) := by decide +kernel
theorem dX0_roundsToRing_21 : decode cX0_roundsToRing 21 = .ok (.iload 5, 2) := by decide +kernel
theorem dX0_roundsToRing_23 : decode cX0_roundsToRing 23 = .ok (.sipush 256, 3) := by decide +kernel
theorem dX0_roundsToRing_26 : decode cX0_roundsToRing 26 = .ok (.if_icmp .ge 29, 3) := by decide +kernel
theorem dX0_roundsToRing_29 : decode cX0_roundsToRing 29 = .ok (.iload_n 2, 1) := by decide +kernel
theorem dX0_roundsToRing_30 : decode cX0_roundsToRing 30 = .ok (.iload_n 3, 1) := by decide +kernel
theorem dX0_roundsToRing_31 : decode cX0_roundsToRing 31 = .ok (.if_icmp .eq 24, 3) := by decide +kernel
theorem dX0_roundsToRing_34 : decode cX0_roundsToRing 34 = .ok (.aload_n 0, 1) := by decide +kernel
theorem dX0_roundsToRing_35 : decode cX0_roundsToRing 35 = .ok (.iload_n 2, 1) := by decide +kernel
theorem dX0_roundsToRing_36 : decode cX0_roundsToRing 36 = .ok (.invokevirtual 71, 3) := by decide +kernel
theorem dX0_roundsToRing_39 : decode cX0_roundsToRing 39 = .ok (.istore_n 2, 1) := by decide +kernel
theorem dX0_roundsToRing_40 : decode cX0_roundsToRing 40 = .ok (.aload_n 0, 1) := by decide +kernel
theorem dX0_roundsToRing_41 : decode cX0_roundsToRing 41 = .ok (.iload_n 3, 1) := by decide +kernel
theorem dX0_roundsToRing_42 : decode cX0_roundsToRing 42 = .ok (.invokevirtual 71, 3) := by decide +kernel
theorem dX0_roundsToRing_45 : decode cX0_roundsToRing 45 = .ok (.istore_n 3, 1) := by decide +kernel
theorem dX0_roundsToRing_46 : decode cX0_roundsToRing 46 = .ok (.iinc 4 1, 3) := by decide +kernel
theorem dX0_roundsToRing_49 : decode cX0_roundsToRing 49 = .ok (.iinc 5 1, 3) := by decide +kernel
theorem dX0_roundsToRing_52 : decode cX0_roundsToRing 52 = .ok (.goto (-31), 3) := by decide +kernel
theorem dX0_roundsToRing_55 : decode cX0_roundsToRing 55 = .ok (.iload 4, 2) := by decide +kernel
theorem dX0_roundsToRing_57 : decode cX0_roundsToRing 57 = .ok (.ireturn, 1) := by decide +kernel
theorem dX0_lastOf_0 : decode cX0_lastOf 0 = .ok (.iload_n 1, 1) := by decide +kernel
theorem dX0_lastOf_1 : decode cX0_lastOf 1 = .ok (.istore_n 3, 1) := by decide +kernel
theorem dX0_lastOf_2 : decode cX0_lastOf 2 = .ok (.iconst (-1), 1) := by decide +kernel
theorem dX0_lastOf_3 : decode cX0_lastOf 3 = .ok (.istore 4, 2) := by decide +kernel
theorem dX0_lastOf_5 : decode cX0_lastOf 5 = .ok (.iconst 0, 1) := by decide +kernel
theorem dX0_lastOf_6 : decode cX0_lastOf 6 = .ok (.istore 5, 2) := by decide +kernel
theorem dX0_lastOf_8 : decode cX0_lastOf 8 = .ok (.iload 5, 2) := by decide +kernel
theorem dX0_lastOf_10 : decode cX0_lastOf 10 = .ok (.bipush 64, 2) := by decide +kernel
theorem dX0_lastOf_12 : decode cX0_lastOf 12 = .ok (.if_icmp .ge 28, 3) := by decide +kernel
theorem dX0_lastOf_15 : decode cX0_lastOf 15 = .ok (.iload_n 3, 1) := by decide +kernel
theorem dX0_lastOf_16 : decode cX0_lastOf 16 = .ok (.iload 4, 2) := by decide +kernel
theorem dX0_lastOf_18 : decode cX0_lastOf 18 = .ok (.if_icmp .eq 22, 3) := by decide +kernel
theorem dX0_lastOf_21 : decode cX0_lastOf 21 = .ok (.iload_n 3, 1) := by decide +kernel
theorem dX0_lastOf_22 : decode cX0_lastOf 22 = .ok (.istore 4, 2) := by decide +kernel
theorem dX0_lastOf_24 : decode cX0_lastOf 24 = .ok (.aload_n 0, 1) := by decide +kernel
theorem dX0_lastOf_25 : decode cX0_lastOf 25 = .ok (.iload_n 3, 1) := by decide +kernel
theorem dX0_lastOf_26 : decode cX0_lastOf 26 = .ok (.invokevirtual 71, 3) := by decide +kernel
theorem dX0_lastOf_29 : decode cX0_lastOf 29 = .ok (.iload_n 2, 1) := by decide +kernel
theorem dX0_lastOf_30 : decode cX0_lastOf 30 = .ok (.iand, 1) := by decide +kernel
theorem dX0_lastOf_31 : decode cX0_lastOf 31 = .ok (.iload_n 1, 1) := by decide +kernel
theorem dX0_lastOf_32 : decode cX0_lastOf 32 = .ok (.ior, 1) := by decide +kernel
theorem dX0_lastOf_33 : decode cX0_lastOf 33 = .ok (.istore_n 3, 1) := by decide +kernel
theorem dX0_lastOf_34 : decode cX0_lastOf 34 = .ok (.iinc 5 1, 3) := by decide +kernel
theorem dX0_lastOf_37 : decode cX0_lastOf 37 = .ok (.goto (-29), 3) := by decide +kernel
theorem dX0_lastOf_40 : decode cX0_lastOf 40 = .ok (.iload_n 3, 1) := by decide +kernel
theorem dX0_lastOf_41 : decode cX0_lastOf 41 = .ok (.ireturn, 1) := by decide +kernel
theorem dX1_init_0 : decode cX1_init 0 = .ok (.aload_n 0, 1) := by decide +kernel
theorem dX1_init_1 : decode cX1_init 1 = .ok (.invokespecial 3, 3) := by decide +kernel
theorem dX1_init_4 : decode cX1_init 4 = .ok (.aload_n 0, 1) := by decide +kernel
theorem dX1_init_5 : decode cX1_init 5 = .ok (.bipush 40, 2) := by decide +kernel
theorem dX1_init_7 : decode cX1_init 7 = .ok (.newarray .long, 2) := by decide +kernel
theorem dX1_init_9 : decode cX1_init 9 = .ok (.putfield 9, 3) := by decide +kernel
theorem dX1_init_12 : decode cX1_init 12 = .ok (.return_, 1) := by decide +kernel
theorem dX1_isMissing_0 : decode cX1_isMissing 0 = .ok (.aload_n 0, 1) := by decide +kernel
theorem dX1_isMissing_1 : decode cX1_isMissing 1 = .ok (.getfield 15, 3) := by decide +kernel
theorem dX1_isMissing_4 : decode cX1_isMissing 4 = .ok (.ifCond .ne 7, 3) := by decide +kernel
theorem dX1_isMissing_7 : decode cX1_isMissing 7 = .ok (.iconst 1, 1) := by decide +kernel
theorem dX1_isMissing_8 : decode cX1_isMissing 8 = .ok (.goto 4, 3) := by decide +kernel
theorem dX1_isMissing_11 : decode cX1_isMissing 11 = .ok (.iconst 0, 1) := by decide +kernel
theorem dX1_isMissing_12 : decode cX1_isMissing 12 = .ok (.ireturn, 1) := by decide +kernel
theorem dX1_lay_0 : decode cX1_lay 0 = .ok (.aload_n 0, 1) := by decide +kernel
theorem dX1_lay_1 : decode cX1_lay 1 = .ok (.iload_n 1, 1) := by decide +kernel
theorem dX1_lay_2 : decode cX1_lay 2 = .ok (.putfield 15, 3) := by decide +kernel
theorem dX1_lay_5 : decode cX1_lay 5 = .ok (.aload_n 0, 1) := by decide +kernel
theorem dX1_lay_6 : decode cX1_lay 6 = .ok (.iload_n 1, 1) := by decide +kernel
theorem dX1_lay_7 : decode cX1_lay 7 = .ok (.ifCond .ne 7, 3) := by decide +kernel
theorem dX1_lay_10 : decode cX1_lay 10 = .ok (.iconst 0, 1) := by decide +kernel
theorem dX1_lay_11 : decode cX1_lay 11 = .ok (.goto 4, 3) := by decide +kernel
theorem dX1_lay_14 : decode cX1_lay 14 = .ok (.iload_n 2, 1) := by decide +kernel
theorem dX1_lay_15 : decode cX1_lay 15 = .ok (.putfield 19, 3) := by decide +kernel
theorem dX1_lay_18 : decode cX1_lay 18 = .ok (.aload_n 0, 1) := by decide +kernel
theorem dX1_lay_19 : decode cX1_lay 19 = .ok (.getfield 9, 3) := by decide +kernel
theorem dX1_lay_22 : decode cX1_lay 22 = .ok (.lconst 0, 1) := by decide +kernel
theorem dX1_lay_23 : decode cX1_lay 23 = .ok (.invokestatic 22, 3) := by decide +kernel
theorem dX1_lay_26 : decode cX1_lay 26 = .ok (.aload_n 0, 1) := by decide +kernel
theorem dX1_lay_27 : decode cX1_lay 27 = .ok (.getfield 19, 3) := by decide +kernel
theorem dX1_lay_30 : decode cX1_lay 30 = .ok (.ireturn, 1) := by decide +kernel
theorem dX1_put_0 : decode cX1_put 0 = .ok (.aload_n 0, 1) := by decide +kernel
theorem dX1_put_1 : decode cX1_put 1 = .ok (.getfield 9, 3) := by decide +kernel
theorem dX1_put_4 : decode cX1_put 4 = .ok (.iload_n 1, 1) := by decide +kernel
theorem dX1_put_5 : decode cX1_put 5 = .ok (.laload, 1) := by decide +kernel
theorem dX1_put_6 : decode cX1_put 6 = .ok (.lstore 4, 2) := by decide +kernel
theorem dX1_put_8 : decode cX1_put 8 = .ok (.aload_n 0, 1) := by decide +kernel
theorem dX1_put_9 : decode cX1_put 9 = .ok (.getfield 9, 3) := by decide +kernel
theorem dX1_put_12 : decode cX1_put 12 = .ok (.iload_n 1, 1) := by decide +kernel
theorem dX1_put_13 : decode cX1_put 13 = .ok (.aload_n 0, 1) := by decide +kernel
theorem dX1_put_14 : decode cX1_put 14 = .ok (.getfield 15, 3) := by decide +kernel
theorem dX1_put_17 : decode cX1_put 17 = .ok (.bipush 8, 2) := by decide +kernel
theorem dX1_put_19 : decode cX1_put 19 = .ok (.if_icmp .ne 10, 3) := by decide +kernel
theorem dX1_put_22 : decode cX1_put 22 = .ok (.lload_n 2, 1) := by decide +kernel
theorem dX1_put_23 : decode cX1_put 23 = .ok (.l2i, 1) := by decide +kernel
theorem dX1_put_24 : decode cX1_put 24 = .ok (.i2b, 1) := by decide +kernel
theorem dX1_put_25 : decode cX1_put 25 = .ok (.i2l, 1) := by decide +kernel
theorem dX1_put_26 : decode cX1_put 26 = .ok (.goto 20, 3) := by decide +kernel
theorem dX1_put_29 : decode cX1_put 29 = .ok (.aload_n 0, 1) := by decide +kernel
theorem dX1_put_30 : decode cX1_put 30 = .ok (.getfield 15, 3) := by decide +kernel
theorem dX1_put_33 : decode cX1_put 33 = .ok (.bipush 16, 2) := by decide +kernel
theorem dX1_put_35 : decode cX1_put 35 = .ok (.if_icmp .ne 10, 3) := by decide +kernel
theorem dX1_put_38 : decode cX1_put 38 = .ok (.lload_n 2, 1) := by decide +kernel
theorem dX1_put_39 : decode cX1_put 39 = .ok (.l2i, 1) := by decide +kernel
theorem dX1_put_40 : decode cX1_put 40 = .ok (.i2s, 1) := by decide +kernel
theorem dX1_put_41 : decode cX1_put 41 = .ok (.i2l, 1) := by decide +kernel
theorem dX1_put_42 : decode cX1_put 42 = .ok (.goto 4, 3) := by decide +kernel
theorem dX1_put_45 : decode cX1_put 45 = .ok (.lload_n 2, 1) := by decide +kernel
theorem dX1_put_46 : decode cX1_put 46 = .ok (.lastore, 1) := by decide +kernel
theorem dX1_put_47 : decode cX1_put 47 = .ok (.lload 4, 2) := by decide +kernel
theorem dX1_put_49 : decode cX1_put 49 = .ok (.lreturn, 1) := by decide +kernel
theorem dX1_hasRun_0 : decode cX1_hasRun 0 = .ok (.iload_n 1, 1) := by decide +kernel
theorem dX1_hasRun_1 : decode cX1_hasRun 1 = .ok (.ifCond .lt 29, 3) := by decide +kernel
theorem dX1_hasRun_4 : decode cX1_hasRun 4 = .ok (.iload_n 2, 1) := by decide +kernel
theorem dX1_hasRun_5 : decode cX1_hasRun 5 = .ok (.ifCond .lt 25, 3) := by decide +kernel
theorem dX1_hasRun_8 : decode cX1_hasRun 8 = .ok (.iload_n 2, 1) := by decide +kernel
theorem dX1_hasRun_9 : decode cX1_hasRun 9 = .ok (.aload_n 0, 1) := by decide +kernel
theorem dX1_hasRun_10 : decode cX1_hasRun 10 = .ok (.getfield 19, 3) := by decide +kernel
theorem dX1_hasRun_13 : decode cX1_hasRun 13 = .ok (.if_icmp .gt 17, 3) := by decide +kernel
theorem dX1_hasRun_16 : decode cX1_hasRun 16 = .ok (.iload_n 1, 1) := by decide +kernel
theorem dX1_hasRun_17 : decode cX1_hasRun 17 = .ok (.aload_n 0, 1) := by decide +kernel
theorem dX1_hasRun_18 : decode cX1_hasRun 18 = .ok (.getfield 19, 3) := by decide +kernel
theorem dX1_hasRun_21 : decode cX1_hasRun 21 = .ok (.iload_n 2, 1) := by decide +kernel
theorem dX1_hasRun_22 : decode cX1_hasRun 22 = .ok (.isub, 1) := by decide +kernel
theorem dX1_hasRun_23 : decode cX1_hasRun 23 = .ok (.if_icmp .gt 7, 3) := by decide +kernel
theorem dX1_hasRun_26 : decode cX1_hasRun 26 = .ok (.iconst 1, 1) := by decide +kernel
theorem dX1_hasRun_27 : decode cX1_hasRun 27 = .ok (.goto 4, 3) := by decide +kernel
theorem dX1_hasRun_30 : decode cX1_hasRun 30 = .ok (.iconst 0, 1) := by decide +kernel
theorem dX1_hasRun_31 : decode cX1_hasRun 31 = .ok (.ireturn, 1) := by decide +kernel
theorem dX1_bitsAt_0 : decode cX1_bitsAt 0 = .ok (.aload_n 0, 1) := by decide +kernel
theorem dX1_bitsAt_1 : decode cX1_bitsAt 1 = .ok (.getfield 15, 3) := by decide +kernel
theorem dX1_bitsAt_4 : decode cX1_bitsAt 4 = .ok (.bipush 8, 2) := by decide +kernel
theorem dX1_bitsAt_6 : decode cX1_bitsAt 6 = .ok (.if_icmp .ne 16, 3) := by decide +kernel
theorem dX1_bitsAt_9 : decode cX1_bitsAt 9 = .ok (.aload_n 0, 1) := by decide +kernel
theorem dX1_bitsAt_10 : decode cX1_bitsAt 10 = .ok (.getfield 9, 3) := by decide +kernel
theorem dX1_bitsAt_13 : decode cX1_bitsAt 13 = .ok (.iload_n 1, 1) := by decide +kernel
theorem dX1_bitsAt_14 : decode cX1_bitsAt 14 = .ok (.laload, 1) := by decide +kernel
theorem dX1_bitsAt_15 : decode cX1_bitsAt 15 = .ok (.ldc2_w 28, 3) := by decide +kernel
theorem dX1_bitsAt_18 : decode cX1_bitsAt 18 = .ok (.land, 1) := by decide +kernel
theorem dX1_bitsAt_19 : decode cX1_bitsAt 19 = .ok (.goto 31, 3) := by decide +kernel
theorem dX1_bitsAt_22 : decode cX1_bitsAt 22 = .ok (.aload_n 0, 1) := by decide +kernel
theorem dX1_bitsAt_23 : decode cX1_bitsAt 23 = .ok (.getfield 15, 3) := by decide +kernel
theorem dX1_bitsAt_26 : decode cX1_bitsAt 26 = .ok (.bipush 16, 2) := by decide +kernel
theorem dX1_bitsAt_28 : decode cX1_bitsAt 28 = .ok (.if_icmp .ne 16, 3) := by decide +kernel
theorem dX1_bitsAt_31 : decode cX1_bitsAt 31 = .ok (.aload_n 0, 1) := by decide +kernel
theorem dX1_bitsAt_32 : decode cX1_bitsAt 32 = .ok (.getfield 9, 3) := by decide +kernel
theorem dX1_bitsAt_35 : decode cX1_bitsAt 35 = .ok (.iload_n 1, 1) := by decide +kernel
theorem dX1_bitsAt_36 : decode cX1_bitsAt 36 = .ok (.laload, 1) := by decide +kernel
theorem dX1_bitsAt_37 : decode cX1_bitsAt 37 = .ok (.ldc2_w 30, 3) := by decide +kernel
theorem dX1_bitsAt_40 : decode cX1_bitsAt 40 = .ok (.land, 1) := by decide +kernel
theorem dX1_bitsAt_41 : decode cX1_bitsAt 41 = .ok (.goto 9, 3) := by decide +kernel
theorem dX1_bitsAt_44 : decode cX1_bitsAt 44 = .ok (.aload_n 0, 1) := by decide +kernel
theorem dX1_bitsAt_45 : decode cX1_bitsAt 45 = .ok (.getfield 9, 3) := by decide +kernel
theorem dX1_bitsAt_48 : decode cX1_bitsAt 48 = .ok (.iload_n 1, 1) := by decide +kernel
theorem dX1_bitsAt_49 : decode cX1_bitsAt 49 = .ok (.laload, 1) := by decide +kernel
theorem dX1_bitsAt_50 : decode cX1_bitsAt 50 = .ok (.lreturn, 1) := by decide +kernel
theorem dX1_holdsOnly_0 : decode cX1_holdsOnly 0 = .ok (.iconst 0, 1) := by decide +kernel
theorem dX1_holdsOnly_1 : decode cX1_holdsOnly 1 = .ok (.istore_n 2, 1) := by decide +kernel
theorem dX1_holdsOnly_2 : decode cX1_holdsOnly 2 = .ok (.iload_n 2, 1) := by decide +kernel
theorem dX1_holdsOnly_3 : decode cX1_holdsOnly 3 = .ok (.aload_n 0, 1) := by decide +kernel
theorem dX1_holdsOnly_4 : decode cX1_holdsOnly 4 = .ok (.getfield 19, 3) := by decide +kernel
theorem dX1_holdsOnly_7 : decode cX1_holdsOnly 7 = .ok (.if_icmp .ge 28, 3) := by decide +kernel
theorem dX1_holdsOnly_10 : decode cX1_holdsOnly 10 = .ok (.aload_n 0, 1) := by decide +kernel
theorem dX1_holdsOnly_11 : decode cX1_holdsOnly 11 = .ok (.iload_n 2, 1) := by decide +kernel
theorem dX1_holdsOnly_12 : decode cX1_holdsOnly 12 = .ok (.invokevirtual 32, 3) := by decide +kernel
theorem dX1_holdsOnly_15 : decode cX1_holdsOnly 15 = .ok (.iload_n 1, 1) := by decide +kernel
theorem dX1_holdsOnly_16 : decode cX1_holdsOnly 16 = .ok (.i2l, 1) := by decide +kernel
theorem dX1_holdsOnly_17 : decode cX1_holdsOnly 17 = .ok (.ldc2_w 36, 3) := by decide +kernel
theorem dX1_holdsOnly_20 : decode cX1_holdsOnly 20 = .ok (.lxor, 1) := by decide +kernel
theorem dX1_holdsOnly_21 : decode cX1_holdsOnly 21 = .ok (.land, 1) := by decide +kernel
theorem dX1_holdsOnly_22 : decode cX1_holdsOnly 22 = .ok (.lconst 0, 1) := by decide +kernel
theorem dX1_holdsOnly_23 : decode cX1_holdsOnly 23 = .ok (.lcmp, 1) := by decide +kernel
theorem dX1_holdsOnly_24 : decode cX1_holdsOnly 24 = .ok (.ifCond .eq 5, 3) := by decide +kernel
theorem dX1_holdsOnly_27 : decode cX1_holdsOnly 27 = .ok (.iconst 0, 1) := by decide +kernel
theorem dX1_holdsOnly_28 : decode cX1_holdsOnly 28 = .ok (.ireturn, 1) := by decide +kernel
theorem dX1_holdsOnly_29 : decode cX1_holdsOnly 29 = .ok (.iinc 2 1, 3) := by decide +kernel
theorem dX1_holdsOnly_32 : decode cX1_holdsOnly 32 = .ok (.goto (-30), 3) := by decide +kernel
theorem dX1_holdsOnly_35 : decode cX1_holdsOnly 35 = .ok (.iconst 1, 1) := by decide +kernel
theorem dX1_holdsOnly_36 : decode cX1_holdsOnly 36 = .ok (.ireturn, 1) := by decide +kernel
theorem dX1_listAt_0 : decode cX1_listAt 0 = .ok (.aload_n 0, 1) := by decide +kernel
theorem dX1_listAt_1 : decode cX1_listAt 1 = .ok (.iload_n 1, 1) := by decide +kernel
theorem dX1_listAt_2 : decode cX1_listAt 2 = .ok (.invokevirtual 32, 3) := by decide +kernel
theorem dX1_listAt_5 : decode cX1_listAt 5 = .ok (.l2i, 1) := by decide +kernel
theorem dX1_listAt_6 : decode cX1_listAt 6 = .ok (.sipush 255, 3) := by decide +kernel
theorem dX1_listAt_9 : decode cX1_listAt 9 = .ok (.iand, 1) := by decide +kernel
theorem dX1_listAt_10 : decode cX1_listAt 10 = .ok (.ireturn, 1) := by decide +kernel
theorem dX2_init_0 : decode cX2_init 0 = .ok (.aload_n 0, 1) := by decide +kernel
theorem dX2_init_1 : decode cX2_init 1 = .ok (.invokespecial 3, 3) := by decide +kernel
theorem dX2_init_4 : decode cX2_init 4 = .ok (.aload_n 0, 1) := by decide +kernel
theorem dX2_init_5 : decode cX2_init 5 = .ok (.bipush 60, 2) := by decide +kernel
theorem dX2_init_7 : decode cX2_init 7 = .ok (.newarray .int, 2) := by decide +kernel
theorem dX2_init_9 : decode cX2_init 9 = .ok (.putfield 9, 3) := by decide +kernel
theorem dX2_init_12 : decode cX2_init 12 = .ok (.aload_n 0, 1) := by decide +kernel
theorem dX2_init_13 : decode cX2_init 13 = .ok (.iconst (-1), 1) := by decide +kernel
theorem dX2_init_14 : decode cX2_init 14 = .ok (.putfield 15, 3) := by decide +kernel
theorem dX2_init_17 : decode cX2_init 17 = .ok (.return_, 1) := by decide +kernel
theorem dX2_append_0 : decode cX2_append 0 = .ok (.iload_n 2, 1) := by decide +kernel
theorem dX2_append_1 : decode cX2_append 1 = .ok (.iconst 1, 1) := by decide +kernel
theorem dX2_append_2 : decode cX2_append 2 = .ok (.isub, 1) := by decide +kernel
theorem dX2_append_3 : decode cX2_append 3 = .ok (.istore_n 3, 1) := by decide +kernel
theorem dX2_append_4 : decode cX2_append 4 = .ok (.iload_n 3, 1) := by decide +kernel
theorem dX2_append_5 : decode cX2_append 5 = .ok (.ifCond .lt 38, 3) := by decide +kernel
theorem dX2_append_8 : decode cX2_append 8 = .ok (.aload_n 0, 1) := by decide +kernel
theorem dX2_append_9 : decode cX2_append 9 = .ok (.getfield 9, 3) := by decide +kernel
theorem dX2_append_12 : decode cX2_append 12 = .ok (.aload_n 0, 1) := by decide +kernel
theorem dX2_append_13 : decode cX2_append 13 = .ok (.getfield 19, 3) := by decide +kernel
theorem dX2_append_16 : decode cX2_append 16 = .ok (.iload_n 1, 1) := by decide +kernel
theorem dX2_append_17 : decode cX2_append 17 = .ok (.bipush 8, 2) := by decide +kernel
theorem dX2_append_19 : decode cX2_append 19 = .ok (.iload_n 3, 1) := by decide +kernel
theorem dX2_append_20 : decode cX2_append 20 = .ok (.imul, 1) := by decide +kernel
theorem dX2_append_21 : decode cX2_append 21 = .ok (.iushr, 1) := by decide +kernel
theorem dX2_append_22 : decode cX2_append 22 = .ok (.sipush 255, 3) := by decide +kernel
theorem dX2_append_25 : decode cX2_append 25 = .ok (.iand, 1) := by decide +kernel
theorem dX2_append_26 : decode cX2_append 26 = .ok (.iastore, 1) := by decide +kernel
theorem dX2_append_27 : decode cX2_append 27 = .ok (.aload_n 0, 1) := by decide +kernel
theorem dX2_append_28 : decode cX2_append 28 = .ok (.dup, 1) := by decide +kernel
theorem dX2_append_29 : decode cX2_append 29 = .ok (.getfield 19, 3) := by decide +kernel
theorem dX2_append_32 : decode cX2_append 32 = .ok (.iconst 1, 1) := by decide +kernel
theorem dX2_append_33 : decode cX2_append 33 = .ok (.iadd, 1) := by decide +kernel
theorem dX2_append_34 : decode cX2_append 34 = .ok (.putfield 19, 3) := by decide +kernel
theorem dX2_append_37 : decode cX2_append 37 = .ok (.iinc 3 (-1), 3) := by decide +kernel
theorem dX2_append_40 : decode cX2_append 40 = .ok (.goto (-36), 3) := by decide +kernel
theorem dX2_append_43 : decode cX2_append 43 = .ok (.aload_n 0, 1) := by decide +kernel
theorem dX2_append_44 : decode cX2_append 44 = .ok (.getfield 19, 3) := by decide +kernel
theorem dX2_append_47 : decode cX2_append 47 = .ok (.ireturn, 1) := by decide +kernel
theorem dX2_holdsBy_0 : decode cX2_holdsBy 0 = .ok (.aload_n 0, 1) := by decide +kernel
theorem dX2_holdsBy_1 : decode cX2_holdsBy 1 = .ok (.iload_n 1, 1) := by decide +kernel
theorem dX2_holdsBy_2 : decode cX2_holdsBy 2 = .ok (.putfield 22, 3) := by decide +kernel
theorem dX2_holdsBy_5 : decode cX2_holdsBy 5 = .ok (.aload_n 0, 1) := by decide +kernel
theorem dX2_holdsBy_6 : decode cX2_holdsBy 6 = .ok (.iload_n 2, 1) := by decide +kernel
theorem dX2_holdsBy_7 : decode cX2_holdsBy 7 = .ok (.putfield 25, 3) := by decide +kernel
theorem dX2_holdsBy_10 : decode cX2_holdsBy 10 = .ok (.aload_n 0, 1) := by decide +kernel
theorem dX2_holdsBy_11 : decode cX2_holdsBy 11 = .ok (.iconst 0, 1) := by decide +kernel
theorem dX2_holdsBy_12 : decode cX2_holdsBy 12 = .ok (.putfield 28, 3) := by decide +kernel
theorem dX2_holdsBy_15 : decode cX2_holdsBy 15 = .ok (.aload_n 0, 1) := by decide +kernel
theorem dX2_holdsBy_16 : decode cX2_holdsBy 16 = .ok (.iconst (-1), 1) := by decide +kernel
theorem dX2_holdsBy_17 : decode cX2_holdsBy 17 = .ok (.putfield 15, 3) := by decide +kernel
theorem dX2_holdsBy_20 : decode cX2_holdsBy 20 = .ok (.aload_n 0, 1) := by decide +kernel
theorem dX2_holdsBy_21 : decode cX2_holdsBy 21 = .ok (.iconst 0, 1) := by decide +kernel
theorem dX2_holdsBy_22 : decode cX2_holdsBy 22 = .ok (.invokevirtual 31, 3) := by decide +kernel
theorem dX2_holdsBy_25 : decode cX2_holdsBy 25 = .ok (.lstore_n 3, 1) := by decide +kernel
theorem dX2_holdsBy_26 : decode cX2_holdsBy 26 = .ok (.aload_n 0, 1) := by decide +kernel
theorem dX2_holdsBy_27 : decode cX2_holdsBy 27 = .ok (.getfield 28, 3) := by decide +kernel
theorem dX2_holdsBy_30 : decode cX2_holdsBy 30 = .ok (.aload_n 0, 1) := by decide +kernel
theorem dX2_holdsBy_31 : decode cX2_holdsBy 31 = .ok (.getfield 19, 3) := by decide +kernel
theorem dX2_holdsBy_34 : decode cX2_holdsBy 34 = .ok (.if_icmp .ge 8, 3) := by decide +kernel
theorem dX2_holdsBy_37 : decode cX2_holdsBy 37 = .ok (.aload_n 0, 1) := by decide +kernel
theorem dX2_holdsBy_38 : decode cX2_holdsBy 38 = .ok (.invokevirtual 35, 3) := by decide +kernel
theorem dX2_holdsBy_41 : decode cX2_holdsBy 41 = .ok (.pop2, 1) := by decide +kernel
theorem dX2_holdsBy_42 : decode cX2_holdsBy 42 = .ok (.lload_n 3, 1) := by decide +kernel
theorem dX2_holdsBy_43 : decode cX2_holdsBy 43 = .ok (.lreturn, 1) := by decide +kernel
theorem dX2_anyOf_0 : decode cX2_anyOf 0 = .ok (.aload_n 0, 1) := by decide +kernel
theorem dX2_anyOf_1 : decode cX2_anyOf 1 = .ok (.iload_n 1, 1) := by decide +kernel
theorem dX2_anyOf_2 : decode cX2_anyOf 2 = .ok (.invokevirtual 39, 3) := by decide +kernel
theorem dX2_anyOf_5 : decode cX2_anyOf 5 = .ok (.lstore_n 2, 1) := by decide +kernel
theorem dX2_anyOf_6 : decode cX2_anyOf 6 = .ok (.iconst 0, 1) := by decide +kernel
theorem dX2_anyOf_7 : decode cX2_anyOf 7 = .ok (.istore 4, 2) := by decide +kernel
theorem dX2_anyOf_9 : decode cX2_anyOf 9 = .ok (.iload 4, 2) := by decide +kernel
theorem dX2_anyOf_11 : decode cX2_anyOf 11 = .ok (.bipush 60, 2) := by decide +kernel
theorem dX2_anyOf_13 : decode cX2_anyOf 13 = .ok (.if_icmp .ge 26, 3) := by decide +kernel
theorem dX2_anyOf_16 : decode cX2_anyOf 16 = .ok (.aload_n 0, 1) := by decide +kernel
theorem dX2_anyOf_17 : decode cX2_anyOf 17 = .ok (.bipush 124, 2) := by decide +kernel
theorem dX2_anyOf_19 : decode cX2_anyOf 19 = .ok (.invokevirtual 42, 3) := by decide +kernel
theorem dX2_anyOf_22 : decode cX2_anyOf 22 = .ok (.ifCond .eq 17, 3) := by decide +kernel
theorem dX2_anyOf_25 : decode cX2_anyOf 25 = .ok (.lload_n 2, 1) := by decide +kernel
theorem dX2_anyOf_26 : decode cX2_anyOf 26 = .ok (.aload_n 0, 1) := by decide +kernel
theorem dX2_anyOf_27 : decode cX2_anyOf 27 = .ok (.iload_n 1, 1) := by decide +kernel
theorem dX2_anyOf_28 : decode cX2_anyOf 28 = .ok (.invokevirtual 39, 3) := by decide +kernel
theorem dX2_anyOf_31 : decode cX2_anyOf 31 = .ok (.lor, 1) := by decide +kernel
theorem dX2_anyOf_32 : decode cX2_anyOf 32 = .ok (.lstore_n 2, 1) := by decide +kernel
theorem dX2_anyOf_33 : decode cX2_anyOf 33 = .ok (.iinc 4 1, 3) := by decide +kernel
theorem dX2_anyOf_36 : decode cX2_anyOf 36 = .ok (.goto (-27), 3) := by decide +kernel
theorem dX2_anyOf_39 : decode cX2_anyOf 39 = .ok (.lload_n 2, 1) := by decide +kernel
theorem dX2_anyOf_40 : decode cX2_anyOf 40 = .ok (.lreturn, 1) := by decide +kernel
theorem dX2_allOf_0 : decode cX2_allOf 0 = .ok (.aload_n 0, 1) := by decide +kernel
theorem dX2_allOf_1 : decode cX2_allOf 1 = .ok (.iload_n 1, 1) := by decide +kernel
theorem dX2_allOf_2 : decode cX2_allOf 2 = .ok (.invokevirtual 46, 3) := by decide +kernel
theorem dX2_allOf_5 : decode cX2_allOf 5 = .ok (.lstore_n 2, 1) := by decide +kernel
theorem dX2_allOf_6 : decode cX2_allOf 6 = .ok (.iconst 0, 1) := by decide +kernel
theorem dX2_allOf_7 : decode cX2_allOf 7 = .ok (.istore 4, 2) := by decide +kernel
theorem dX2_allOf_9 : decode cX2_allOf 9 = .ok (.iload 4, 2) := by decide +kernel
theorem dX2_allOf_11 : decode cX2_allOf 11 = .ok (.bipush 60, 2) := by decide +kernel
theorem dX2_allOf_13 : decode cX2_allOf 13 = .ok (.if_icmp .ge 26, 3) := by decide +kernel
theorem dX2_allOf_16 : decode cX2_allOf 16 = .ok (.aload_n 0, 1) := by decide +kernel
theorem dX2_allOf_17 : decode cX2_allOf 17 = .ok (.bipush 38, 2) := by decide +kernel
theorem dX2_allOf_19 : decode cX2_allOf 19 = .ok (.invokevirtual 42, 3) := by decide +kernel
theorem dX2_allOf_22 : decode cX2_allOf 22 = .ok (.ifCond .eq 17, 3) := by decide +kernel
theorem dX2_allOf_25 : decode cX2_allOf 25 = .ok (.lload_n 2, 1) := by decide +kernel
theorem dX2_allOf_26 : decode cX2_allOf 26 = .ok (.aload_n 0, 1) := by decide +kernel
theorem dX2_allOf_27 : decode cX2_allOf 27 = .ok (.iload_n 1, 1) := by decide +kernel
theorem dX2_allOf_28 : decode cX2_allOf 28 = .ok (.invokevirtual 46, 3) := by decide +kernel
theorem dX2_allOf_31 : decode cX2_allOf 31 = .ok (.land, 1) := by decide +kernel
theorem dX2_allOf_32 : decode cX2_allOf 32 = .ok (.lstore_n 2, 1) := by decide +kernel
theorem dX2_allOf_33 : decode cX2_allOf 33 = .ok (.iinc 4 1, 3) := by decide +kernel
theorem dX2_allOf_36 : decode cX2_allOf 36 = .ok (.goto (-27), 3) := by decide +kernel
theorem dX2_allOf_39 : decode cX2_allOf 39 = .ok (.lload_n 2, 1) := by decide +kernel
theorem dX2_allOf_40 : decode cX2_allOf 40 = .ok (.lreturn, 1) := by decide +kernel
theorem dX2_unit_0 : decode cX2_unit 0 = .ok (.aload_n 0, 1) := by decide +kernel
theorem dX2_unit_1 : decode cX2_unit 1 = .ok (.invokevirtual 49, 3) := by decide +kernel
theorem dX2_unit_4 : decode cX2_unit 4 = .ok (.istore_n 2, 1) := by decide +kernel
theorem dX2_unit_5 : decode cX2_unit 5 = .ok (.iload_n 2, 1) := by decide +kernel
theorem dX2_unit_6 : decode cX2_unit 6 = .ok (.bipush 97, 2) := by decide +kernel
theorem dX2_unit_8 : decode cX2_unit 8 = .ok (.if_icmp .lt 28, 3) := by decide +kernel
theorem dX2_unit_11 : decode cX2_unit 11 = .ok (.iload_n 2, 1) := by decide +kernel
theorem dX2_unit_12 : decode cX2_unit 12 = .ok (.bipush 104, 2) := by decide +kernel
theorem dX2_unit_14 : decode cX2_unit 14 = .ok (.if_icmp .gt 22, 3) := by decide +kernel
theorem dX2_unit_17 : decode cX2_unit 17 = .ok (.aload_n 0, 1) := by decide +kernel
theorem dX2_unit_18 : decode cX2_unit 18 = .ok (.dup, 1) := by decide +kernel
theorem dX2_unit_19 : decode cX2_unit 19 = .ok (.getfield 28, 3) := by decide +kernel
theorem dX2_unit_22 : decode cX2_unit 22 = .ok (.iconst 1, 1) := by decide +kernel
theorem dX2_unit_23 : decode cX2_unit 23 = .ok (.iadd, 1) := by decide +kernel
theorem dX2_unit_24 : decode cX2_unit 24 = .ok (.putfield 28, 3) := by decide +kernel
theorem dX2_unit_27 : decode cX2_unit 27 = .ok (.aload_n 0, 1) := by decide +kernel
theorem dX2_unit_28 : decode cX2_unit 28 = .ok (.iload_n 2, 1) := by decide +kernel
theorem dX2_unit_29 : decode cX2_unit 29 = .ok (.bipush 97, 2) := by decide +kernel
theorem dX2_unit_31 : decode cX2_unit 31 = .ok (.isub, 1) := by decide +kernel
theorem dX2_unit_32 : decode cX2_unit 32 = .ok (.invokevirtual 53, 3) := by decide +kernel
theorem dX2_unit_35 : decode cX2_unit 35 = .ok (.lreturn, 1) := by decide +kernel
theorem dX2_unit_36 : decode cX2_unit 36 = .ok (.iload_n 1, 1) := by decide +kernel
theorem dX2_unit_37 : decode cX2_unit 37 = .ok (.bipush 6, 2) := by decide +kernel
theorem dX2_unit_39 : decode cX2_unit 39 = .ok (.if_icmp .ge 24, 3) := by decide +kernel
theorem dX2_unit_42 : decode cX2_unit 42 = .ok (.aload_n 0, 1) := by decide +kernel
theorem dX2_unit_43 : decode cX2_unit 43 = .ok (.bipush 33, 2) := by decide +kernel
theorem dX2_unit_45 : decode cX2_unit 45 = .ok (.invokevirtual 42, 3) := by decide +kernel
theorem dX2_unit_48 : decode cX2_unit 48 = .ok (.ifCond .eq 15, 3) := by decide +kernel
theorem dX2_unit_51 : decode cX2_unit 51 = .ok (.aload_n 0, 1) := by decide +kernel
theorem dX2_unit_52 : decode cX2_unit 52 = .ok (.iload_n 1, 1) := by decide +kernel
theorem dX2_unit_53 : decode cX2_unit 53 = .ok (.iconst 1, 1) := by decide +kernel
theorem dX2_unit_54 : decode cX2_unit 54 = .ok (.iadd, 1) := by decide +kernel
theorem dX2_unit_55 : decode cX2_unit 55 = .ok (.invokevirtual 46, 3) := by decide +kernel
theorem dX2_unit_58 : decode cX2_unit 58 = .ok (.ldc2_w 56, 3) := by decide +kernel
theorem dX2_unit_61 : decode cX2_unit 61 = .ok (.lxor, 1) := by decide +kernel
theorem dX2_unit_62 : decode cX2_unit 62 = .ok (.lreturn, 1) := by decide +kernel
theorem dX2_unit_63 : decode cX2_unit 63 = .ok (.iload_n 1, 1) := by decide +kernel
theorem dX2_unit_64 : decode cX2_unit 64 = .ok (.bipush 6, 2) := by decide +kernel
theorem dX2_unit_66 : decode cX2_unit 66 = .ok (.if_icmp .ge 24, 3) := by decide +kernel
theorem dX2_unit_69 : decode cX2_unit 69 = .ok (.aload_n 0, 1) := by decide +kernel
theorem dX2_unit_70 : decode cX2_unit 70 = .ok (.bipush 40, 2) := by decide +kernel
theorem dX2_unit_72 : decode cX2_unit 72 = .ok (.invokevirtual 42, 3) := by decide +kernel
theorem dX2_unit_75 : decode cX2_unit 75 = .ok (.ifCond .eq 15, 3) := by decide +kernel
theorem dX2_unit_78 : decode cX2_unit 78 = .ok (.aload_n 0, 1) := by decide +kernel
theorem dX2_unit_79 : decode cX2_unit 79 = .ok (.aload_n 0, 1) := by decide +kernel
theorem dX2_unit_80 : decode cX2_unit 80 = .ok (.iload_n 1, 1) := by decide +kernel
theorem dX2_unit_81 : decode cX2_unit 81 = .ok (.iconst 1, 1) := by decide +kernel
theorem dX2_unit_82 : decode cX2_unit 82 = .ok (.iadd, 1) := by decide +kernel
theorem dX2_unit_83 : decode cX2_unit 83 = .ok (.invokevirtual 31, 3) := by decide +kernel
theorem dX2_unit_86 : decode cX2_unit 86 = .ok (.invokevirtual 58, 3) := by decide +kernel
theorem dX2_unit_89 : decode cX2_unit 89 = .ok (.lreturn, 1) := by decide +kernel
theorem dX2_unit_90 : decode cX2_unit 90 = .ok (.aload_n 0, 1) := by decide +kernel
theorem dX2_unit_91 : decode cX2_unit 91 = .ok (.bipush 110, 2) := by decide +kernel
theorem dX2_unit_93 : decode cX2_unit 93 = .ok (.invokevirtual 42, 3) := by decide +kernel
theorem dX2_unit_96 : decode cX2_unit 96 = .ok (.ifCond .eq 8, 3) := by decide +kernel
theorem dX2_unit_99 : decode cX2_unit 99 = .ok (.aload_n 0, 1) := by decide +kernel
theorem dX2_unit_100 : decode cX2_unit 100 = .ok (.invokevirtual 62, 3) := by decide +kernel
theorem dX2_unit_103 : decode cX2_unit 103 = .ok (.lreturn, 1) := by decide +kernel
theorem dX2_unit_104 : decode cX2_unit 104 = .ok (.aload_n 0, 1) := by decide +kernel
theorem dX2_unit_105 : decode cX2_unit 105 = .ok (.bipush 49, 2) := by decide +kernel
theorem dX2_unit_107 : decode cX2_unit 107 = .ok (.invokevirtual 42, 3) := by decide +kernel
theorem dX2_unit_110 : decode cX2_unit 110 = .ok (.ifCond .eq 7, 3) := by decide +kernel
theorem dX2_unit_113 : decode cX2_unit 113 = .ok (.ldc2_w 56, 3) := by decide +kernel
theorem dX2_unit_116 : decode cX2_unit 116 = .ok (.lreturn, 1) := by decide +kernel
theorem dX2_unit_117 : decode cX2_unit 117 = .ok (.aload_n 0, 1) := by decide +kernel
theorem dX2_unit_118 : decode cX2_unit 118 = .ok (.bipush 48, 2) := by decide +kernel
theorem dX2_unit_120 : decode cX2_unit 120 = .ok (.invokevirtual 42, 3) := by decide +kernel
theorem dX2_unit_123 : decode cX2_unit 123 = .ok (.ifCond .eq 7, 3) := by decide +kernel
theorem dX2_unit_126 : decode cX2_unit 126 = .ok (.lconst 0, 1) := by decide +kernel
theorem dX2_unit_127 : decode cX2_unit 127 = .ok (.goto 7, 3) := by decide +kernel
theorem dX2_unit_130 : decode cX2_unit 130 = .ok (.aload_n 0, 1) := by decide +kernel
theorem dX2_unit_131 : decode cX2_unit 131 = .ok (.invokevirtual 35, 3) := by decide +kernel
theorem dX2_unit_134 : decode cX2_unit 134 = .ok (.lreturn, 1) := by decide +kernel
theorem dX2_closed_0 : decode cX2_closed 0 = .ok (.aload_n 0, 1) := by decide +kernel
theorem dX2_closed_1 : decode cX2_closed 1 = .ok (.bipush 41, 2) := by decide +kernel
theorem dX2_closed_3 : decode cX2_closed 3 = .ok (.invokevirtual 42, 3) := by decide +kernel
theorem dX2_closed_6 : decode cX2_closed 6 = .ok (.ifCond .eq 7, 3) := by decide +kernel
theorem dX2_closed_9 : decode cX2_closed 9 = .ok (.lload_n 1, 1) := by decide +kernel
theorem dX2_closed_10 : decode cX2_closed 10 = .ok (.goto 7, 3) := by decide +kernel
theorem dX2_closed_13 : decode cX2_closed 13 = .ok (.aload_n 0, 1) := by decide +kernel
theorem dX2_closed_14 : decode cX2_closed 14 = .ok (.invokevirtual 35, 3) := by decide +kernel
theorem dX2_closed_17 : decode cX2_closed 17 = .ok (.lreturn, 1) := by decide +kernel
theorem dX2_compared_0 : decode cX2_compared 0 = .ok (.aload_n 0, 1) := by decide +kernel
theorem dX2_compared_1 : decode cX2_compared 1 = .ok (.invokevirtual 49, 3) := by decide +kernel
theorem dX2_compared_4 : decode cX2_compared 4 = .ok (.istore_n 1, 1) := by decide +kernel
theorem dX2_compared_5 : decode cX2_compared 5 = .ok (.iload_n 1, 1) := by decide +kernel
theorem dX2_compared_6 : decode cX2_compared 6 = .ok (.bipush 60, 2) := by decide +kernel
theorem dX2_compared_8 : decode cX2_compared 8 = .ok (.if_icmp .eq 20, 3) := by decide +kernel
theorem dX2_compared_11 : decode cX2_compared 11 = .ok (.iload_n 1, 1) := by decide +kernel
theorem dX2_compared_12 : decode cX2_compared 12 = .ok (.bipush 61, 2) := by decide +kernel
theorem dX2_compared_14 : decode cX2_compared 14 = .ok (.if_icmp .eq 14, 3) := by decide +kernel
theorem dX2_compared_17 : decode cX2_compared 17 = .ok (.iload_n 1, 1) := by decide +kernel
theorem dX2_compared_18 : decode cX2_compared 18 = .ok (.bipush 62, 2) := by decide +kernel
theorem dX2_compared_20 : decode cX2_compared 20 = .ok (.if_icmp .eq 8, 3) := by decide +kernel
theorem dX2_compared_23 : decode cX2_compared 23 = .ok (.aload_n 0, 1) := by decide +kernel
theorem dX2_compared_24 : decode cX2_compared 24 = .ok (.invokevirtual 35, 3) := by decide +kernel
theorem dX2_compared_27 : decode cX2_compared 27 = .ok (.lreturn, 1) := by decide +kernel
theorem dX2_compared_28 : decode cX2_compared 28 = .ok (.aload_n 0, 1) := by decide +kernel
theorem dX2_compared_29 : decode cX2_compared 29 = .ok (.dup, 1) := by decide +kernel
theorem dX2_compared_30 : decode cX2_compared 30 = .ok (.getfield 28, 3) := by decide +kernel
theorem dX2_compared_33 : decode cX2_compared 33 = .ok (.iconst 1, 1) := by decide +kernel
theorem dX2_compared_34 : decode cX2_compared 34 = .ok (.iadd, 1) := by decide +kernel
theorem dX2_compared_35 : decode cX2_compared 35 = .ok (.putfield 28, 3) := by decide +kernel
theorem dX2_compared_38 : decode cX2_compared 38 = .ok (.aload_n 0, 1) := by decide +kernel
theorem dX2_compared_39 : decode cX2_compared 39 = .ok (.invokevirtual 49, 3) := by decide +kernel
theorem dX2_compared_42 : decode cX2_compared 42 = .ok (.istore_n 2, 1) := by decide +kernel
theorem dX2_compared_43 : decode cX2_compared 43 = .ok (.iload_n 2, 1) := by decide +kernel
theorem dX2_compared_44 : decode cX2_compared 44 = .ok (.bipush 48, 2) := by decide +kernel
theorem dX2_compared_46 : decode cX2_compared 46 = .ok (.if_icmp .lt 9, 3) := by decide +kernel
theorem dX2_compared_49 : decode cX2_compared 49 = .ok (.iload_n 2, 1) := by decide +kernel
theorem dX2_compared_50 : decode cX2_compared 50 = .ok (.bipush 57, 2) := by decide +kernel
theorem dX2_compared_52 : decode cX2_compared 52 = .ok (.if_icmp .le 8, 3) := by decide +kernel
theorem dX2_compared_55 : decode cX2_compared 55 = .ok (.aload_n 0, 1) := by decide +kernel
theorem dX2_compared_56 : decode cX2_compared 56 = .ok (.invokevirtual 35, 3) := by decide +kernel
theorem dX2_compared_59 : decode cX2_compared 59 = .ok (.lreturn, 1) := by decide +kernel
theorem dX2_compared_60 : decode cX2_compared 60 = .ok (.aload_n 0, 1) := by decide +kernel
theorem dX2_compared_61 : decode cX2_compared 61 = .ok (.dup, 1) := by decide +kernel
theorem dX2_compared_62 : decode cX2_compared 62 = .ok (.getfield 28, 3) := by decide +kernel
theorem dX2_compared_65 : decode cX2_compared 65 = .ok (.iconst 1, 1) := by decide +kernel
theorem dX2_compared_66 : decode cX2_compared 66 = .ok (.iadd, 1) := by decide +kernel
theorem dX2_compared_67 : decode cX2_compared 67 = .ok (.putfield 28, 3) := by decide +kernel
theorem dX2_compared_70 : decode cX2_compared 70 = .ok (.aload_n 0, 1) := by decide +kernel
theorem dX2_compared_71 : decode cX2_compared 71 = .ok (.iload_n 1, 1) := by decide +kernel
theorem dX2_compared_72 : decode cX2_compared 72 = .ok (.iload_n 2, 1) := by decide +kernel
theorem dX2_compared_73 : decode cX2_compared 73 = .ok (.bipush 48, 2) := by decide +kernel
theorem dX2_compared_75 : decode cX2_compared 75 = .ok (.isub, 1) := by decide +kernel
theorem dX2_compared_76 : decode cX2_compared 76 = .ok (.invokevirtual 65, 3) := by decide +kernel
theorem dX2_compared_79 : decode cX2_compared 79 = .ok (.lreturn, 1) := by decide +kernel
theorem dX2_listsWith_0 : decode cX2_listsWith 0 = .ok (.iload_n 1, 1) := by decide +kernel
theorem dX2_listsWith_1 : decode cX2_listsWith 1 = .ok (.getstatic 69, 3) := by decide +kernel
theorem dX2_listsWith_4 : decode cX2_listsWith 4 = .ok (.arraylength, 1) := by decide +kernel
theorem dX2_listsWith_5 : decode cX2_listsWith 5 = .ok (.if_icmp .ge 9, 3) := by decide +kernel
theorem dX2_listsWith_8 : decode cX2_listsWith 8 = .ok (.getstatic 69, 3) := by decide +kernel
theorem dX2_listsWith_11 : decode cX2_listsWith 11 = .ok (.iload_n 1, 1) := by decide +kernel
theorem dX2_listsWith_12 : decode cX2_listsWith 12 = .ok (.laload, 1) := by decide +kernel
theorem dX2_listsWith_13 : decode cX2_listsWith 13 = .ok (.lreturn, 1) := by decide +kernel
theorem dX2_listsWith_14 : decode cX2_listsWith 14 = .ok (.iload_n 1, 1) := by decide +kernel
theorem dX2_listsWith_15 : decode cX2_listsWith 15 = .ok (.getstatic 69, 3) := by decide +kernel
theorem dX2_listsWith_18 : decode cX2_listsWith 18 = .ok (.arraylength, 1) := by decide +kernel
theorem dX2_listsWith_19 : decode cX2_listsWith 19 = .ok (.isub, 1) := by decide +kernel
theorem dX2_listsWith_20 : decode cX2_listsWith 20 = .ok (.aload_n 0, 1) := by decide +kernel
theorem dX2_listsWith_21 : decode cX2_listsWith 21 = .ok (.getfield 25, 3) := by decide +kernel
theorem dX2_listsWith_24 : decode cX2_listsWith 24 = .ok (.invokestatic 73, 3) := by decide +kernel
theorem dX2_listsWith_27 : decode cX2_listsWith 27 = .ok (.ifCond .eq 9, 3) := by decide +kernel
theorem dX2_listsWith_30 : decode cX2_listsWith 30 = .ok (.ldc2_w 56, 3) := by decide +kernel
theorem dX2_listsWith_33 : decode cX2_listsWith 33 = .ok (.goto 4, 3) := by decide +kernel
theorem dX2_listsWith_36 : decode cX2_listsWith 36 = .ok (.lconst 0, 1) := by decide +kernel
theorem dX2_listsWith_37 : decode cX2_listsWith 37 = .ok (.lreturn, 1) := by decide +kernel
theorem dX2_listsWhereOthers_0 : decode cX2_listsWhereOthers 0 = .ok (.lconst 0, 1) := by decide +kernel
theorem dX2_listsWhereOthers_1 : decode cX2_listsWhereOthers 1 = .ok (.lstore_n 3, 1) := by decide +kernel
theorem dX2_listsWhereOthers_2 : decode cX2_listsWhereOthers 2 = .ok (.iconst 0, 1) := by decide +kernel
theorem dX2_listsWhereOthers_3 : decode cX2_listsWhereOthers 3 = .ok (.istore 5, 2) := by decide +kernel
theorem dX2_listsWhereOthers_5 : decode cX2_listsWhereOthers 5 = .ok (.iload 5, 2) := by decide +kernel
theorem dX2_listsWhereOthers_7 : decode cX2_listsWhereOthers 7 = .ok (.bipush 64, 2) := by decide +kernel
theorem dX2_listsWhereOthers_9 : decode cX2_listsWhereOthers 9 = .ok (.if_icmp .ge 106, 3) := by decide +kernel
theorem dX2_listsWhereOthers_12 : decode cX2_listsWhereOthers 12 = .ok (.aload_n 0, 1) := by decide +kernel
theorem dX2_listsWhereOthers_13 : decode cX2_listsWhereOthers 13 = .ok (.getfield 25, 3) := by decide +kernel
theorem dX2_listsWhereOthers_16 : decode cX2_listsWhereOthers 16 = .ok (.bipush 64, 2) := by decide +kernel
theorem dX2_listsWhereOthers_18 : decode cX2_listsWhereOthers 18 = .ok (.imul, 1) := by decide +kernel
theorem dX2_listsWhereOthers_19 : decode cX2_listsWhereOthers 19 = .ok (.iload 5, 2) := by decide +kernel
theorem dX2_listsWhereOthers_21 : decode cX2_listsWhereOthers 21 = .ok (.iadd, 1) := by decide +kernel
theorem dX2_listsWhereOthers_22 : decode cX2_listsWhereOthers 22 = .ok (.istore 6, 2) := by decide +kernel
theorem dX2_listsWhereOthers_24 : decode cX2_listsWhereOthers 24 = .ok (.iload 6, 2) := by decide +kernel
theorem dX2_listsWhereOthers_26 : decode cX2_listsWhereOthers 26 = .ok (.iconst 1, 1) := by decide +kernel
theorem dX2_listsWhereOthers_27 : decode cX2_listsWhereOthers 27 = .ok (.aload_n 0, 1) := by decide +kernel
theorem dX2_listsWhereOthers_28 : decode cX2_listsWhereOthers 28 = .ok (.getfield 22, 3) := by decide +kernel
theorem dX2_listsWhereOthers_31 : decode cX2_listsWhereOthers 31 = .ok (.ishl, 1) := by decide +kernel
theorem dX2_listsWhereOthers_32 : decode cX2_listsWhereOthers 32 = .ok (.iconst (-1), 1) := by decide +kernel
theorem dX2_listsWhereOthers_33 : decode cX2_listsWhereOthers 33 = .ok (.ixor, 1) := by decide +kernel
theorem dX2_listsWhereOthers_34 : decode cX2_listsWhereOthers 34 = .ok (.iand, 1) := by decide +kernel
theorem dX2_listsWhereOthers_35 : decode cX2_listsWhereOthers 35 = .ok (.invokestatic 77, 3) := by decide +kernel
theorem dX2_listsWhereOthers_38 : decode cX2_listsWhereOthers 38 = .ok (.istore 7, 2) := by decide +kernel
theorem dX2_listsWhereOthers_40 : decode cX2_listsWhereOthers 40 = .ok (.iload_n 1, 1) := by decide +kernel
theorem dX2_listsWhereOthers_41 : decode cX2_listsWhereOthers 41 = .ok (.bipush 60, 2) := by decide +kernel
theorem dX2_listsWhereOthers_43 : decode cX2_listsWhereOthers 43 = .ok (.if_icmp .ne 17, 3) := by decide +kernel
theorem dX2_listsWhereOthers_46 : decode cX2_listsWhereOthers 46 = .ok (.iload 7, 2) := by decide +kernel
theorem dX2_listsWhereOthers_48 : decode cX2_listsWhereOthers 48 = .ok (.iload_n 2, 1) := by decide +kernel
theorem dX2_listsWhereOthers_49 : decode cX2_listsWhereOthers 49 = .ok (.if_icmp .ge 7, 3) := by decide +kernel
theorem dX2_listsWhereOthers_52 : decode cX2_listsWhereOthers 52 = .ok (.iconst 1, 1) := by decide +kernel
theorem dX2_listsWhereOthers_53 : decode cX2_listsWhereOthers 53 = .ok (.goto 38, 3) := by decide +kernel
theorem dX2_listsWhereOthers_56 : decode cX2_listsWhereOthers 56 = .ok (.iconst 0, 1) := by decide +kernel
theorem dX2_listsWhereOthers_57 : decode cX2_listsWhereOthers 57 = .ok (.goto 34, 3) := by decide +kernel
theorem dX2_listsWhereOthers_60 : decode cX2_listsWhereOthers 60 = .ok (.iload_n 1, 1) := by decide +kernel
theorem dX2_listsWhereOthers_61 : decode cX2_listsWhereOthers 61 = .ok (.bipush 61, 2) := by decide +kernel
theorem dX2_listsWhereOthers_63 : decode cX2_listsWhereOthers 63 = .ok (.if_icmp .ne 17, 3) := by decide +kernel
theorem dX2_listsWhereOthers_66 : decode cX2_listsWhereOthers 66 = .ok (.iload 7, 2) := by decide +kernel
theorem dX2_listsWhereOthers_68 : decode cX2_listsWhereOthers 68 = .ok (.iload_n 2, 1) := by decide +kernel
theorem dX2_listsWhereOthers_69 : decode cX2_listsWhereOthers 69 = .ok (.if_icmp .ne 7, 3) := by decide +kernel
theorem dX2_listsWhereOthers_72 : decode cX2_listsWhereOthers 72 = .ok (.iconst 1, 1) := by decide +kernel
theorem dX2_listsWhereOthers_73 : decode cX2_listsWhereOthers 73 = .ok (.goto 18, 3) := by decide +kernel
theorem dX2_listsWhereOthers_76 : decode cX2_listsWhereOthers 76 = .ok (.iconst 0, 1) := by decide +kernel
theorem dX2_listsWhereOthers_77 : decode cX2_listsWhereOthers 77 = .ok (.goto 14, 3) := by decide +kernel
theorem dX2_listsWhereOthers_80 : decode cX2_listsWhereOthers 80 = .ok (.iload 7, 2) := by decide +kernel
theorem dX2_listsWhereOthers_82 : decode cX2_listsWhereOthers 82 = .ok (.iload_n 2, 1) := by decide +kernel
theorem dX2_listsWhereOthers_83 : decode cX2_listsWhereOthers 83 = .ok (.if_icmp .le 7, 3) := by decide +kernel
theorem dX2_listsWhereOthers_86 : decode cX2_listsWhereOthers 86 = .ok (.iconst 1, 1) := by decide +kernel
theorem dX2_listsWhereOthers_87 : decode cX2_listsWhereOthers 87 = .ok (.goto 4, 3) := by decide +kernel
theorem dX2_listsWhereOthers_90 : decode cX2_listsWhereOthers 90 = .ok (.iconst 0, 1) := by decide +kernel
theorem dX2_listsWhereOthers_91 : decode cX2_listsWhereOthers 91 = .ok (.istore 8, 2) := by decide +kernel
theorem dX2_listsWhereOthers_93 : decode cX2_listsWhereOthers 93 = .ok (.lload_n 3, 1) := by decide +kernel
theorem dX2_listsWhereOthers_94 : decode cX2_listsWhereOthers 94 = .ok (.iload 8, 2) := by decide +kernel
theorem dX2_listsWhereOthers_96 : decode cX2_listsWhereOthers 96 = .ok (.ifCond .eq 10, 3) := by decide +kernel
theorem dX2_listsWhereOthers_99 : decode cX2_listsWhereOthers 99 = .ok (.lconst 1, 1) := by decide +kernel
theorem dX2_listsWhereOthers_100 : decode cX2_listsWhereOthers 100 = .ok (.iload 5, 2) := by decide +kernel
theorem dX2_listsWhereOthers_102 : decode cX2_listsWhereOthers 102 = .ok (.lshl, 1) := by decide +kernel
theorem dX2_listsWhereOthers_103 : decode cX2_listsWhereOthers 103 = .ok (.goto 4, 3) := by decide +kernel
theorem dX2_listsWhereOthers_106 : decode cX2_listsWhereOthers 106 = .ok (.lconst 0, 1) := by decide +kernel
theorem dX2_listsWhereOthers_107 : decode cX2_listsWhereOthers 107 = .ok (.lor, 1) := by decide +kernel
theorem dX2_listsWhereOthers_108 : decode cX2_listsWhereOthers 108 = .ok (.lstore_n 3, 1) := by decide +kernel
theorem dX2_listsWhereOthers_109 : decode cX2_listsWhereOthers 109 = .ok (.iinc 5 1, 3) := by decide +kernel
theorem dX2_listsWhereOthers_112 : decode cX2_listsWhereOthers 112 = .ok (.goto (-107), 3) := by decide +kernel
theorem dX2_listsWhereOthers_115 : decode cX2_listsWhereOthers 115 = .ok (.lload_n 3, 1) := by decide +kernel
theorem dX2_listsWhereOthers_116 : decode cX2_listsWhereOthers 116 = .ok (.lreturn, 1) := by decide +kernel
theorem dX2_sign_0 : decode cX2_sign 0 = .ok (.aload_n 0, 1) := by decide +kernel
theorem dX2_sign_1 : decode cX2_sign 1 = .ok (.getfield 15, 3) := by decide +kernel
theorem dX2_sign_4 : decode cX2_sign 4 = .ok (.iconst (-1), 1) := by decide +kernel
theorem dX2_sign_5 : decode cX2_sign 5 = .ok (.if_icmp .ne 26, 3) := by decide +kernel
theorem dX2_sign_8 : decode cX2_sign 8 = .ok (.aload_n 0, 1) := by decide +kernel
theorem dX2_sign_9 : decode cX2_sign 9 = .ok (.getfield 28, 3) := by decide +kernel
theorem dX2_sign_12 : decode cX2_sign 12 = .ok (.aload_n 0, 1) := by decide +kernel
theorem dX2_sign_13 : decode cX2_sign 13 = .ok (.getfield 19, 3) := by decide +kernel
theorem dX2_sign_16 : decode cX2_sign 16 = .ok (.if_icmp .ge 15, 3) := by decide +kernel
theorem dX2_sign_19 : decode cX2_sign 19 = .ok (.aload_n 0, 1) := by decide +kernel
theorem dX2_sign_20 : decode cX2_sign 20 = .ok (.getfield 9, 3) := by decide +kernel
theorem dX2_sign_23 : decode cX2_sign 23 = .ok (.aload_n 0, 1) := by decide +kernel
theorem dX2_sign_24 : decode cX2_sign 24 = .ok (.getfield 28, 3) := by decide +kernel
theorem dX2_sign_27 : decode cX2_sign 27 = .ok (.iaload, 1) := by decide +kernel
theorem dX2_sign_28 : decode cX2_sign 28 = .ok (.goto 4, 3) := by decide +kernel
theorem dX2_sign_31 : decode cX2_sign 31 = .ok (.iconst (-1), 1) := by decide +kernel
theorem dX2_sign_32 : decode cX2_sign 32 = .ok (.ireturn, 1) := by decide +kernel
theorem dX2_passes_0 : decode cX2_passes 0 = .ok (.aload_n 0, 1) := by decide +kernel
theorem dX2_passes_1 : decode cX2_passes 1 = .ok (.invokevirtual 49, 3) := by decide +kernel
theorem dX2_passes_4 : decode cX2_passes 4 = .ok (.iload_n 1, 1) := by decide +kernel
theorem dX2_passes_5 : decode cX2_passes 5 = .ok (.if_icmp .ne 7, 3) := by decide +kernel
theorem dX2_passes_8 : decode cX2_passes 8 = .ok (.iconst 1, 1) := by decide +kernel
theorem dX2_passes_9 : decode cX2_passes 9 = .ok (.goto 4, 3) := by decide +kernel
theorem dX2_passes_12 : decode cX2_passes 12 = .ok (.iconst 0, 1) := by decide +kernel
theorem dX2_passes_13 : decode cX2_passes 13 = .ok (.istore_n 2, 1) := by decide +kernel
theorem dX2_passes_14 : decode cX2_passes 14 = .ok (.aload_n 0, 1) := by decide +kernel
theorem dX2_passes_15 : decode cX2_passes 15 = .ok (.dup, 1) := by decide +kernel
theorem dX2_passes_16 : decode cX2_passes 16 = .ok (.getfield 28, 3) := by decide +kernel
theorem dX2_passes_19 : decode cX2_passes 19 = .ok (.iload_n 2, 1) := by decide +kernel
theorem dX2_passes_20 : decode cX2_passes 20 = .ok (.invokestatic 83, 3) := by decide +kernel
theorem dX2_passes_23 : decode cX2_passes 23 = .ok (.iadd, 1) := by decide +kernel
theorem dX2_passes_24 : decode cX2_passes 24 = .ok (.putfield 28, 3) := by decide +kernel
theorem dX2_passes_27 : decode cX2_passes 27 = .ok (.iload_n 2, 1) := by decide +kernel
theorem dX2_passes_28 : decode cX2_passes 28 = .ok (.ireturn, 1) := by decide +kernel
theorem dX2_fail_0 : decode cX2_fail 0 = .ok (.aload_n 0, 1) := by decide +kernel
theorem dX2_fail_1 : decode cX2_fail 1 = .ok (.getfield 15, 3) := by decide +kernel
theorem dX2_fail_4 : decode cX2_fail 4 = .ok (.iconst (-1), 1) := by decide +kernel
theorem dX2_fail_5 : decode cX2_fail 5 = .ok (.if_icmp .ne 11, 3) := by decide +kernel
theorem dX2_fail_8 : decode cX2_fail 8 = .ok (.aload_n 0, 1) := by decide +kernel
theorem dX2_fail_9 : decode cX2_fail 9 = .ok (.aload_n 0, 1) := by decide +kernel
theorem dX2_fail_10 : decode cX2_fail 10 = .ok (.getfield 28, 3) := by decide +kernel
theorem dX2_fail_13 : decode cX2_fail 13 = .ok (.putfield 15, 3) := by decide +kernel
theorem dX2_fail_16 : decode cX2_fail 16 = .ok (.lconst 0, 1) := by decide +kernel
theorem dX2_fail_17 : decode cX2_fail 17 = .ok (.lreturn, 1) := by decide +kernel
theorem dX3_init_0 : decode cX3_init 0 = .ok (.aload_n 0, 1) := by decide +kernel
theorem dX3_init_1 : decode cX3_init 1 = .ok (.invokespecial 3, 3) := by decide +kernel
theorem dX3_init_4 : decode cX3_init 4 = .ok (.aload_n 0, 1) := by decide +kernel
theorem dX3_init_5 : decode cX3_init 5 = .ok (.sipush 256, 3) := by decide +kernel
theorem dX3_init_8 : decode cX3_init 8 = .ok (.newarray .int, 2) := by decide +kernel
theorem dX3_init_10 : decode cX3_init 10 = .ok (.putfield 9, 3) := by decide +kernel
theorem dX3_init_13 : decode cX3_init 13 = .ok (.aload_n 0, 1) := by decide +kernel
theorem dX3_init_14 : decode cX3_init 14 = .ok (.sipush 256, 3) := by decide +kernel
theorem dX3_init_17 : decode cX3_init 17 = .ok (.newarray .int, 2) := by decide +kernel
theorem dX3_init_19 : decode cX3_init 19 = .ok (.putfield 15, 3) := by decide +kernel
theorem dX3_init_22 : decode cX3_init 22 = .ok (.aload_n 0, 1) := by decide +kernel
theorem dX3_init_23 : decode cX3_init 23 = .ok (.sipush 256, 3) := by decide +kernel
theorem dX3_init_26 : decode cX3_init 26 = .ok (.newarray .int, 2) := by decide +kernel
theorem dX3_init_28 : decode cX3_init 28 = .ok (.putfield 18, 3) := by decide +kernel
theorem dX3_init_31 : decode cX3_init 31 = .ok (.return_, 1) := by decide +kernel
theorem dX3_nearestSettled_0 : decode cX3_nearestSettled 0 = .ok (.aload_n 0, 1) := by decide +kernel
theorem dX3_nearestSettled_1 : decode cX3_nearestSettled 1 = .ok (.getfield 15, 3) := by decide +kernel
theorem dX3_nearestSettled_4 : decode cX3_nearestSettled 4 = .ok (.iconst (-1), 1) := by decide +kernel
theorem dX3_nearestSettled_5 : decode cX3_nearestSettled 5 = .ok (.invokestatic 21, 3) := by decide +kernel
theorem dX3_nearestSettled_8 : decode cX3_nearestSettled 8 = .ok (.aload_n 1, 1) := by decide +kernel
theorem dX3_nearestSettled_9 : decode cX3_nearestSettled 9 = .ok (.getfield 27, 3) := by decide +kernel
theorem dX3_nearestSettled_12 : decode cX3_nearestSettled 12 = .ok (.sipush 255, 3) := by decide +kernel
theorem dX3_nearestSettled_15 : decode cX3_nearestSettled 15 = .ok (.iand, 1) := by decide +kernel
theorem dX3_nearestSettled_16 : decode cX3_nearestSettled 16 = .ok (.istore_n 2, 1) := by decide +kernel
theorem dX3_nearestSettled_17 : decode cX3_nearestSettled 17 = .ok (.aload_n 0, 1) := by decide +kernel
theorem dX3_nearestSettled_18 : decode cX3_nearestSettled 18 = .ok (.getfield 9, 3) := by decide +kernel
theorem dX3_nearestSettled_21 : decode cX3_nearestSettled 21 = .ok (.iconst 0, 1) := by decide +kernel
theorem dX3_nearestSettled_22 : decode cX3_nearestSettled 22 = .ok (.iload_n 2, 1) := by decide +kernel
theorem dX3_nearestSettled_23 : decode cX3_nearestSettled 23 = .ok (.iastore, 1) := by decide +kernel
theorem dX3_nearestSettled_24 : decode cX3_nearestSettled 24 = .ok (.aload_n 0, 1) := by decide +kernel
theorem dX3_nearestSettled_25 : decode cX3_nearestSettled 25 = .ok (.getfield 15, 3) := by decide +kernel
theorem dX3_nearestSettled_28 : decode cX3_nearestSettled 28 = .ok (.iload_n 2, 1) := by decide +kernel
theorem dX3_nearestSettled_29 : decode cX3_nearestSettled 29 = .ok (.iconst 0, 1) := by decide +kernel
theorem dX3_nearestSettled_30 : decode cX3_nearestSettled 30 = .ok (.iastore, 1) := by decide +kernel
theorem dX3_nearestSettled_31 : decode cX3_nearestSettled 31 = .ok (.aload_n 0, 1) := by decide +kernel
theorem dX3_nearestSettled_32 : decode cX3_nearestSettled 32 = .ok (.getfield 18, 3) := by decide +kernel
theorem dX3_nearestSettled_35 : decode cX3_nearestSettled 35 = .ok (.iload_n 2, 1) := by decide +kernel
theorem dX3_nearestSettled_36 : decode cX3_nearestSettled 36 = .ok (.iconst (-1), 1) := by decide +kernel
theorem dX3_nearestSettled_37 : decode cX3_nearestSettled 37 = .ok (.iastore, 1) := by decide +kernel
theorem dX3_nearestSettled_38 : decode cX3_nearestSettled 38 = .ok (.iconst 1, 1) := by decide +kernel
theorem dX3_nearestSettled_39 : decode cX3_nearestSettled 39 = .ok (.istore_n 3, 1) := by decide +kernel
theorem dX3_nearestSettled_40 : decode cX3_nearestSettled 40 = .ok (.iconst 0, 1) := by decide +kernel
theorem dX3_nearestSettled_41 : decode cX3_nearestSettled 41 = .ok (.istore 4, 2) := by decide +kernel
theorem dX3_nearestSettled_43 : decode cX3_nearestSettled 43 = .ok (.iload 4, 2) := by decide +kernel
theorem dX3_nearestSettled_45 : decode cX3_nearestSettled 45 = .ok (.iload_n 3, 1) := by decide +kernel
theorem dX3_nearestSettled_46 : decode cX3_nearestSettled 46 = .ok (.if_icmp .ge 53, 3) := by decide +kernel
theorem dX3_nearestSettled_49 : decode cX3_nearestSettled 49 = .ok (.iload 4, 2) := by decide +kernel
theorem dX3_nearestSettled_51 : decode cX3_nearestSettled 51 = .ok (.sipush 256, 3) := by decide +kernel
theorem dX3_nearestSettled_54 : decode cX3_nearestSettled 54 = .ok (.if_icmp .ge 45, 3) := by decide +kernel
theorem dX3_nearestSettled_57 : decode cX3_nearestSettled 57 = .ok (.aload_n 1, 1) := by decide +kernel
theorem dX3_nearestSettled_58 : decode cX3_nearestSettled 58 = .ok (.aload_n 0, 1) := by decide +kernel
theorem dX3_nearestSettled_59 : decode cX3_nearestSettled 59 = .ok (.getfield 9, 3) := by decide +kernel
theorem dX3_nearestSettled_62 : decode cX3_nearestSettled 62 = .ok (.iload 4, 2) := by decide +kernel
theorem dX3_nearestSettled_64 : decode cX3_nearestSettled 64 = .ok (.iaload, 1) := by decide +kernel
theorem dX3_nearestSettled_65 : decode cX3_nearestSettled 65 = .ok (.invokevirtual 33, 3) := by decide +kernel
theorem dX3_nearestSettled_68 : decode cX3_nearestSettled 68 = .ok (.ifCond .eq 11, 3) := by decide +kernel
theorem dX3_nearestSettled_71 : decode cX3_nearestSettled 71 = .ok (.aload_n 0, 1) := by decide +kernel
theorem dX3_nearestSettled_72 : decode cX3_nearestSettled 72 = .ok (.getfield 9, 3) := by decide +kernel
theorem dX3_nearestSettled_75 : decode cX3_nearestSettled 75 = .ok (.iload 4, 2) := by decide +kernel
theorem dX3_nearestSettled_77 : decode cX3_nearestSettled 77 = .ok (.iaload, 1) := by decide +kernel
theorem dX3_nearestSettled_78 : decode cX3_nearestSettled 78 = .ok (.ireturn, 1) := by decide +kernel
theorem dX3_nearestSettled_79 : decode cX3_nearestSettled 79 = .ok (.aload_n 0, 1) := by decide +kernel
theorem dX3_nearestSettled_80 : decode cX3_nearestSettled 80 = .ok (.aload_n 1, 1) := by decide +kernel
theorem dX3_nearestSettled_81 : decode cX3_nearestSettled 81 = .ok (.aload_n 0, 1) := by decide +kernel
theorem dX3_nearestSettled_82 : decode cX3_nearestSettled 82 = .ok (.getfield 9, 3) := by decide +kernel
theorem dX3_nearestSettled_85 : decode cX3_nearestSettled 85 = .ok (.iload 4, 2) := by decide +kernel
theorem dX3_nearestSettled_87 : decode cX3_nearestSettled 87 = .ok (.iaload, 1) := by decide +kernel
theorem dX3_nearestSettled_88 : decode cX3_nearestSettled 88 = .ok (.iload_n 3, 1) := by decide +kernel
theorem dX3_nearestSettled_89 : decode cX3_nearestSettled 89 = .ok (.invokevirtual 37, 3) := by decide +kernel
theorem dX3_nearestSettled_92 : decode cX3_nearestSettled 92 = .ok (.istore_n 3, 1) := by decide +kernel
theorem dX3_nearestSettled_93 : decode cX3_nearestSettled 93 = .ok (.iinc 4 1, 3) := by decide +kernel
theorem dX3_nearestSettled_96 : decode cX3_nearestSettled 96 = .ok (.goto (-53), 3) := by decide +kernel
theorem dX3_nearestSettled_99 : decode cX3_nearestSettled 99 = .ok (.iconst (-1), 1) := by decide +kernel
theorem dX3_nearestSettled_100 : decode cX3_nearestSettled 100 = .ok (.ireturn, 1) := by decide +kernel
theorem dX3_callAll_0 : decode cX3_callAll 0 = .ok (.iload_n 3, 1) := by decide +kernel
theorem dX3_callAll_1 : decode cX3_callAll 1 = .ok (.istore 4, 2) := by decide +kernel
theorem dX3_callAll_3 : decode cX3_callAll 3 = .ok (.iconst 0, 1) := by decide +kernel
theorem dX3_callAll_4 : decode cX3_callAll 4 = .ok (.istore 5, 2) := by decide +kernel
theorem dX3_callAll_6 : decode cX3_callAll 6 = .ok (.iload 5, 2) := by decide +kernel
theorem dX3_callAll_8 : decode cX3_callAll 8 = .ok (.aload_n 1, 1) := by decide +kernel
theorem dX3_callAll_9 : decode cX3_callAll 9 = .ok (.getfield 41, 3) := by decide +kernel
theorem dX3_callAll_12 : decode cX3_callAll 12 = .ok (.if_icmp .ge 95, 3) := by decide +kernel
theorem dX3_callAll_15 : decode cX3_callAll 15 = .ok (.aload_n 1, 1) := by decide +kernel
theorem dX3_callAll_16 : decode cX3_callAll 16 = .ok (.iload 5, 2) := by decide +kernel
theorem dX3_callAll_18 : decode cX3_callAll 18 = .ok (.iload_n 2, 1) := by decide +kernel
theorem dX3_callAll_19 : decode cX3_callAll 19 = .ok (.invokevirtual 44, 3) := by decide +kernel
theorem dX3_callAll_22 : decode cX3_callAll 22 = .ok (.sipush 255, 3) := by decide +kernel
theorem dX3_callAll_25 : decode cX3_callAll 25 = .ok (.iand, 1) := by decide +kernel
theorem dX3_callAll_26 : decode cX3_callAll 26 = .ok (.istore 6, 2) := by decide +kernel
theorem dX3_callAll_28 : decode cX3_callAll 28 = .ok (.aload_n 0, 1) := by decide +kernel
theorem dX3_callAll_29 : decode cX3_callAll 29 = .ok (.getfield 15, 3) := by decide +kernel
theorem dX3_callAll_32 : decode cX3_callAll 32 = .ok (.iload 6, 2) := by decide +kernel
theorem dX3_callAll_34 : decode cX3_callAll 34 = .ok (.iaload, 1) := by decide +kernel
theorem dX3_callAll_35 : decode cX3_callAll 35 = .ok (.iconst (-1), 1) := by decide +kernel
theorem dX3_callAll_36 : decode cX3_callAll 36 = .ok (.if_icmp .ne 65, 3) := by decide +kernel
theorem dX3_callAll_39 : decode cX3_callAll 39 = .ok (.iload 4, 2) := by decide +kernel
theorem dX3_callAll_41 : decode cX3_callAll 41 = .ok (.sipush 256, 3) := by decide +kernel
theorem dX3_callAll_44 : decode cX3_callAll 44 = .ok (.if_icmp .ge 57, 3) := by decide +kernel
theorem dX3_callAll_47 : decode cX3_callAll 47 = .ok (.aload_n 0, 1) := by decide +kernel
theorem dX3_callAll_48 : decode cX3_callAll 48 = .ok (.getfield 15, 3) := by decide +kernel
theorem dX3_callAll_51 : decode cX3_callAll 51 = .ok (.iload 6, 2) := by decide +kernel
theorem dX3_callAll_53 : decode cX3_callAll 53 = .ok (.aload_n 0, 1) := by decide +kernel
theorem dX3_callAll_54 : decode cX3_callAll 54 = .ok (.getfield 15, 3) := by decide +kernel
theorem dX3_callAll_57 : decode cX3_callAll 57 = .ok (.iload_n 2, 1) := by decide +kernel
theorem dX3_callAll_58 : decode cX3_callAll 58 = .ok (.iaload, 1) := by decide +kernel
theorem dX3_callAll_59 : decode cX3_callAll 59 = .ok (.iconst 1, 1) := by decide +kernel
theorem dX3_callAll_60 : decode cX3_callAll 60 = .ok (.iadd, 1) := by decide +kernel
theorem dX3_callAll_61 : decode cX3_callAll 61 = .ok (.iastore, 1) := by decide +kernel
theorem dX3_callAll_62 : decode cX3_callAll 62 = .ok (.aload_n 0, 1) := by decide +kernel
theorem dX3_callAll_63 : decode cX3_callAll 63 = .ok (.getfield 18, 3) := by decide +kernel
theorem dX3_callAll_66 : decode cX3_callAll 66 = .ok (.iload 6, 2) := by decide +kernel
theorem dX3_callAll_68 : decode cX3_callAll 68 = .ok (.aload_n 0, 1) := by decide +kernel
theorem dX3_callAll_69 : decode cX3_callAll 69 = .ok (.getfield 15, 3) := by decide +kernel
theorem dX3_callAll_72 : decode cX3_callAll 72 = .ok (.iload_n 2, 1) := by decide +kernel
theorem dX3_callAll_73 : decode cX3_callAll 73 = .ok (.iaload, 1) := by decide +kernel
theorem dX3_callAll_74 : decode cX3_callAll 74 = .ok (.ifCond .ne 8, 3) := by decide +kernel
theorem dX3_callAll_77 : decode cX3_callAll 77 = .ok (.iload 5, 2) := by decide +kernel
theorem dX3_callAll_79 : decode cX3_callAll 79 = .ok (.goto 9, 3) := by decide +kernel
theorem dX3_callAll_82 : decode cX3_callAll 82 = .ok (.aload_n 0, 1) := by decide +kernel
theorem dX3_callAll_83 : decode cX3_callAll 83 = .ok (.getfield 18, 3) := by decide +kernel
theorem dX3_callAll_86 : decode cX3_callAll 86 = .ok (.iload_n 2, 1) := by decide +kernel
theorem dX3_callAll_87 : decode cX3_callAll 87 = .ok (.iaload, 1) := by decide +kernel
theorem dX3_callAll_88 : decode cX3_callAll 88 = .ok (.iastore, 1) := by decide +kernel
theorem dX3_callAll_89 : decode cX3_callAll 89 = .ok (.aload_n 0, 1) := by decide +kernel
theorem dX3_callAll_90 : decode cX3_callAll 90 = .ok (.getfield 9, 3) := by decide +kernel
theorem dX3_callAll_93 : decode cX3_callAll 93 = .ok (.iload 4, 2) := by decide +kernel
theorem dX3_callAll_95 : decode cX3_callAll 95 = .ok (.iload 6, 2) := by decide +kernel
theorem dX3_callAll_97 : decode cX3_callAll 97 = .ok (.iastore, 1) := by decide +kernel
theorem dX3_callAll_98 : decode cX3_callAll 98 = .ok (.iinc 4 1, 3) := by decide +kernel
theorem dX3_callAll_101 : decode cX3_callAll 101 = .ok (.iinc 5 1, 3) := by decide +kernel
theorem dX3_callAll_104 : decode cX3_callAll 104 = .ok (.goto (-98), 3) := by decide +kernel
theorem dX3_callAll_107 : decode cX3_callAll 107 = .ok (.iload 4, 2) := by decide +kernel
theorem dX3_callAll_109 : decode cX3_callAll 109 = .ok (.ireturn, 1) := by decide +kernel
theorem dX3_callsTo_0 : decode cX3_callsTo 0 = .ok (.aload_n 0, 1) := by decide +kernel
theorem dX3_callsTo_1 : decode cX3_callsTo 1 = .ok (.getfield 15, 3) := by decide +kernel
theorem dX3_callsTo_4 : decode cX3_callsTo 4 = .ok (.iload_n 1, 1) := by decide +kernel
theorem dX3_callsTo_5 : decode cX3_callsTo 5 = .ok (.sipush 255, 3) := by decide +kernel
theorem dX3_callsTo_8 : decode cX3_callsTo 8 = .ok (.iand, 1) := by decide +kernel
theorem dX3_callsTo_9 : decode cX3_callsTo 9 = .ok (.iaload, 1) := by decide +kernel
theorem dX3_callsTo_10 : decode cX3_callsTo 10 = .ok (.ireturn, 1) := by decide +kernel
theorem dX3_firstCalledTo_0 : decode cX3_firstCalledTo 0 = .ok (.aload_n 0, 1) := by decide +kernel
theorem dX3_firstCalledTo_1 : decode cX3_firstCalledTo 1 = .ok (.getfield 18, 3) := by decide +kernel
theorem dX3_firstCalledTo_4 : decode cX3_firstCalledTo 4 = .ok (.iload_n 1, 1) := by decide +kernel
theorem dX3_firstCalledTo_5 : decode cX3_firstCalledTo 5 = .ok (.sipush 255, 3) := by decide +kernel
theorem dX3_firstCalledTo_8 : decode cX3_firstCalledTo 8 = .ok (.iand, 1) := by decide +kernel
theorem dX3_firstCalledTo_9 : decode cX3_firstCalledTo 9 = .ok (.iaload, 1) := by decide +kernel
theorem dX3_firstCalledTo_10 : decode cX3_firstCalledTo 10 = .ok (.ireturn, 1) := by decide +kernel
