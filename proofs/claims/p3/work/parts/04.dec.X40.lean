theorem dX4_init_0 : decode cX4_init 0 = .ok (.aload_n 0, 1) := by decide +kernel
theorem dX4_init_1 : decode cX4_init 1 = .ok (.invokespecial 3, 3) := by decide +kernel
theorem dX4_init_4 : decode cX4_init 4 = .ok (.aload_n 0, 1) := by decide +kernel
theorem dX4_init_5 : decode cX4_init 5 = .ok (.new 9, 3) := by decide +kernel
theorem dX4_init_8 : decode cX4_init 8 = .ok (.dup, 1) := by decide +kernel
theorem dX4_init_9 : decode cX4_init 9 = .ok (.invokespecial 11, 3) := by decide +kernel
theorem dX4_init_12 : decode cX4_init 12 = .ok (.putfield 12, 3) := by decide +kernel
theorem dX4_init_15 : decode cX4_init 15 = .ok (.aload_n 0, 1) := by decide +kernel
theorem dX4_init_16 : decode cX4_init 16 = .ok (.new 9, 3) := by decide +kernel
theorem dX4_init_19 : decode cX4_init 19 = .ok (.dup, 1) := by decide +kernel
theorem dX4_init_20 : decode cX4_init 20 = .ok (.invokespecial 11, 3) := by decide +kernel
theorem dX4_init_23 : decode cX4_init 23 = .ok (.putfield 16, 3) := by decide +kernel
theorem dX4_init_26 : decode cX4_init 26 = .ok (.aload_n 0, 1) := by decide +kernel
theorem dX4_init_27 : decode cX4_init 27 = .ok (.new 19, 3) := by decide +kernel
theorem dX4_init_30 : decode cX4_init 30 = .ok (.dup, 1) := by decide +kernel
theorem dX4_init_31 : decode cX4_init 31 = .ok (.invokespecial 21, 3) := by decide +kernel
theorem dX4_init_34 : decode cX4_init 34 = .ok (.putfield 22, 3) := by decide +kernel
theorem dX4_init_37 : decode cX4_init 37 = .ok (.aload_n 0, 1) := by decide +kernel
theorem dX4_init_38 : decode cX4_init 38 = .ok (.new 26, 3) := by decide +kernel
theorem dX4_init_41 : decode cX4_init 41 = .ok (.dup, 1) := by decide +kernel
theorem dX4_init_42 : decode cX4_init 42 = .ok (.invokespecial 28, 3) := by decide +kernel
theorem dX4_init_45 : decode cX4_init 45 = .ok (.putfield 29, 3) := by decide +kernel
theorem dX4_init_48 : decode cX4_init 48 = .ok (.aload_n 0, 1) := by decide +kernel
theorem dX4_init_49 : decode cX4_init 49 = .ok (.iconst 4, 1) := by decide +kernel
theorem dX4_init_50 : decode cX4_init 50 = .ok (.anewarray 33, 3) := by decide +kernel
theorem dX4_init_53 : decode cX4_init 53 = .ok (.putfield 35, 3) := by decide +kernel
theorem dX4_init_56 : decode cX4_init 56 = .ok (.iconst 0, 1) := by decide +kernel
theorem dX4_init_57 : decode cX4_init 57 = .ok (.istore_n 1, 1) := by decide +kernel
theorem dX4_init_58 : decode cX4_init 58 = .ok (.iload_n 1, 1) := by decide +kernel
theorem dX4_init_59 : decode cX4_init 59 = .ok (.iconst 4, 1) := by decide +kernel
theorem dX4_init_60 : decode cX4_init 60 = .ok (.if_icmp .ge 22, 3) := by decide +kernel
theorem dX4_init_63 : decode cX4_init 63 = .ok (.aload_n 0, 1) := by decide +kernel
theorem dX4_init_64 : decode cX4_init 64 = .ok (.getfield 35, 3) := by decide +kernel
theorem dX4_init_67 : decode cX4_init 67 = .ok (.iload_n 1, 1) := by decide +kernel
theorem dX4_init_68 : decode cX4_init 68 = .ok (.new 33, 3) := by decide +kernel
theorem dX4_init_71 : decode cX4_init 71 = .ok (.dup, 1) := by decide +kernel
theorem dX4_init_72 : decode cX4_init 72 = .ok (.invokespecial 39, 3) := by decide +kernel
theorem dX4_init_75 : decode cX4_init 75 = .ok (.aastore, 1) := by decide +kernel
theorem dX4_init_76 : decode cX4_init 76 = .ok (.iinc 1 1, 3) := by decide +kernel
theorem dX4_init_79 : decode cX4_init 79 = .ok (.goto (-21), 3) := by decide +kernel
theorem dX4_init_82 : decode cX4_init 82 = .ok (.aload_n 0, 1) := by decide +kernel
theorem dX4_init_83 : decode cX4_init 83 = .ok (.bipush 7, 2) := by decide +kernel
theorem dX4_init_85 : decode cX4_init 85 = .ok (.newarray .int, 2) := by decide +kernel
theorem dX4_init_87 : decode cX4_init 87 = .ok (.putfield 40, 3) := by decide +kernel
theorem dX4_init_90 : decode cX4_init 90 = .ok (.return_, 1) := by decide +kernel
theorem dX4_guest_0 : decode cX4_guest 0 = .ok (.iload_n 1, 1) := by decide +kernel
theorem dX4_guest_1 : decode cX4_guest 1 = .ok (.invokestatic 44, 3) := by decide +kernel
theorem dX4_guest_4 : decode cX4_guest 4 = .ok (.ifCond .eq 10, 3) := by decide +kernel
theorem dX4_guest_7 : decode cX4_guest 7 = .ok (.iload_n 2, 1) := by decide +kernel
theorem dX4_guest_8 : decode cX4_guest 8 = .ok (.invokestatic 48, 3) := by decide +kernel
theorem dX4_guest_11 : decode cX4_guest 11 = .ok (.ifCond .ne 10, 3) := by decide +kernel
theorem dX4_guest_14 : decode cX4_guest 14 = .ok (.aload_n 0, 1) := by decide +kernel
theorem dX4_guest_15 : decode cX4_guest 15 = .ok (.ldc 51, 2) := by decide +kernel
theorem dX4_guest_17 : decode cX4_guest 17 = .ok (.invokevirtual 52, 3) := by decide +kernel
theorem dX4_guest_20 : decode cX4_guest 20 = .ok (.ireturn, 1) := by decide +kernel
theorem dX4_guest_21 : decode cX4_guest 21 = .ok (.aload_n 0, 1) := by decide +kernel
theorem dX4_guest_22 : decode cX4_guest 22 = .ok (.getfield 12, 3) := by decide +kernel
theorem dX4_guest_25 : decode cX4_guest 25 = .ok (.getfield 56, 3) := by decide +kernel
theorem dX4_guest_28 : decode cX4_guest 28 = .ok (.bipush 8, 2) := by decide +kernel
theorem dX4_guest_30 : decode cX4_guest 30 = .ok (.if_icmp .ge 15, 3) := by decide +kernel
theorem dX4_guest_33 : decode cX4_guest 33 = .ok (.aload_n 0, 1) := by decide +kernel
theorem dX4_guest_34 : decode cX4_guest 34 = .ok (.getfield 12, 3) := by decide +kernel
theorem dX4_guest_37 : decode cX4_guest 37 = .ok (.iload_n 1, 1) := by decide +kernel
theorem dX4_guest_38 : decode cX4_guest 38 = .ok (.iload_n 2, 1) := by decide +kernel
theorem dX4_guest_39 : decode cX4_guest 39 = .ok (.invokevirtual 60, 3) := by decide +kernel
theorem dX4_guest_42 : decode cX4_guest 42 = .ok (.goto 9, 3) := by decide +kernel
theorem dX4_guest_45 : decode cX4_guest 45 = .ok (.aload_n 0, 1) := by decide +kernel
theorem dX4_guest_46 : decode cX4_guest 46 = .ok (.ldc 64, 2) := by decide +kernel
theorem dX4_guest_48 : decode cX4_guest 48 = .ok (.invokevirtual 52, 3) := by decide +kernel
theorem dX4_guest_51 : decode cX4_guest 51 = .ok (.ireturn, 1) := by decide +kernel
theorem dX4_of_0 : decode cX4_of 0 = .ok (.aload_n 0, 1) := by decide +kernel
theorem dX4_of_1 : decode cX4_of 1 = .ok (.getfield 12, 3) := by decide +kernel
theorem dX4_of_4 : decode cX4_of 4 = .ok (.iload_n 1, 1) := by decide +kernel
theorem dX4_of_5 : decode cX4_of 5 = .ok (.invokevirtual 65, 3) := by decide +kernel
theorem dX4_of_8 : decode cX4_of 8 = .ok (.ifCond .ne 10, 3) := by decide +kernel
theorem dX4_of_11 : decode cX4_of 11 = .ok (.aload_n 0, 1) := by decide +kernel
theorem dX4_of_12 : decode cX4_of 12 = .ok (.ldc 51, 2) := by decide +kernel
theorem dX4_of_14 : decode cX4_of 14 = .ok (.invokevirtual 52, 3) := by decide +kernel
theorem dX4_of_17 : decode cX4_of 17 = .ok (.ireturn, 1) := by decide +kernel
theorem dX4_of_18 : decode cX4_of 18 = .ok (.iload_n 2, 1) := by decide +kernel
theorem dX4_of_19 : decode cX4_of 19 = .ok (.tableswitch 119 0 5 #[37, 47, 57, 69, 88, 107], 37) := by decide +kernel
theorem dX4_of_56 : decode cX4_of 56 = .ok (.aload_n 0, 1) := by decide +kernel
theorem dX4_of_57 : decode cX4_of 57 = .ok (.getfield 12, 3) := by decide +kernel
theorem dX4_of_60 : decode cX4_of 60 = .ok (.getfield 68, 3) := by decide +kernel
theorem dX4_of_63 : decode cX4_of 63 = .ok (.iload_n 1, 1) := by decide +kernel
theorem dX4_of_64 : decode cX4_of 64 = .ok (.iaload, 1) := by decide +kernel
theorem dX4_of_65 : decode cX4_of 65 = .ok (.ireturn, 1) := by decide +kernel
theorem dX4_of_66 : decode cX4_of 66 = .ok (.aload_n 0, 1) := by decide +kernel
theorem dX4_of_67 : decode cX4_of 67 = .ok (.getfield 12, 3) := by decide +kernel
theorem dX4_of_70 : decode cX4_of 70 = .ok (.getfield 71, 3) := by decide +kernel
theorem dX4_of_73 : decode cX4_of 73 = .ok (.iload_n 1, 1) := by decide +kernel
theorem dX4_of_74 : decode cX4_of 74 = .ok (.iaload, 1) := by decide +kernel
theorem dX4_of_75 : decode cX4_of 75 = .ok (.ireturn, 1) := by decide +kernel
theorem dX4_of_76 : decode cX4_of 76 = .ok (.aload_n 0, 1) := by decide +kernel
theorem dX4_of_77 : decode cX4_of 77 = .ok (.getfield 12, 3) := by decide +kernel
theorem dX4_of_80 : decode cX4_of 80 = .ok (.getfield 74, 3) := by decide +kernel
theorem dX4_of_83 : decode cX4_of 83 = .ok (.iload_n 1, 1) := by decide +kernel
theorem dX4_of_84 : decode cX4_of 84 = .ok (.ishr, 1) := by decide +kernel
theorem dX4_of_85 : decode cX4_of 85 = .ok (.iconst 1, 1) := by decide +kernel
theorem dX4_of_86 : decode cX4_of 86 = .ok (.iand, 1) := by decide +kernel
theorem dX4_of_87 : decode cX4_of 87 = .ok (.ireturn, 1) := by decide +kernel
theorem dX4_of_88 : decode cX4_of 88 = .ok (.aload_n 0, 1) := by decide +kernel
theorem dX4_of_89 : decode cX4_of 89 = .ok (.getfield 12, 3) := by decide +kernel
theorem dX4_of_92 : decode cX4_of 92 = .ok (.aload_n 0, 1) := by decide +kernel
theorem dX4_of_93 : decode cX4_of 93 = .ok (.getfield 12, 3) := by decide +kernel
theorem dX4_of_96 : decode cX4_of 96 = .ok (.getfield 74, 3) := by decide +kernel
theorem dX4_of_99 : decode cX4_of 99 = .ok (.invokevirtual 77, 3) := by decide +kernel
theorem dX4_of_102 : decode cX4_of 102 = .ok (.iload_n 1, 1) := by decide +kernel
theorem dX4_of_103 : decode cX4_of 103 = .ok (.ishr, 1) := by decide +kernel
theorem dX4_of_104 : decode cX4_of 104 = .ok (.iconst 1, 1) := by decide +kernel
theorem dX4_of_105 : decode cX4_of 105 = .ok (.iand, 1) := by decide +kernel
theorem dX4_of_106 : decode cX4_of 106 = .ok (.ireturn, 1) := by decide +kernel
theorem dX4_of_107 : decode cX4_of 107 = .ok (.aload_n 0, 1) := by decide +kernel
theorem dX4_of_108 : decode cX4_of 108 = .ok (.getfield 12, 3) := by decide +kernel
theorem dX4_of_111 : decode cX4_of 111 = .ok (.iload_n 1, 1) := by decide +kernel
theorem dX4_of_112 : decode cX4_of 112 = .ok (.aload_n 0, 1) := by decide +kernel
theorem dX4_of_113 : decode cX4_of 113 = .ok (.getfield 12, 3) := by decide +kernel
theorem dX4_of_116 : decode cX4_of 116 = .ok (.getfield 74, 3) := by decide +kernel
theorem dX4_of_119 : decode cX4_of 119 = .ok (.invokevirtual 80, 3) := by decide +kernel
theorem dX4_of_122 : decode cX4_of 122 = .ok (.invokestatic 84, 3) := by decide +kernel
theorem dX4_of_125 : decode cX4_of 125 = .ok (.ireturn, 1) := by decide +kernel
theorem dX4_of_126 : decode cX4_of 126 = .ok (.iload_n 1, 1) := by decide +kernel
theorem dX4_of_127 : decode cX4_of 127 = .ok (.aload_n 0, 1) := by decide +kernel
theorem dX4_of_128 : decode cX4_of 128 = .ok (.getfield 12, 3) := by decide +kernel
theorem dX4_of_131 : decode cX4_of 131 = .ok (.getfield 74, 3) := by decide +kernel
theorem dX4_of_134 : decode cX4_of 134 = .ok (.invokestatic 88, 3) := by decide +kernel
theorem dX4_of_137 : decode cX4_of 137 = .ok (.ireturn, 1) := by decide +kernel
theorem dX4_of_138 : decode cX4_of 138 = .ok (.aload_n 0, 1) := by decide +kernel
theorem dX4_of_139 : decode cX4_of 139 = .ok (.ldc 51, 2) := by decide +kernel
theorem dX4_of_141 : decode cX4_of 141 = .ok (.invokevirtual 52, 3) := by decide +kernel
theorem dX4_of_144 : decode cX4_of 144 = .ok (.ireturn, 1) := by decide +kernel
theorem dX4_cost_0 : decode cX4_cost 0 = .ok (.aload_n 0, 1) := by decide +kernel
theorem dX4_cost_1 : decode cX4_cost 1 = .ok (.getfield 12, 3) := by decide +kernel
theorem dX4_cost_4 : decode cX4_cost 4 = .ok (.iload_n 1, 1) := by decide +kernel
theorem dX4_cost_5 : decode cX4_cost 5 = .ok (.invokevirtual 65, 3) := by decide +kernel
theorem dX4_cost_8 : decode cX4_cost 8 = .ok (.ifCond .eq 10, 3) := by decide +kernel
theorem dX4_cost_11 : decode cX4_cost 11 = .ok (.iload_n 2, 1) := by decide +kernel
theorem dX4_cost_12 : decode cX4_cost 12 = .ok (.invokestatic 48, 3) := by decide +kernel
theorem dX4_cost_15 : decode cX4_cost 15 = .ok (.ifCond .ne 10, 3) := by decide +kernel
theorem dX4_cost_18 : decode cX4_cost 18 = .ok (.aload_n 0, 1) := by decide +kernel
theorem dX4_cost_19 : decode cX4_cost 19 = .ok (.ldc 51, 2) := by decide +kernel
theorem dX4_cost_21 : decode cX4_cost 21 = .ok (.invokevirtual 52, 3) := by decide +kernel
theorem dX4_cost_24 : decode cX4_cost 24 = .ok (.ireturn, 1) := by decide +kernel
theorem dX4_cost_25 : decode cX4_cost 25 = .ok (.aload_n 0, 1) := by decide +kernel
theorem dX4_cost_26 : decode cX4_cost 26 = .ok (.getfield 12, 3) := by decide +kernel
theorem dX4_cost_29 : decode cX4_cost 29 = .ok (.getfield 71, 3) := by decide +kernel
theorem dX4_cost_32 : decode cX4_cost 32 = .ok (.iload_n 1, 1) := by decide +kernel
theorem dX4_cost_33 : decode cX4_cost 33 = .ok (.iaload, 1) := by decide +kernel
theorem dX4_cost_34 : decode cX4_cost 34 = .ok (.istore_n 3, 1) := by decide +kernel
theorem dX4_cost_35 : decode cX4_cost 35 = .ok (.aload_n 0, 1) := by decide +kernel
theorem dX4_cost_36 : decode cX4_cost 36 = .ok (.getfield 12, 3) := by decide +kernel
theorem dX4_cost_39 : decode cX4_cost 39 = .ok (.getfield 71, 3) := by decide +kernel
theorem dX4_cost_42 : decode cX4_cost 42 = .ok (.iload_n 1, 1) := by decide +kernel
theorem dX4_cost_43 : decode cX4_cost 43 = .ok (.iload_n 2, 1) := by decide +kernel
theorem dX4_cost_44 : decode cX4_cost 44 = .ok (.iastore, 1) := by decide +kernel
theorem dX4_cost_45 : decode cX4_cost 45 = .ok (.iload_n 3, 1) := by decide +kernel
theorem dX4_cost_46 : decode cX4_cost 46 = .ok (.ireturn, 1) := by decide +kernel
theorem dX4_turn_0 : decode cX4_turn 0 = .ok (.aload_n 0, 1) := by decide +kernel
theorem dX4_turn_1 : decode cX4_turn 1 = .ok (.getfield 12, 3) := by decide +kernel
theorem dX4_turn_4 : decode cX4_turn 4 = .ok (.iload_n 1, 1) := by decide +kernel
theorem dX4_turn_5 : decode cX4_turn 5 = .ok (.invokevirtual 65, 3) := by decide +kernel
theorem dX4_turn_8 : decode cX4_turn 8 = .ok (.ifCond .eq 10, 3) := by decide +kernel
theorem dX4_turn_11 : decode cX4_turn 11 = .ok (.iload_n 2, 1) := by decide +kernel
theorem dX4_turn_12 : decode cX4_turn 12 = .ok (.invokestatic 44, 3) := by decide +kernel
theorem dX4_turn_15 : decode cX4_turn 15 = .ok (.ifCond .ne 10, 3) := by decide +kernel
theorem dX4_turn_18 : decode cX4_turn 18 = .ok (.aload_n 0, 1) := by decide +kernel
theorem dX4_turn_19 : decode cX4_turn 19 = .ok (.ldc 51, 2) := by decide +kernel
theorem dX4_turn_21 : decode cX4_turn 21 = .ok (.invokevirtual 52, 3) := by decide +kernel
theorem dX4_turn_24 : decode cX4_turn 24 = .ok (.ireturn, 1) := by decide +kernel
theorem dX4_turn_25 : decode cX4_turn 25 = .ok (.aload_n 0, 1) := by decide +kernel
theorem dX4_turn_26 : decode cX4_turn 26 = .ok (.getfield 12, 3) := by decide +kernel
theorem dX4_turn_29 : decode cX4_turn 29 = .ok (.iload_n 1, 1) := by decide +kernel
theorem dX4_turn_30 : decode cX4_turn 30 = .ok (.iload_n 2, 1) := by decide +kernel
theorem dX4_turn_31 : decode cX4_turn 31 = .ok (.invokevirtual 91, 3) := by decide +kernel
theorem dX4_turn_34 : decode cX4_turn 34 = .ok (.ireturn, 1) := by decide +kernel
theorem dX4_as_0 : decode cX4_as 0 = .ok (.aload_n 0, 1) := by decide +kernel
theorem dX4_as_1 : decode cX4_as 1 = .ok (.getfield 12, 3) := by decide +kernel
theorem dX4_as_4 : decode cX4_as 4 = .ok (.iload_n 1, 1) := by decide +kernel
theorem dX4_as_5 : decode cX4_as 5 = .ok (.invokevirtual 65, 3) := by decide +kernel
theorem dX4_as_8 : decode cX4_as 8 = .ok (.ifCond .eq 10, 3) := by decide +kernel
theorem dX4_as_11 : decode cX4_as 11 = .ok (.iload_n 2, 1) := by decide +kernel
theorem dX4_as_12 : decode cX4_as 12 = .ok (.invokestatic 44, 3) := by decide +kernel
theorem dX4_as_15 : decode cX4_as 15 = .ok (.ifCond .ne 10, 3) := by decide +kernel
theorem dX4_as_18 : decode cX4_as 18 = .ok (.aload_n 0, 1) := by decide +kernel
theorem dX4_as_19 : decode cX4_as 19 = .ok (.ldc 51, 2) := by decide +kernel
theorem dX4_as_21 : decode cX4_as 21 = .ok (.invokevirtual 52, 3) := by decide +kernel
theorem dX4_as_24 : decode cX4_as 24 = .ok (.ireturn, 1) := by decide +kernel
theorem dX4_as_25 : decode cX4_as 25 = .ok (.aload_n 0, 1) := by decide +kernel
theorem dX4_as_26 : decode cX4_as 26 = .ok (.getfield 12, 3) := by decide +kernel
theorem dX4_as_29 : decode cX4_as 29 = .ok (.getfield 68, 3) := by decide +kernel
theorem dX4_as_32 : decode cX4_as 32 = .ok (.iload_n 1, 1) := by decide +kernel
theorem dX4_as_33 : decode cX4_as 33 = .ok (.iaload, 1) := by decide +kernel
theorem dX4_as_34 : decode cX4_as 34 = .ok (.iload_n 2, 1) := by decide +kernel
theorem dX4_as_35 : decode cX4_as 35 = .ok (.invokestatic 94, 3) := by decide +kernel
theorem dX4_as_38 : decode cX4_as 38 = .ok (.ifCond .eq 15, 3) := by decide +kernel
theorem dX4_as_41 : decode cX4_as 41 = .ok (.aload_n 0, 1) := by decide +kernel
theorem dX4_as_42 : decode cX4_as 42 = .ok (.getfield 12, 3) := by decide +kernel
theorem dX4_as_45 : decode cX4_as 45 = .ok (.getfield 71, 3) := by decide +kernel
theorem dX4_as_48 : decode cX4_as 48 = .ok (.iload_n 1, 1) := by decide +kernel
theorem dX4_as_49 : decode cX4_as 49 = .ok (.iaload, 1) := by decide +kernel
theorem dX4_as_50 : decode cX4_as 50 = .ok (.goto 9, 3) := by decide +kernel
theorem dX4_as_53 : decode cX4_as 53 = .ok (.aload_n 0, 1) := by decide +kernel
theorem dX4_as_54 : decode cX4_as 54 = .ok (.ldc 97, 2) := by decide +kernel
theorem dX4_as_56 : decode cX4_as 56 = .ok (.invokevirtual 52, 3) := by decide +kernel
theorem dX4_as_59 : decode cX4_as 59 = .ok (.ireturn, 1) := by decide +kernel
theorem dX4_term_0 : decode cX4_term 0 = .ok (.aload_n 0, 1) := by decide +kernel
theorem dX4_term_1 : decode cX4_term 1 = .ok (.getfield 12, 3) := by decide +kernel
theorem dX4_term_4 : decode cX4_term 4 = .ok (.iload_n 1, 1) := by decide +kernel
theorem dX4_term_5 : decode cX4_term 5 = .ok (.invokevirtual 65, 3) := by decide +kernel
theorem dX4_term_8 : decode cX4_term 8 = .ok (.ifCond .ne 10, 3) := by decide +kernel
theorem dX4_term_11 : decode cX4_term 11 = .ok (.aload_n 0, 1) := by decide +kernel
theorem dX4_term_12 : decode cX4_term 12 = .ok (.ldc 51, 2) := by decide +kernel
theorem dX4_term_14 : decode cX4_term 14 = .ok (.invokevirtual 52, 3) := by decide +kernel
theorem dX4_term_17 : decode cX4_term 17 = .ok (.ireturn, 1) := by decide +kernel
theorem dX4_term_18 : decode cX4_term 18 = .ok (.aload_n 0, 1) := by decide +kernel
theorem dX4_term_19 : decode cX4_term 19 = .ok (.getfield 22, 3) := by decide +kernel
theorem dX4_term_22 : decode cX4_term 22 = .ok (.iload_n 1, 1) := by decide +kernel
theorem dX4_term_23 : decode cX4_term 23 = .ok (.iconst 0, 1) := by decide +kernel
theorem dX4_term_24 : decode cX4_term 24 = .ok (.invokevirtual 98, 3) := by decide +kernel
theorem dX4_term_27 : decode cX4_term 27 = .ok (.lstore_n 2, 1) := by decide +kernel
theorem dX4_term_28 : decode cX4_term 28 = .ok (.aload_n 0, 1) := by decide +kernel
theorem dX4_term_29 : decode cX4_term 29 = .ok (.getfield 22, 3) := by decide +kernel
theorem dX4_term_32 : decode cX4_term 32 = .ok (.getfield 102, 3) := by decide +kernel
theorem dX4_term_35 : decode cX4_term 35 = .ok (.istore 4, 2) := by decide +kernel
theorem dX4_term_37 : decode cX4_term 37 = .ok (.iload 4, 2) := by decide +kernel
theorem dX4_term_39 : decode cX4_term 39 = .ok (.ifCond .ge 48, 3) := by decide +kernel
theorem dX4_term_42 : decode cX4_term 42 = .ok (.aload_n 0, 1) := by decide +kernel
theorem dX4_term_43 : decode cX4_term 43 = .ok (.getfield 12, 3) := by decide +kernel
theorem dX4_term_46 : decode cX4_term 46 = .ok (.iload_n 1, 1) := by decide +kernel
theorem dX4_term_47 : decode cX4_term 47 = .ok (.iconst 0, 1) := by decide +kernel
theorem dX4_term_48 : decode cX4_term 48 = .ok (.lload_n 2, 1) := by decide +kernel
theorem dX4_term_49 : decode cX4_term 49 = .ok (.invokevirtual 105, 3) := by decide +kernel
theorem dX4_term_52 : decode cX4_term 52 = .ok (.iconst 1, 1) := by decide +kernel
theorem dX4_term_53 : decode cX4_term 53 = .ok (.istore 5, 2) := by decide +kernel
theorem dX4_term_55 : decode cX4_term 55 = .ok (.iload 5, 2) := by decide +kernel
theorem dX4_term_57 : decode cX4_term 57 = .ok (.iconst 4, 1) := by decide +kernel
theorem dX4_term_58 : decode cX4_term 58 = .ok (.if_icmp .ge 29, 3) := by decide +kernel
theorem dX4_term_61 : decode cX4_term 61 = .ok (.aload_n 0, 1) := by decide +kernel
theorem dX4_term_62 : decode cX4_term 62 = .ok (.getfield 12, 3) := by decide +kernel
theorem dX4_term_65 : decode cX4_term 65 = .ok (.iload_n 1, 1) := by decide +kernel
theorem dX4_term_66 : decode cX4_term 66 = .ok (.iload 5, 2) := by decide +kernel
theorem dX4_term_68 : decode cX4_term 68 = .ok (.aload_n 0, 1) := by decide +kernel
theorem dX4_term_69 : decode cX4_term 69 = .ok (.getfield 22, 3) := by decide +kernel
theorem dX4_term_72 : decode cX4_term 72 = .ok (.iload_n 1, 1) := by decide +kernel
theorem dX4_term_73 : decode cX4_term 73 = .ok (.iload 5, 2) := by decide +kernel
theorem dX4_term_75 : decode cX4_term 75 = .ok (.invokevirtual 98, 3) := by decide +kernel
theorem dX4_term_78 : decode cX4_term 78 = .ok (.invokevirtual 105, 3) := by decide +kernel
theorem dX4_term_81 : decode cX4_term 81 = .ok (.iinc 5 1, 3) := by decide +kernel
theorem dX4_term_84 : decode cX4_term 84 = .ok (.goto (-29), 3) := by decide +kernel
theorem dX4_term_87 : decode cX4_term 87 = .ok (.aload_n 0, 1) := by decide +kernel
theorem dX4_term_88 : decode cX4_term 88 = .ok (.getfield 22, 3) := by decide +kernel
theorem dX4_term_91 : decode cX4_term 91 = .ok (.iconst 0, 1) := by decide +kernel
theorem dX4_term_92 : decode cX4_term 92 = .ok (.putfield 109, 3) := by decide +kernel
theorem dX4_term_95 : decode cX4_term 95 = .ok (.iload 4, 2) := by decide +kernel
theorem dX4_term_97 : decode cX4_term 97 = .ok (.ifCond .ge 7, 3) := by decide +kernel
theorem dX4_term_100 : decode cX4_term 100 = .ok (.iconst 1, 1) := by decide +kernel
theorem dX4_term_101 : decode cX4_term 101 = .ok (.goto 7, 3) := by decide +kernel
theorem dX4_term_104 : decode cX4_term 104 = .ok (.iconst (-1), 1) := by decide +kernel
theorem dX4_term_105 : decode cX4_term 105 = .ok (.iload 4, 2) := by decide +kernel
theorem dX4_term_107 : decode cX4_term 107 = .ok (.isub, 1) := by decide +kernel
theorem dX4_term_108 : decode cX4_term 108 = .ok (.ireturn, 1) := by decide +kernel
theorem dX4_feed_0 : decode cX4_feed 0 = .ok (.iload_n 2, 1) := by decide +kernel
theorem dX4_feed_1 : decode cX4_feed 1 = .ok (.iconst 1, 1) := by decide +kernel
theorem dX4_feed_2 : decode cX4_feed 2 = .ok (.if_icmp .lt 8, 3) := by decide +kernel
theorem dX4_feed_5 : decode cX4_feed 5 = .ok (.iload_n 2, 1) := by decide +kernel
theorem dX4_feed_6 : decode cX4_feed 6 = .ok (.iconst 4, 1) := by decide +kernel
theorem dX4_feed_7 : decode cX4_feed 7 = .ok (.if_icmp .le 10, 3) := by decide +kernel
theorem dX4_feed_10 : decode cX4_feed 10 = .ok (.aload_n 0, 1) := by decide +kernel
theorem dX4_feed_11 : decode cX4_feed 11 = .ok (.ldc 51, 2) := by decide +kernel
theorem dX4_feed_13 : decode cX4_feed 13 = .ok (.invokevirtual 52, 3) := by decide +kernel
theorem dX4_feed_16 : decode cX4_feed 16 = .ok (.ireturn, 1) := by decide +kernel
theorem dX4_feed_17 : decode cX4_feed 17 = .ok (.iload_n 2, 1) := by decide +kernel
theorem dX4_feed_18 : decode cX4_feed 18 = .ok (.bipush 60, 2) := by decide +kernel
theorem dX4_feed_20 : decode cX4_feed 20 = .ok (.aload_n 0, 1) := by decide +kernel
theorem dX4_feed_21 : decode cX4_feed 21 = .ok (.getfield 22, 3) := by decide +kernel
theorem dX4_feed_24 : decode cX4_feed 24 = .ok (.getfield 109, 3) := by decide +kernel
theorem dX4_feed_27 : decode cX4_feed 27 = .ok (.isub, 1) := by decide +kernel
theorem dX4_feed_28 : decode cX4_feed 28 = .ok (.if_icmp .gt 15, 3) := by decide +kernel
theorem dX4_feed_31 : decode cX4_feed 31 = .ok (.aload_n 0, 1) := by decide +kernel
theorem dX4_feed_32 : decode cX4_feed 32 = .ok (.getfield 22, 3) := by decide +kernel
theorem dX4_feed_35 : decode cX4_feed 35 = .ok (.iload_n 1, 1) := by decide +kernel
theorem dX4_feed_36 : decode cX4_feed 36 = .ok (.iload_n 2, 1) := by decide +kernel
theorem dX4_feed_37 : decode cX4_feed 37 = .ok (.invokevirtual 112, 3) := by decide +kernel
theorem dX4_feed_40 : decode cX4_feed 40 = .ok (.goto 9, 3) := by decide +kernel
theorem dX4_feed_43 : decode cX4_feed 43 = .ok (.aload_n 0, 1) := by decide +kernel
theorem dX4_feed_44 : decode cX4_feed 44 = .ok (.ldc 64, 2) := by decide +kernel
theorem dX4_feed_46 : decode cX4_feed 46 = .ok (.invokevirtual 52, 3) := by decide +kernel
theorem dX4_feed_49 : decode cX4_feed 49 = .ok (.ireturn, 1) := by decide +kernel
theorem dX4_wipe_0 : decode cX4_wipe 0 = .ok (.aload_n 0, 1) := by decide +kernel
theorem dX4_wipe_1 : decode cX4_wipe 1 = .ok (.getfield 22, 3) := by decide +kernel
theorem dX4_wipe_4 : decode cX4_wipe 4 = .ok (.getfield 109, 3) := by decide +kernel
theorem dX4_wipe_7 : decode cX4_wipe 7 = .ok (.istore_n 1, 1) := by decide +kernel
theorem dX4_wipe_8 : decode cX4_wipe 8 = .ok (.aload_n 0, 1) := by decide +kernel
theorem dX4_wipe_9 : decode cX4_wipe 9 = .ok (.getfield 22, 3) := by decide +kernel
theorem dX4_wipe_12 : decode cX4_wipe 12 = .ok (.iconst 0, 1) := by decide +kernel
theorem dX4_wipe_13 : decode cX4_wipe 13 = .ok (.putfield 109, 3) := by decide +kernel
theorem dX4_wipe_16 : decode cX4_wipe 16 = .ok (.iload_n 1, 1) := by decide +kernel
theorem dX4_wipe_17 : decode cX4_wipe 17 = .ok (.ireturn, 1) := by decide +kernel
theorem dX4_list_0 : decode cX4_list 0 = .ok (.aload_n 0, 1) := by decide +kernel
theorem dX4_list_1 : decode cX4_list 1 = .ok (.getfield 12, 3) := by decide +kernel
theorem dX4_list_4 : decode cX4_list 4 = .ok (.iload_n 1, 1) := by decide +kernel
theorem dX4_list_5 : decode cX4_list 5 = .ok (.invokevirtual 115, 3) := by decide +kernel
theorem dX4_list_8 : decode cX4_list 8 = .ok (.ifCond .ne 10, 3) := by decide +kernel
theorem dX4_list_11 : decode cX4_list 11 = .ok (.aload_n 0, 1) := by decide +kernel
theorem dX4_list_12 : decode cX4_list 12 = .ok (.ldc 51, 2) := by decide +kernel
theorem dX4_list_14 : decode cX4_list 14 = .ok (.invokevirtual 52, 3) := by decide +kernel
theorem dX4_list_17 : decode cX4_list 17 = .ok (.ireturn, 1) := by decide +kernel
theorem dX4_list_18 : decode cX4_list 18 = .ok (.aload_n 0, 1) := by decide +kernel
theorem dX4_list_19 : decode cX4_list 19 = .ok (.getfield 12, 3) := by decide +kernel
theorem dX4_list_22 : decode cX4_list 22 = .ok (.getfield 74, 3) := by decide +kernel
theorem dX4_list_25 : decode cX4_list 25 = .ok (.istore_n 2, 1) := by decide +kernel
theorem dX4_list_26 : decode cX4_list 26 = .ok (.aload_n 0, 1) := by decide +kernel
theorem dX4_list_27 : decode cX4_list 27 = .ok (.getfield 12, 3) := by decide +kernel
theorem dX4_list_30 : decode cX4_list 30 = .ok (.iload_n 1, 1) := by decide +kernel
theorem dX4_list_31 : decode cX4_list 31 = .ok (.putfield 74, 3) := by decide +kernel
theorem dX4_list_34 : decode cX4_list 34 = .ok (.iload_n 2, 1) := by decide +kernel
theorem dX4_list_35 : decode cX4_list 35 = .ok (.ireturn, 1) := by decide +kernel
theorem dX4_now_0 : decode cX4_now 0 = .ok (.iload_n 1, 1) := by decide +kernel
theorem dX4_now_1 : decode cX4_now 1 = .ok (.tableswitch 102 0 4 #[35, 43, 54, 69, 87], 35) := by decide +kernel
theorem dX4_now_36 : decode cX4_now 36 = .ok (.aload_n 0, 1) := by decide +kernel
theorem dX4_now_37 : decode cX4_now 37 = .ok (.getfield 12, 3) := by decide +kernel
theorem dX4_now_40 : decode cX4_now 40 = .ok (.getfield 74, 3) := by decide +kernel
theorem dX4_now_43 : decode cX4_now 43 = .ok (.ireturn, 1) := by decide +kernel
theorem dX4_now_44 : decode cX4_now 44 = .ok (.aload_n 0, 1) := by decide +kernel
theorem dX4_now_45 : decode cX4_now 45 = .ok (.getfield 12, 3) := by decide +kernel
theorem dX4_now_48 : decode cX4_now 48 = .ok (.getfield 74, 3) := by decide +kernel
theorem dX4_now_51 : decode cX4_now 51 = .ok (.invokestatic 118, 3) := by decide +kernel
theorem dX4_now_54 : decode cX4_now 54 = .ok (.ireturn, 1) := by decide +kernel
theorem dX4_now_55 : decode cX4_now 55 = .ok (.aload_n 0, 1) := by decide +kernel
theorem dX4_now_56 : decode cX4_now 56 = .ok (.getfield 12, 3) := by decide +kernel
theorem dX4_now_59 : decode cX4_now 59 = .ok (.aload_n 0, 1) := by decide +kernel
theorem dX4_now_60 : decode cX4_now 60 = .ok (.getfield 12, 3) := by decide +kernel
theorem dX4_now_63 : decode cX4_now 63 = .ok (.getfield 74, 3) := by decide +kernel
theorem dX4_now_66 : decode cX4_now 66 = .ok (.invokevirtual 77, 3) := by decide +kernel
theorem dX4_now_69 : decode cX4_now 69 = .ok (.ireturn, 1) := by decide +kernel
theorem dX4_now_70 : decode cX4_now 70 = .ok (.aload_n 0, 1) := by decide +kernel
theorem dX4_now_71 : decode cX4_now 71 = .ok (.getfield 12, 3) := by decide +kernel
theorem dX4_now_74 : decode cX4_now 74 = .ok (.aload_n 0, 1) := by decide +kernel
theorem dX4_now_75 : decode cX4_now 75 = .ok (.getfield 12, 3) := by decide +kernel
theorem dX4_now_78 : decode cX4_now 78 = .ok (.getfield 74, 3) := by decide +kernel
theorem dX4_now_81 : decode cX4_now 81 = .ok (.invokevirtual 123, 3) := by decide +kernel
theorem dX4_now_84 : decode cX4_now 84 = .ok (.invokestatic 84, 3) := by decide +kernel
theorem dX4_now_87 : decode cX4_now 87 = .ok (.ireturn, 1) := by decide +kernel
theorem dX4_now_88 : decode cX4_now 88 = .ok (.aload_n 0, 1) := by decide +kernel
theorem dX4_now_89 : decode cX4_now 89 = .ok (.getfield 12, 3) := by decide +kernel
theorem dX4_now_92 : decode cX4_now 92 = .ok (.aload_n 0, 1) := by decide +kernel
theorem dX4_now_93 : decode cX4_now 93 = .ok (.getfield 12, 3) := by decide +kernel
theorem dX4_now_96 : decode cX4_now 96 = .ok (.getfield 74, 3) := by decide +kernel
theorem dX4_now_99 : decode cX4_now 99 = .ok (.invokevirtual 126, 3) := by decide +kernel
theorem dX4_now_102 : decode cX4_now 102 = .ok (.ireturn, 1) := by decide +kernel
theorem dX4_now_103 : decode cX4_now 103 = .ok (.aload_n 0, 1) := by decide +kernel
theorem dX4_now_104 : decode cX4_now 104 = .ok (.ldc 51, 2) := by decide +kernel
theorem dX4_now_106 : decode cX4_now 106 = .ok (.invokevirtual 52, 3) := by decide +kernel
theorem dX4_now_109 : decode cX4_now 109 = .ok (.ireturn, 1) := by decide +kernel
theorem dX4_call_0 : decode cX4_call 0 = .ok (.aload_n 0, 1) := by decide +kernel
theorem dX4_call_1 : decode cX4_call 1 = .ok (.getfield 12, 3) := by decide +kernel
theorem dX4_call_4 : decode cX4_call 4 = .ok (.iload_n 1, 1) := by decide +kernel
theorem dX4_call_5 : decode cX4_call 5 = .ok (.invokevirtual 65, 3) := by decide +kernel
theorem dX4_call_8 : decode cX4_call 8 = .ok (.ifCond .eq 14, 3) := by decide +kernel
theorem dX4_call_11 : decode cX4_call 11 = .ok (.aload_n 0, 1) := by decide +kernel
theorem dX4_call_12 : decode cX4_call 12 = .ok (.getfield 12, 3) := by decide +kernel
theorem dX4_call_15 : decode cX4_call 15 = .ok (.iload_n 1, 1) := by decide +kernel
theorem dX4_call_16 : decode cX4_call 16 = .ok (.invokevirtual 129, 3) := by decide +kernel
theorem dX4_call_19 : decode cX4_call 19 = .ok (.goto 9, 3) := by decide +kernel
theorem dX4_call_22 : decode cX4_call 22 = .ok (.aload_n 0, 1) := by decide +kernel
theorem dX4_call_23 : decode cX4_call 23 = .ok (.ldc 51, 2) := by decide +kernel
theorem dX4_call_25 : decode cX4_call 25 = .ok (.invokevirtual 52, 3) := by decide +kernel
theorem dX4_call_28 : decode cX4_call 28 = .ok (.ireturn, 1) := by decide +kernel
theorem dX4_calls_0 : decode cX4_calls 0 = .ok (.iload_n 1, 1) := by decide +kernel
theorem dX4_calls_1 : decode cX4_calls 1 = .ok (.iconst 1, 1) := by decide +kernel
theorem dX4_calls_2 : decode cX4_calls 2 = .ok (.if_icmp .lt 9, 3) := by decide +kernel
theorem dX4_calls_5 : decode cX4_calls 5 = .ok (.iload_n 1, 1) := by decide +kernel
theorem dX4_calls_6 : decode cX4_calls 6 = .ok (.bipush 20, 2) := by decide +kernel
theorem dX4_calls_8 : decode cX4_calls 8 = .ok (.if_icmp .le 10, 3) := by decide +kernel
theorem dX4_calls_11 : decode cX4_calls 11 = .ok (.aload_n 0, 1) := by decide +kernel
theorem dX4_calls_12 : decode cX4_calls 12 = .ok (.ldc 51, 2) := by decide +kernel
theorem dX4_calls_14 : decode cX4_calls 14 = .ok (.invokevirtual 52, 3) := by decide +kernel
theorem dX4_calls_17 : decode cX4_calls 17 = .ok (.ireturn, 1) := by decide +kernel
theorem dX4_calls_18 : decode cX4_calls 18 = .ok (.iconst 0, 1) := by decide +kernel
theorem dX4_calls_19 : decode cX4_calls 19 = .ok (.istore_n 2, 1) := by decide +kernel
theorem dX4_calls_20 : decode cX4_calls 20 = .ok (.iconst 0, 1) := by decide +kernel
theorem dX4_calls_21 : decode cX4_calls 21 = .ok (.istore_n 3, 1) := by decide +kernel
theorem dX4_calls_22 : decode cX4_calls 22 = .ok (.iload_n 3, 1) := by decide +kernel
theorem dX4_calls_23 : decode cX4_calls 23 = .ok (.iload_n 1, 1) := by decide +kernel
theorem dX4_calls_24 : decode cX4_calls 24 = .ok (.if_icmp .ge 42, 3) := by decide +kernel
theorem dX4_calls_27 : decode cX4_calls 27 = .ok (.iconst 0, 1) := by decide +kernel
theorem dX4_calls_28 : decode cX4_calls 28 = .ok (.istore 4, 2) := by decide +kernel
theorem dX4_calls_30 : decode cX4_calls 30 = .ok (.iload 4, 2) := by decide +kernel
theorem dX4_calls_32 : decode cX4_calls 32 = .ok (.aload_n 0, 1) := by decide +kernel
theorem dX4_calls_33 : decode cX4_calls 33 = .ok (.getfield 12, 3) := by decide +kernel
theorem dX4_calls_36 : decode cX4_calls 36 = .ok (.getfield 56, 3) := by decide +kernel
theorem dX4_calls_39 : decode cX4_calls 39 = .ok (.if_icmp .ge 21, 3) := by decide +kernel
theorem dX4_calls_42 : decode cX4_calls 42 = .ok (.iload_n 2, 1) := by decide +kernel
theorem dX4_calls_43 : decode cX4_calls 43 = .ok (.aload_n 0, 1) := by decide +kernel
theorem dX4_calls_44 : decode cX4_calls 44 = .ok (.getfield 12, 3) := by decide +kernel
theorem dX4_calls_47 : decode cX4_calls 47 = .ok (.iload 4, 2) := by decide +kernel
theorem dX4_calls_49 : decode cX4_calls 49 = .ok (.invokevirtual 129, 3) := by decide +kernel
theorem dX4_calls_52 : decode cX4_calls 52 = .ok (.iadd, 1) := by decide +kernel
theorem dX4_calls_53 : decode cX4_calls 53 = .ok (.istore_n 2, 1) := by decide +kernel
theorem dX4_calls_54 : decode cX4_calls 54 = .ok (.iinc 4 1, 3) := by decide +kernel
theorem dX4_calls_57 : decode cX4_calls 57 = .ok (.goto (-27), 3) := by decide +kernel
theorem dX4_calls_60 : decode cX4_calls 60 = .ok (.iinc 3 1, 3) := by decide +kernel
theorem dX4_calls_63 : decode cX4_calls 63 = .ok (.goto (-41), 3) := by decide +kernel
theorem dX4_calls_66 : decode cX4_calls 66 = .ok (.iload_n 2, 1) := by decide +kernel
theorem dX4_calls_67 : decode cX4_calls 67 = .ok (.ireturn, 1) := by decide +kernel
theorem dX4_rounds_0 : decode cX4_rounds 0 = .ok (.iload_n 1, 1) := by decide +kernel
theorem dX4_rounds_1 : decode cX4_rounds 1 = .ok (.iconst 1, 1) := by decide +kernel
theorem dX4_rounds_2 : decode cX4_rounds 2 = .ok (.if_icmp .lt 9, 3) := by decide +kernel
theorem dX4_rounds_5 : decode cX4_rounds 5 = .ok (.iload_n 1, 1) := by decide +kernel
theorem dX4_rounds_6 : decode cX4_rounds 6 = .ok (.bipush 64, 2) := by decide +kernel
theorem dX4_rounds_8 : decode cX4_rounds 8 = .ok (.if_icmp .le 10, 3) := by decide +kernel
theorem dX4_rounds_11 : decode cX4_rounds 11 = .ok (.aload_n 0, 1) := by decide +kernel
theorem dX4_rounds_12 : decode cX4_rounds 12 = .ok (.ldc 51, 2) := by decide +kernel
theorem dX4_rounds_14 : decode cX4_rounds 14 = .ok (.invokevirtual 52, 3) := by decide +kernel
theorem dX4_rounds_17 : decode cX4_rounds 17 = .ok (.ireturn, 1) := by decide +kernel
theorem dX4_rounds_18 : decode cX4_rounds 18 = .ok (.aload_n 0, 1) := by decide +kernel
theorem dX4_rounds_19 : decode cX4_rounds 19 = .ok (.getfield 12, 3) := by decide +kernel
theorem dX4_rounds_22 : decode cX4_rounds 22 = .ok (.aload_n 0, 1) := by decide +kernel
theorem dX4_rounds_23 : decode cX4_rounds 23 = .ok (.getfield 12, 3) := by decide +kernel
theorem dX4_rounds_26 : decode cX4_rounds 26 = .ok (.aload_n 0, 1) := by decide +kernel
theorem dX4_rounds_27 : decode cX4_rounds 27 = .ok (.getfield 12, 3) := by decide +kernel
theorem dX4_rounds_30 : decode cX4_rounds 30 = .ok (.getfield 74, 3) := by decide +kernel
theorem dX4_rounds_33 : decode cX4_rounds 33 = .ok (.iload_n 1, 1) := by decide +kernel
theorem dX4_rounds_34 : decode cX4_rounds 34 = .ok (.invokevirtual 132, 3) := by decide +kernel
theorem dX4_rounds_37 : decode cX4_rounds 37 = .ok (.putfield 74, 3) := by decide +kernel
theorem dX4_rounds_40 : decode cX4_rounds 40 = .ok (.aload_n 0, 1) := by decide +kernel
theorem dX4_rounds_41 : decode cX4_rounds 41 = .ok (.getfield 12, 3) := by decide +kernel
theorem dX4_rounds_44 : decode cX4_rounds 44 = .ok (.getfield 74, 3) := by decide +kernel
theorem dX4_rounds_47 : decode cX4_rounds 47 = .ok (.ireturn, 1) := by decide +kernel
theorem dX4_on_0 : decode cX4_on 0 = .ok (.iload_n 1, 1) := by decide +kernel
theorem dX4_on_1 : decode cX4_on 1 = .ok (.ifCond .lt 9, 3) := by decide +kernel
theorem dX4_on_4 : decode cX4_on 4 = .ok (.iload_n 1, 1) := by decide +kernel
theorem dX4_on_5 : decode cX4_on 5 = .ok (.bipush 64, 2) := by decide +kernel
theorem dX4_on_7 : decode cX4_on 7 = .ok (.if_icmp .le 12, 3) := by decide +kernel
theorem dX4_on_10 : decode cX4_on 10 = .ok (.aload_n 0, 1) := by decide +kernel
theorem dX4_on_11 : decode cX4_on 11 = .ok (.ldc 51, 2) := by decide +kernel
theorem dX4_on_13 : decode cX4_on 13 = .ok (.invokevirtual 52, 3) := by decide +kernel
theorem dX4_on_16 : decode cX4_on 16 = .ok (.goto 18, 3) := by decide +kernel
theorem dX4_on_19 : decode cX4_on 19 = .ok (.aload_n 0, 1) := by decide +kernel
theorem dX4_on_20 : decode cX4_on 20 = .ok (.getfield 12, 3) := by decide +kernel
theorem dX4_on_23 : decode cX4_on 23 = .ok (.aload_n 0, 1) := by decide +kernel
theorem dX4_on_24 : decode cX4_on 24 = .ok (.getfield 12, 3) := by decide +kernel
theorem dX4_on_27 : decode cX4_on 27 = .ok (.getfield 74, 3) := by decide +kernel
theorem dX4_on_30 : decode cX4_on 30 = .ok (.iload_n 1, 1) := by decide +kernel
theorem dX4_on_31 : decode cX4_on 31 = .ok (.invokevirtual 132, 3) := by decide +kernel
theorem dX4_on_34 : decode cX4_on 34 = .ok (.ireturn, 1) := by decide +kernel
theorem dX4_when_0 : decode cX4_when 0 = .ok (.aload_n 0, 1) := by decide +kernel
theorem dX4_when_1 : decode cX4_when 1 = .ok (.getfield 12, 3) := by decide +kernel
theorem dX4_when_4 : decode cX4_when 4 = .ok (.getfield 74, 3) := by decide +kernel
theorem dX4_when_7 : decode cX4_when 7 = .ok (.istore_n 1, 1) := by decide +kernel
theorem dX4_when_8 : decode cX4_when 8 = .ok (.iconst 0, 1) := by decide +kernel
theorem dX4_when_9 : decode cX4_when 9 = .ok (.istore_n 2, 1) := by decide +kernel
theorem dX4_when_10 : decode cX4_when 10 = .ok (.iload_n 2, 1) := by decide +kernel
theorem dX4_when_11 : decode cX4_when 11 = .ok (.sipush 256, 3) := by decide +kernel
theorem dX4_when_14 : decode cX4_when 14 = .ok (.if_icmp .gt 31, 3) := by decide +kernel
theorem dX4_when_17 : decode cX4_when 17 = .ok (.aload_n 0, 1) := by decide +kernel
theorem dX4_when_18 : decode cX4_when 18 = .ok (.getfield 12, 3) := by decide +kernel
theorem dX4_when_21 : decode cX4_when 21 = .ok (.iload_n 1, 1) := by decide +kernel
theorem dX4_when_22 : decode cX4_when 22 = .ok (.invokevirtual 123, 3) := by decide +kernel
theorem dX4_when_25 : decode cX4_when 25 = .ok (.ifCond .eq 5, 3) := by decide +kernel
theorem dX4_when_28 : decode cX4_when 28 = .ok (.iload_n 2, 1) := by decide +kernel
theorem dX4_when_29 : decode cX4_when 29 = .ok (.ireturn, 1) := by decide +kernel
theorem dX4_when_30 : decode cX4_when 30 = .ok (.aload_n 0, 1) := by decide +kernel
theorem dX4_when_31 : decode cX4_when 31 = .ok (.getfield 12, 3) := by decide +kernel
theorem dX4_when_34 : decode cX4_when 34 = .ok (.iload_n 1, 1) := by decide +kernel
theorem dX4_when_35 : decode cX4_when 35 = .ok (.invokevirtual 77, 3) := by decide +kernel
theorem dX4_when_38 : decode cX4_when 38 = .ok (.istore_n 1, 1) := by decide +kernel
theorem dX4_when_39 : decode cX4_when 39 = .ok (.iinc 2 1, 3) := by decide +kernel
theorem dX4_when_42 : decode cX4_when 42 = .ok (.goto (-32), 3) := by decide +kernel
theorem dX4_when_45 : decode cX4_when 45 = .ok (.aload_n 0, 1) := by decide +kernel
theorem dX4_when_46 : decode cX4_when 46 = .ok (.ldc 135, 2) := by decide +kernel
theorem dX4_when_48 : decode cX4_when 48 = .ok (.invokevirtual 52, 3) := by decide +kernel
theorem dX4_when_51 : decode cX4_when 51 = .ok (.ireturn, 1) := by decide +kernel
theorem dX4_ring_0 : decode cX4_ring 0 = .ok (.iload_n 1, 1) := by decide +kernel
theorem dX4_ring_1 : decode cX4_ring 1 = .ok (.ifCond .eq 15, 3) := by decide +kernel
theorem dX4_ring_4 : decode cX4_ring 4 = .ok (.iload_n 1, 1) := by decide +kernel
theorem dX4_ring_5 : decode cX4_ring 5 = .ok (.iconst 1, 1) := by decide +kernel
theorem dX4_ring_6 : decode cX4_ring 6 = .ok (.if_icmp .eq 10, 3) := by decide +kernel
theorem dX4_ring_9 : decode cX4_ring 9 = .ok (.aload_n 0, 1) := by decide +kernel
theorem dX4_ring_10 : decode cX4_ring 10 = .ok (.ldc 51, 2) := by decide +kernel
theorem dX4_ring_12 : decode cX4_ring 12 = .ok (.invokevirtual 52, 3) := by decide +kernel
theorem dX4_ring_15 : decode cX4_ring 15 = .ok (.ireturn, 1) := by decide +kernel
theorem dX4_ring_16 : decode cX4_ring 16 = .ok (.aload_n 0, 1) := by decide +kernel
theorem dX4_ring_17 : decode cX4_ring 17 = .ok (.getfield 12, 3) := by decide +kernel
theorem dX4_ring_20 : decode cX4_ring 20 = .ok (.invokevirtual 136, 3) := by decide +kernel
theorem dX4_ring_23 : decode cX4_ring 23 = .ok (.istore_n 2, 1) := by decide +kernel
theorem dX4_ring_24 : decode cX4_ring 24 = .ok (.iload_n 1, 1) := by decide +kernel
theorem dX4_ring_25 : decode cX4_ring 25 = .ok (.iconst 1, 1) := by decide +kernel
theorem dX4_ring_26 : decode cX4_ring 26 = .ok (.if_icmp .ne 7, 3) := by decide +kernel
theorem dX4_ring_29 : decode cX4_ring 29 = .ok (.iload_n 2, 1) := by decide +kernel
theorem dX4_ring_30 : decode cX4_ring 30 = .ok (.goto 11, 3) := by decide +kernel
theorem dX4_ring_33 : decode cX4_ring 33 = .ok (.aload_n 0, 1) := by decide +kernel
theorem dX4_ring_34 : decode cX4_ring 34 = .ok (.getfield 12, 3) := by decide +kernel
theorem dX4_ring_37 : decode cX4_ring 37 = .ok (.iload_n 2, 1) := by decide +kernel
theorem dX4_ring_38 : decode cX4_ring 38 = .ok (.invokevirtual 140, 3) := by decide +kernel
theorem dX4_ring_41 : decode cX4_ring 41 = .ok (.ireturn, 1) := by decide +kernel
theorem dX4_fewest_0 : decode cX4_fewest 0 = .ok (.aload_n 0, 1) := by decide +kernel
theorem dX4_fewest_1 : decode cX4_fewest 1 = .ok (.getfield 29, 3) := by decide +kernel
theorem dX4_fewest_4 : decode cX4_fewest 4 = .ok (.aload_n 0, 1) := by decide +kernel
theorem dX4_fewest_5 : decode cX4_fewest 5 = .ok (.getfield 12, 3) := by decide +kernel
theorem dX4_fewest_8 : decode cX4_fewest 8 = .ok (.invokevirtual 143, 3) := by decide +kernel
theorem dX4_fewest_11 : decode cX4_fewest 11 = .ok (.istore_n 1, 1) := by decide +kernel
theorem dX4_fewest_12 : decode cX4_fewest 12 = .ok (.iload_n 1, 1) := by decide +kernel
theorem dX4_fewest_13 : decode cX4_fewest 13 = .ok (.ifCond .ge 12, 3) := by decide +kernel
theorem dX4_fewest_16 : decode cX4_fewest 16 = .ok (.aload_n 0, 1) := by decide +kernel
theorem dX4_fewest_17 : decode cX4_fewest 17 = .ok (.ldc 135, 2) := by decide +kernel
theorem dX4_fewest_19 : decode cX4_fewest 19 = .ok (.invokevirtual 52, 3) := by decide +kernel
theorem dX4_fewest_22 : decode cX4_fewest 22 = .ok (.goto 11, 3) := by decide +kernel
theorem dX4_fewest_25 : decode cX4_fewest 25 = .ok (.aload_n 0, 1) := by decide +kernel
theorem dX4_fewest_26 : decode cX4_fewest 26 = .ok (.getfield 29, 3) := by decide +kernel
theorem dX4_fewest_29 : decode cX4_fewest 29 = .ok (.iload_n 1, 1) := by decide +kernel
theorem dX4_fewest_30 : decode cX4_fewest 30 = .ok (.invokevirtual 147, 3) := by decide +kernel
theorem dX4_fewest_33 : decode cX4_fewest 33 = .ok (.ireturn, 1) := by decide +kernel
theorem dX4_first_0 : decode cX4_first 0 = .ok (.aload_n 0, 1) := by decide +kernel
theorem dX4_first_1 : decode cX4_first 1 = .ok (.getfield 29, 3) := by decide +kernel
theorem dX4_first_4 : decode cX4_first 4 = .ok (.aload_n 0, 1) := by decide +kernel
theorem dX4_first_5 : decode cX4_first 5 = .ok (.getfield 12, 3) := by decide +kernel
theorem dX4_first_8 : decode cX4_first 8 = .ok (.invokevirtual 143, 3) := by decide +kernel
theorem dX4_first_11 : decode cX4_first 11 = .ok (.istore_n 1, 1) := by decide +kernel
theorem dX4_first_12 : decode cX4_first 12 = .ok (.iload_n 1, 1) := by decide +kernel
theorem dX4_first_13 : decode cX4_first 13 = .ok (.ifCond .ge 7, 3) := by decide +kernel
theorem dX4_first_16 : decode cX4_first 16 = .ok (.iconst (-1), 1) := by decide +kernel
theorem dX4_first_17 : decode cX4_first 17 = .ok (.goto 11, 3) := by decide +kernel
theorem dX4_first_20 : decode cX4_first 20 = .ok (.aload_n 0, 1) := by decide +kernel
theorem dX4_first_21 : decode cX4_first 21 = .ok (.getfield 29, 3) := by decide +kernel
theorem dX4_first_24 : decode cX4_first 24 = .ok (.iload_n 1, 1) := by decide +kernel
theorem dX4_first_25 : decode cX4_first 25 = .ok (.invokevirtual 150, 3) := by decide +kernel
theorem dX4_first_28 : decode cX4_first 28 = .ok (.istore_n 2, 1) := by decide +kernel
theorem dX4_first_29 : decode cX4_first 29 = .ok (.iload_n 2, 1) := by decide +kernel
theorem dX4_first_30 : decode cX4_first 30 = .ok (.ifCond .ge 12, 3) := by decide +kernel
theorem dX4_first_33 : decode cX4_first 33 = .ok (.aload_n 0, 1) := by decide +kernel
theorem dX4_first_34 : decode cX4_first 34 = .ok (.ldc 135, 2) := by decide +kernel
theorem dX4_first_36 : decode cX4_first 36 = .ok (.invokevirtual 52, 3) := by decide +kernel
theorem dX4_first_39 : decode cX4_first 39 = .ok (.goto 4, 3) := by decide +kernel
theorem dX4_first_42 : decode cX4_first 42 = .ok (.iload_n 2, 1) := by decide +kernel
theorem dX4_first_43 : decode cX4_first 43 = .ok (.ireturn, 1) := by decide +kernel
theorem dX4_settled_0 : decode cX4_settled 0 = .ok (.iconst 0, 1) := by decide +kernel
theorem dX4_settled_1 : decode cX4_settled 1 = .ok (.istore_n 1, 1) := by decide +kernel
theorem dX4_settled_2 : decode cX4_settled 2 = .ok (.iconst 0, 1) := by decide +kernel
theorem dX4_settled_3 : decode cX4_settled 3 = .ok (.istore_n 2, 1) := by decide +kernel
theorem dX4_settled_4 : decode cX4_settled 4 = .ok (.iload_n 2, 1) := by decide +kernel
theorem dX4_settled_5 : decode cX4_settled 5 = .ok (.aload_n 0, 1) := by decide +kernel
theorem dX4_settled_6 : decode cX4_settled 6 = .ok (.getfield 12, 3) := by decide +kernel
theorem dX4_settled_9 : decode cX4_settled 9 = .ok (.invokevirtual 153, 3) := by decide +kernel
theorem dX4_settled_12 : decode cX4_settled 12 = .ok (.if_icmp .ge 23, 3) := by decide +kernel
theorem dX4_settled_15 : decode cX4_settled 15 = .ok (.iload_n 1, 1) := by decide +kernel
theorem dX4_settled_16 : decode cX4_settled 16 = .ok (.aload_n 0, 1) := by decide +kernel
theorem dX4_settled_17 : decode cX4_settled 17 = .ok (.getfield 12, 3) := by decide +kernel
theorem dX4_settled_20 : decode cX4_settled 20 = .ok (.iload_n 2, 1) := by decide +kernel
theorem dX4_settled_21 : decode cX4_settled 21 = .ok (.invokevirtual 123, 3) := by decide +kernel
theorem dX4_settled_24 : decode cX4_settled 24 = .ok (.invokestatic 84, 3) := by decide +kernel
theorem dX4_settled_27 : decode cX4_settled 27 = .ok (.iadd, 1) := by decide +kernel
theorem dX4_settled_28 : decode cX4_settled 28 = .ok (.istore_n 1, 1) := by decide +kernel
theorem dX4_settled_29 : decode cX4_settled 29 = .ok (.iinc 2 1, 3) := by decide +kernel
theorem dX4_settled_32 : decode cX4_settled 32 = .ok (.goto (-28), 3) := by decide +kernel
theorem dX4_settled_35 : decode cX4_settled 35 = .ok (.iload_n 1, 1) := by decide +kernel
theorem dX4_settled_36 : decode cX4_settled 36 = .ok (.ireturn, 1) := by decide +kernel
theorem dX4_ith_0 : decode cX4_ith 0 = .ok (.iload_n 1, 1) := by decide +kernel
theorem dX4_ith_1 : decode cX4_ith 1 = .ok (.ifCond .ge 10, 3) := by decide +kernel
theorem dX4_ith_4 : decode cX4_ith 4 = .ok (.aload_n 0, 1) := by decide +kernel
theorem dX4_ith_5 : decode cX4_ith 5 = .ok (.ldc 51, 2) := by decide +kernel
theorem dX4_ith_7 : decode cX4_ith 7 = .ok (.invokevirtual 52, 3) := by decide +kernel
theorem dX4_ith_10 : decode cX4_ith 10 = .ok (.ireturn, 1) := by decide +kernel
theorem dX4_ith_11 : decode cX4_ith 11 = .ok (.iconst 0, 1) := by decide +kernel
theorem dX4_ith_12 : decode cX4_ith 12 = .ok (.istore_n 2, 1) := by decide +kernel
theorem dX4_ith_13 : decode cX4_ith 13 = .ok (.iconst 0, 1) := by decide +kernel
theorem dX4_ith_14 : decode cX4_ith 14 = .ok (.istore_n 3, 1) := by decide +kernel
theorem dX4_ith_15 : decode cX4_ith 15 = .ok (.iload_n 3, 1) := by decide +kernel
theorem dX4_ith_16 : decode cX4_ith 16 = .ok (.aload_n 0, 1) := by decide +kernel
theorem dX4_ith_17 : decode cX4_ith 17 = .ok (.getfield 12, 3) := by decide +kernel
theorem dX4_ith_20 : decode cX4_ith 20 = .ok (.invokevirtual 153, 3) := by decide +kernel
theorem dX4_ith_23 : decode cX4_ith 23 = .ok (.if_icmp .ge 30, 3) := by decide +kernel
theorem dX4_ith_26 : decode cX4_ith 26 = .ok (.aload_n 0, 1) := by decide +kernel
theorem dX4_ith_27 : decode cX4_ith 27 = .ok (.getfield 12, 3) := by decide +kernel
theorem dX4_ith_30 : decode cX4_ith 30 = .ok (.iload_n 3, 1) := by decide +kernel
theorem dX4_ith_31 : decode cX4_ith 31 = .ok (.invokevirtual 123, 3) := by decide +kernel
theorem dX4_ith_34 : decode cX4_ith 34 = .ok (.ifCond .eq 13, 3) := by decide +kernel
theorem dX4_ith_37 : decode cX4_ith 37 = .ok (.iload_n 2, 1) := by decide +kernel
theorem dX4_ith_38 : decode cX4_ith 38 = .ok (.iload_n 1, 1) := by decide +kernel
theorem dX4_ith_39 : decode cX4_ith 39 = .ok (.if_icmp .ne 5, 3) := by decide +kernel
theorem dX4_ith_42 : decode cX4_ith 42 = .ok (.iload_n 3, 1) := by decide +kernel
theorem dX4_ith_43 : decode cX4_ith 43 = .ok (.ireturn, 1) := by decide +kernel
theorem dX4_ith_44 : decode cX4_ith 44 = .ok (.iinc 2 1, 3) := by decide +kernel
theorem dX4_ith_47 : decode cX4_ith 47 = .ok (.iinc 3 1, 3) := by decide +kernel
theorem dX4_ith_50 : decode cX4_ith 50 = .ok (.goto (-35), 3) := by decide +kernel
theorem dX4_ith_53 : decode cX4_ith 53 = .ok (.aload_n 0, 1) := by decide +kernel
theorem dX4_ith_54 : decode cX4_ith 54 = .ok (.ldc 135, 2) := by decide +kernel
theorem dX4_ith_56 : decode cX4_ith 56 = .ok (.invokevirtual 52, 3) := by decide +kernel
theorem dX4_ith_59 : decode cX4_ith 59 = .ok (.ireturn, 1) := by decide +kernel
theorem dX4_sure_0 : decode cX4_sure 0 = .ok (.iload_n 1, 1) := by decide +kernel
theorem dX4_sure_1 : decode cX4_sure 1 = .ok (.ifCond .lt 8, 3) := by decide +kernel
theorem dX4_sure_4 : decode cX4_sure 4 = .ok (.iload_n 1, 1) := by decide +kernel
theorem dX4_sure_5 : decode cX4_sure 5 = .ok (.iconst 3, 1) := by decide +kernel
theorem dX4_sure_6 : decode cX4_sure 6 = .ok (.if_icmp .le 10, 3) := by decide +kernel
theorem dX4_sure_9 : decode cX4_sure 9 = .ok (.aload_n 0, 1) := by decide +kernel
theorem dX4_sure_10 : decode cX4_sure 10 = .ok (.ldc 51, 2) := by decide +kernel
theorem dX4_sure_12 : decode cX4_sure 12 = .ok (.invokevirtual 52, 3) := by decide +kernel
theorem dX4_sure_15 : decode cX4_sure 15 = .ok (.ireturn, 1) := by decide +kernel
theorem dX4_sure_16 : decode cX4_sure 16 = .ok (.aload_n 0, 1) := by decide +kernel
theorem dX4_sure_17 : decode cX4_sure 17 = .ok (.getfield 12, 3) := by decide +kernel
theorem dX4_sure_20 : decode cX4_sure 20 = .ok (.invokevirtual 156, 3) := by decide +kernel
theorem dX4_sure_23 : decode cX4_sure 23 = .ok (.istore_n 2, 1) := by decide +kernel
theorem dX4_sure_24 : decode cX4_sure 24 = .ok (.iconst 0, 1) := by decide +kernel
theorem dX4_sure_25 : decode cX4_sure 25 = .ok (.istore_n 3, 1) := by decide +kernel
theorem dX4_sure_26 : decode cX4_sure 26 = .ok (.iconst (-1), 1) := by decide +kernel
theorem dX4_sure_27 : decode cX4_sure 27 = .ok (.istore 4, 2) := by decide +kernel
theorem dX4_sure_29 : decode cX4_sure 29 = .ok (.bipush 8, 2) := by decide +kernel
theorem dX4_sure_31 : decode cX4_sure 31 = .ok (.istore 5, 2) := by decide +kernel
theorem dX4_sure_33 : decode cX4_sure 33 = .ok (.iconst 0, 1) := by decide +kernel
theorem dX4_sure_34 : decode cX4_sure 34 = .ok (.istore 6, 2) := by decide +kernel
theorem dX4_sure_36 : decode cX4_sure 36 = .ok (.iload 6, 2) := by decide +kernel
theorem dX4_sure_38 : decode cX4_sure 38 = .ok (.aload_n 0, 1) := by decide +kernel
theorem dX4_sure_39 : decode cX4_sure 39 = .ok (.getfield 12, 3) := by decide +kernel
theorem dX4_sure_42 : decode cX4_sure 42 = .ok (.invokevirtual 153, 3) := by decide +kernel
theorem dX4_sure_45 : decode cX4_sure 45 = .ok (.if_icmp .ge 55, 3) := by decide +kernel
theorem dX4_sure_48 : decode cX4_sure 48 = .ok (.aload_n 0, 1) := by decide +kernel
theorem dX4_sure_49 : decode cX4_sure 49 = .ok (.getfield 12, 3) := by decide +kernel
theorem dX4_sure_52 : decode cX4_sure 52 = .ok (.iload 6, 2) := by decide +kernel
theorem dX4_sure_54 : decode cX4_sure 54 = .ok (.invokevirtual 123, 3) := by decide +kernel
theorem dX4_sure_57 : decode cX4_sure 57 = .ok (.ifCond .eq 37, 3) := by decide +kernel
theorem dX4_sure_60 : decode cX4_sure 60 = .ok (.iload_n 2, 1) := by decide +kernel
theorem dX4_sure_61 : decode cX4_sure 61 = .ok (.iload 6, 2) := by decide +kernel
theorem dX4_sure_63 : decode cX4_sure 63 = .ok (.iand, 1) := by decide +kernel
theorem dX4_sure_64 : decode cX4_sure 64 = .ok (.istore_n 2, 1) := by decide +kernel
theorem dX4_sure_65 : decode cX4_sure 65 = .ok (.iload_n 3, 1) := by decide +kernel
theorem dX4_sure_66 : decode cX4_sure 66 = .ok (.iload 6, 2) := by decide +kernel
theorem dX4_sure_68 : decode cX4_sure 68 = .ok (.ior, 1) := by decide +kernel
theorem dX4_sure_69 : decode cX4_sure 69 = .ok (.istore_n 3, 1) := by decide +kernel
theorem dX4_sure_70 : decode cX4_sure 70 = .ok (.iload 4, 2) := by decide +kernel
theorem dX4_sure_72 : decode cX4_sure 72 = .ok (.iload 6, 2) := by decide +kernel
theorem dX4_sure_74 : decode cX4_sure 74 = .ok (.invokestatic 118, 3) := by decide +kernel
theorem dX4_sure_77 : decode cX4_sure 77 = .ok (.invokestatic 159, 3) := by decide +kernel
theorem dX4_sure_80 : decode cX4_sure 80 = .ok (.istore 4, 2) := by decide +kernel
theorem dX4_sure_82 : decode cX4_sure 82 = .ok (.iload 5, 2) := by decide +kernel
theorem dX4_sure_84 : decode cX4_sure 84 = .ok (.iload 6, 2) := by decide +kernel
theorem dX4_sure_86 : decode cX4_sure 86 = .ok (.invokestatic 118, 3) := by decide +kernel
theorem dX4_sure_89 : decode cX4_sure 89 = .ok (.invokestatic 164, 3) := by decide +kernel
theorem dX4_sure_92 : decode cX4_sure 92 = .ok (.istore 5, 2) := by decide +kernel
theorem dX4_sure_94 : decode cX4_sure 94 = .ok (.iinc 6 1, 3) := by decide +kernel
theorem dX4_sure_97 : decode cX4_sure 97 = .ok (.goto (-61), 3) := by decide +kernel
theorem dX4_sure_100 : decode cX4_sure 100 = .ok (.iload 4, 2) := by decide +kernel
theorem dX4_sure_102 : decode cX4_sure 102 = .ok (.ifCond .ge 10, 3) := by decide +kernel
theorem dX4_sure_105 : decode cX4_sure 105 = .ok (.aload_n 0, 1) := by decide +kernel
theorem dX4_sure_106 : decode cX4_sure 106 = .ok (.ldc 135, 2) := by decide +kernel
theorem dX4_sure_108 : decode cX4_sure 108 = .ok (.invokevirtual 52, 3) := by decide +kernel
theorem dX4_sure_111 : decode cX4_sure 111 = .ok (.ireturn, 1) := by decide +kernel
theorem dX4_sure_112 : decode cX4_sure 112 = .ok (.iload_n 1, 1) := by decide +kernel
theorem dX4_sure_113 : decode cX4_sure 113 = .ok (.tableswitch 34 0 2 #[27, 29, 31], 27) := by decide +kernel
theorem dX4_sure_140 : decode cX4_sure 140 = .ok (.iload_n 2, 1) := by decide +kernel
theorem dX4_sure_141 : decode cX4_sure 141 = .ok (.ireturn, 1) := by decide +kernel
theorem dX4_sure_142 : decode cX4_sure 142 = .ok (.iload_n 3, 1) := by decide +kernel
theorem dX4_sure_143 : decode cX4_sure 143 = .ok (.ireturn, 1) := by decide +kernel
theorem dX4_sure_144 : decode cX4_sure 144 = .ok (.iload 4, 2) := by decide +kernel
theorem dX4_sure_146 : decode cX4_sure 146 = .ok (.ireturn, 1) := by decide +kernel
theorem dX4_sure_147 : decode cX4_sure 147 = .ok (.iload 5, 2) := by decide +kernel
theorem dX4_sure_149 : decode cX4_sure 149 = .ok (.ireturn, 1) := by decide +kernel
theorem dX4_basin_0 : decode cX4_basin 0 = .ok (.iconst 0, 1) := by decide +kernel
theorem dX4_basin_1 : decode cX4_basin 1 = .ok (.istore_n 1, 1) := by decide +kernel
theorem dX4_basin_2 : decode cX4_basin 2 = .ok (.iconst 0, 1) := by decide +kernel
theorem dX4_basin_3 : decode cX4_basin 3 = .ok (.istore_n 2, 1) := by decide +kernel
theorem dX4_basin_4 : decode cX4_basin 4 = .ok (.iload_n 2, 1) := by decide +kernel
theorem dX4_basin_5 : decode cX4_basin 5 = .ok (.aload_n 0, 1) := by decide +kernel
theorem dX4_basin_6 : decode cX4_basin 6 = .ok (.getfield 12, 3) := by decide +kernel
theorem dX4_basin_9 : decode cX4_basin 9 = .ok (.invokevirtual 153, 3) := by decide +kernel
theorem dX4_basin_12 : decode cX4_basin 12 = .ok (.if_icmp .ge 33, 3) := by decide +kernel
theorem dX4_basin_15 : decode cX4_basin 15 = .ok (.iload_n 1, 1) := by decide +kernel
theorem dX4_basin_16 : decode cX4_basin 16 = .ok (.aload_n 0, 1) := by decide +kernel
theorem dX4_basin_17 : decode cX4_basin 17 = .ok (.getfield 12, 3) := by decide +kernel
theorem dX4_basin_20 : decode cX4_basin 20 = .ok (.aload_n 0, 1) := by decide +kernel
theorem dX4_basin_21 : decode cX4_basin 21 = .ok (.getfield 12, 3) := by decide +kernel
theorem dX4_basin_24 : decode cX4_basin 24 = .ok (.iload_n 2, 1) := by decide +kernel
theorem dX4_basin_25 : decode cX4_basin 25 = .ok (.sipush 256, 3) := by decide +kernel
theorem dX4_basin_28 : decode cX4_basin 28 = .ok (.invokevirtual 132, 3) := by decide +kernel
theorem dX4_basin_31 : decode cX4_basin 31 = .ok (.invokevirtual 123, 3) := by decide +kernel
theorem dX4_basin_34 : decode cX4_basin 34 = .ok (.invokestatic 84, 3) := by decide +kernel
theorem dX4_basin_37 : decode cX4_basin 37 = .ok (.iadd, 1) := by decide +kernel
theorem dX4_basin_38 : decode cX4_basin 38 = .ok (.istore_n 1, 1) := by decide +kernel
theorem dX4_basin_39 : decode cX4_basin 39 = .ok (.iinc 2 1, 3) := by decide +kernel
theorem dX4_basin_42 : decode cX4_basin 42 = .ok (.goto (-38), 3) := by decide +kernel
theorem dX4_basin_45 : decode cX4_basin 45 = .ok (.iload_n 1, 1) := by decide +kernel
theorem dX4_basin_46 : decode cX4_basin 46 = .ok (.ireturn, 1) := by decide +kernel
theorem dX4_odds_0 : decode cX4_odds 0 = .ok (.aload_n 0, 1) := by decide +kernel
theorem dX4_odds_1 : decode cX4_odds 1 = .ok (.getfield 12, 3) := by decide +kernel
theorem dX4_odds_4 : decode cX4_odds 4 = .ok (.iload_n 1, 1) := by decide +kernel
theorem dX4_odds_5 : decode cX4_odds 5 = .ok (.invokevirtual 65, 3) := by decide +kernel
theorem dX4_odds_8 : decode cX4_odds 8 = .ok (.ifCond .eq 12, 3) := by decide +kernel
theorem dX4_odds_11 : decode cX4_odds 11 = .ok (.iload_n 2, 1) := by decide +kernel
theorem dX4_odds_12 : decode cX4_odds 12 = .ok (.ifCond .eq 16, 3) := by decide +kernel
theorem dX4_odds_15 : decode cX4_odds 15 = .ok (.iload_n 2, 1) := by decide +kernel
theorem dX4_odds_16 : decode cX4_odds 16 = .ok (.iconst 1, 1) := by decide +kernel
theorem dX4_odds_17 : decode cX4_odds 17 = .ok (.if_icmp .eq 11, 3) := by decide +kernel
theorem dX4_odds_20 : decode cX4_odds 20 = .ok (.aload_n 0, 1) := by decide +kernel
theorem dX4_odds_21 : decode cX4_odds 21 = .ok (.ldc 51, 2) := by decide +kernel
theorem dX4_odds_23 : decode cX4_odds 23 = .ok (.invokevirtual 52, 3) := by decide +kernel
theorem dX4_odds_26 : decode cX4_odds 26 = .ok (.i2l, 1) := by decide +kernel
theorem dX4_odds_27 : decode cX4_odds 27 = .ok (.lreturn, 1) := by decide +kernel
theorem dX4_odds_28 : decode cX4_odds 28 = .ok (.lconst 0, 1) := by decide +kernel
theorem dX4_odds_29 : decode cX4_odds 29 = .ok (.lstore_n 3, 1) := by decide +kernel
theorem dX4_odds_30 : decode cX4_odds 30 = .ok (.aload_n 0, 1) := by decide +kernel
theorem dX4_odds_31 : decode cX4_odds 31 = .ok (.getfield 12, 3) := by decide +kernel
theorem dX4_odds_34 : decode cX4_odds 34 = .ok (.invokevirtual 153, 3) := by decide +kernel
theorem dX4_odds_37 : decode cX4_odds 37 = .ok (.i2l, 1) := by decide +kernel
theorem dX4_odds_38 : decode cX4_odds 38 = .ok (.lstore 5, 2) := by decide +kernel
theorem dX4_odds_40 : decode cX4_odds 40 = .ok (.iconst 0, 1) := by decide +kernel
theorem dX4_odds_41 : decode cX4_odds 41 = .ok (.istore 7, 2) := by decide +kernel
theorem dX4_odds_43 : decode cX4_odds 43 = .ok (.iload 7, 2) := by decide +kernel
theorem dX4_odds_45 : decode cX4_odds 45 = .ok (.aload_n 0, 1) := by decide +kernel
theorem dX4_odds_46 : decode cX4_odds 46 = .ok (.getfield 12, 3) := by decide +kernel
theorem dX4_odds_49 : decode cX4_odds 49 = .ok (.invokevirtual 153, 3) := by decide +kernel
theorem dX4_odds_52 : decode cX4_odds 52 = .ok (.if_icmp .ge 45, 3) := by decide +kernel
theorem dX4_odds_55 : decode cX4_odds 55 = .ok (.aload_n 0, 1) := by decide +kernel
theorem dX4_odds_56 : decode cX4_odds 56 = .ok (.getfield 12, 3) := by decide +kernel
theorem dX4_odds_59 : decode cX4_odds 59 = .ok (.iload 7, 2) := by decide +kernel
theorem dX4_odds_61 : decode cX4_odds 61 = .ok (.sipush 256, 3) := by decide +kernel
theorem dX4_odds_64 : decode cX4_odds 64 = .ok (.invokevirtual 132, 3) := by decide +kernel
theorem dX4_odds_67 : decode cX4_odds 67 = .ok (.istore 8, 2) := by decide +kernel
theorem dX4_odds_69 : decode cX4_odds 69 = .ok (.aload_n 0, 1) := by decide +kernel
theorem dX4_odds_70 : decode cX4_odds 70 = .ok (.getfield 12, 3) := by decide +kernel
theorem dX4_odds_73 : decode cX4_odds 73 = .ok (.iload 8, 2) := by decide +kernel
theorem dX4_odds_75 : decode cX4_odds 75 = .ok (.invokevirtual 123, 3) := by decide +kernel
theorem dX4_odds_78 : decode cX4_odds 78 = .ok (.ifCond .eq 13, 3) := by decide +kernel
theorem dX4_odds_81 : decode cX4_odds 81 = .ok (.lload_n 3, 1) := by decide +kernel
theorem dX4_odds_82 : decode cX4_odds 82 = .ok (.iload 8, 2) := by decide +kernel
theorem dX4_odds_84 : decode cX4_odds 84 = .ok (.iload_n 1, 1) := by decide +kernel
theorem dX4_odds_85 : decode cX4_odds 85 = .ok (.ishr, 1) := by decide +kernel
theorem dX4_odds_86 : decode cX4_odds 86 = .ok (.iconst 1, 1) := by decide +kernel
theorem dX4_odds_87 : decode cX4_odds 87 = .ok (.iand, 1) := by decide +kernel
theorem dX4_odds_88 : decode cX4_odds 88 = .ok (.i2l, 1) := by decide +kernel
theorem dX4_odds_89 : decode cX4_odds 89 = .ok (.ladd, 1) := by decide +kernel
theorem dX4_odds_90 : decode cX4_odds 90 = .ok (.lstore_n 3, 1) := by decide +kernel
theorem dX4_odds_91 : decode cX4_odds 91 = .ok (.iinc 7 1, 3) := by decide +kernel
theorem dX4_odds_94 : decode cX4_odds 94 = .ok (.goto (-51), 3) := by decide +kernel
theorem dX4_odds_97 : decode cX4_odds 97 = .ok (.iconst 0, 1) := by decide +kernel
theorem dX4_odds_98 : decode cX4_odds 98 = .ok (.istore 7, 2) := by decide +kernel
theorem dX4_odds_100 : decode cX4_odds 100 = .ok (.iload 7, 2) := by decide +kernel
theorem dX4_odds_102 : decode cX4_odds 102 = .ok (.bipush 8, 2) := by decide +kernel
theorem dX4_odds_104 : decode cX4_odds 104 = .ok (.if_icmp .ge 44, 3) := by decide +kernel
theorem dX4_odds_107 : decode cX4_odds 107 = .ok (.lload_n 3, 1) := by decide +kernel
theorem dX4_odds_108 : decode cX4_odds 108 = .ok (.ldc2_w 167, 3) := by decide +kernel
theorem dX4_odds_111 : decode cX4_odds 111 = .ok (.lrem, 1) := by decide +kernel
theorem dX4_odds_112 : decode cX4_odds 112 = .ok (.lconst 0, 1) := by decide +kernel
theorem dX4_odds_113 : decode cX4_odds 113 = .ok (.lcmp, 1) := by decide +kernel
theorem dX4_odds_114 : decode cX4_odds 114 = .ok (.ifCond .ne 34, 3) := by decide +kernel
theorem dX4_odds_117 : decode cX4_odds 117 = .ok (.lload 5, 2) := by decide +kernel
theorem dX4_odds_119 : decode cX4_odds 119 = .ok (.ldc2_w 167, 3) := by decide +kernel
theorem dX4_odds_122 : decode cX4_odds 122 = .ok (.lrem, 1) := by decide +kernel
theorem dX4_odds_123 : decode cX4_odds 123 = .ok (.lconst 0, 1) := by decide +kernel
theorem dX4_odds_124 : decode cX4_odds 124 = .ok (.lcmp, 1) := by decide +kernel
theorem dX4_odds_125 : decode cX4_odds 125 = .ok (.ifCond .ne 23, 3) := by decide +kernel
theorem dX4_odds_128 : decode cX4_odds 128 = .ok (.lload_n 3, 1) := by decide +kernel
theorem dX4_odds_129 : decode cX4_odds 129 = .ok (.ldc2_w 167, 3) := by decide +kernel
theorem dX4_odds_132 : decode cX4_odds 132 = .ok (.ldiv, 1) := by decide +kernel
theorem dX4_odds_133 : decode cX4_odds 133 = .ok (.lstore_n 3, 1) := by decide +kernel
theorem dX4_odds_134 : decode cX4_odds 134 = .ok (.lload 5, 2) := by decide +kernel
theorem dX4_odds_136 : decode cX4_odds 136 = .ok (.ldc2_w 167, 3) := by decide +kernel
theorem dX4_odds_139 : decode cX4_odds 139 = .ok (.ldiv, 1) := by decide +kernel
theorem dX4_odds_140 : decode cX4_odds 140 = .ok (.lstore 5, 2) := by decide +kernel
theorem dX4_odds_142 : decode cX4_odds 142 = .ok (.iinc 7 1, 3) := by decide +kernel
theorem dX4_odds_145 : decode cX4_odds 145 = .ok (.goto (-45), 3) := by decide +kernel
theorem dX4_odds_148 : decode cX4_odds 148 = .ok (.iload_n 2, 1) := by decide +kernel
theorem dX4_odds_149 : decode cX4_odds 149 = .ok (.ifCond .ne 7, 3) := by decide +kernel
theorem dX4_odds_152 : decode cX4_odds 152 = .ok (.lload_n 3, 1) := by decide +kernel
theorem dX4_odds_153 : decode cX4_odds 153 = .ok (.goto 5, 3) := by decide +kernel
theorem dX4_odds_156 : decode cX4_odds 156 = .ok (.lload 5, 2) := by decide +kernel
theorem dX4_odds_158 : decode cX4_odds 158 = .ok (.lreturn, 1) := by decide +kernel
theorem dX4_last_0 : decode cX4_last 0 = .ok (.aload_n 0, 1) := by decide +kernel
theorem dX4_last_1 : decode cX4_last 1 = .ok (.getfield 12, 3) := by decide +kernel
theorem dX4_last_4 : decode cX4_last 4 = .ok (.iload_n 1, 1) := by decide +kernel
theorem dX4_last_5 : decode cX4_last 5 = .ok (.invokevirtual 115, 3) := by decide +kernel
theorem dX4_last_8 : decode cX4_last 8 = .ok (.ifCond .eq 21, 3) := by decide +kernel
theorem dX4_last_11 : decode cX4_last 11 = .ok (.aload_n 0, 1) := by decide +kernel
theorem dX4_last_12 : decode cX4_last 12 = .ok (.getfield 12, 3) := by decide +kernel
theorem dX4_last_15 : decode cX4_last 15 = .ok (.iload_n 1, 1) := by decide +kernel
theorem dX4_last_16 : decode cX4_last 16 = .ok (.aload_n 0, 1) := by decide +kernel
theorem dX4_last_17 : decode cX4_last 17 = .ok (.getfield 12, 3) := by decide +kernel
theorem dX4_last_20 : decode cX4_last 20 = .ok (.invokevirtual 156, 3) := by decide +kernel
theorem dX4_last_23 : decode cX4_last 23 = .ok (.invokevirtual 169, 3) := by decide +kernel
theorem dX4_last_26 : decode cX4_last 26 = .ok (.goto 9, 3) := by decide +kernel
theorem dX4_last_29 : decode cX4_last 29 = .ok (.aload_n 0, 1) := by decide +kernel
theorem dX4_last_30 : decode cX4_last 30 = .ok (.ldc 51, 2) := by decide +kernel
theorem dX4_last_32 : decode cX4_last 32 = .ok (.invokevirtual 52, 3) := by decide +kernel
theorem dX4_last_35 : decode cX4_last 35 = .ok (.ireturn, 1) := by decide +kernel
theorem dX4_buys_0 : decode cX4_buys 0 = .ok (.iload_n 1, 1) := by decide +kernel
theorem dX4_buys_1 : decode cX4_buys 1 = .ok (.ifCond .lt 9, 3) := by decide +kernel
theorem dX4_buys_4 : decode cX4_buys 4 = .ok (.iload_n 1, 1) := by decide +kernel
theorem dX4_buys_5 : decode cX4_buys 5 = .ok (.bipush 8, 2) := by decide +kernel
theorem dX4_buys_7 : decode cX4_buys 7 = .ok (.if_icmp .le 10, 3) := by decide +kernel
theorem dX4_buys_10 : decode cX4_buys 10 = .ok (.aload_n 0, 1) := by decide +kernel
theorem dX4_buys_11 : decode cX4_buys 11 = .ok (.ldc 51, 2) := by decide +kernel
theorem dX4_buys_13 : decode cX4_buys 13 = .ok (.invokevirtual 52, 3) := by decide +kernel
theorem dX4_buys_16 : decode cX4_buys 16 = .ok (.ireturn, 1) := by decide +kernel
theorem dX4_buys_17 : decode cX4_buys 17 = .ok (.aload_n 0, 1) := by decide +kernel
theorem dX4_buys_18 : decode cX4_buys 18 = .ok (.iload_n 1, 1) := by decide +kernel
theorem dX4_buys_19 : decode cX4_buys 19 = .ok (.invokevirtual 172, 3) := by decide +kernel
theorem dX4_buys_22 : decode cX4_buys 22 = .ok (.istore_n 2, 1) := by decide +kernel
theorem dX4_buys_23 : decode cX4_buys 23 = .ok (.iload_n 2, 1) := by decide +kernel
theorem dX4_buys_24 : decode cX4_buys 24 = .ok (.ifCond .ge 12, 3) := by decide +kernel
theorem dX4_buys_27 : decode cX4_buys 27 = .ok (.aload_n 0, 1) := by decide +kernel
theorem dX4_buys_28 : decode cX4_buys 28 = .ok (.ldc 135, 2) := by decide +kernel
theorem dX4_buys_30 : decode cX4_buys 30 = .ok (.invokevirtual 52, 3) := by decide +kernel
theorem dX4_buys_33 : decode cX4_buys 33 = .ok (.goto 4, 3) := by decide +kernel
theorem dX4_buys_36 : decode cX4_buys 36 = .ok (.iload_n 2, 1) := by decide +kernel
theorem dX4_buys_37 : decode cX4_buys 37 = .ok (.ireturn, 1) := by decide +kernel
theorem dX4_price_0 : decode cX4_price 0 = .ok (.iload_n 1, 1) := by decide +kernel
theorem dX4_price_1 : decode cX4_price 1 = .ok (.ifCond .lt 9, 3) := by decide +kernel
theorem dX4_price_4 : decode cX4_price 4 = .ok (.iload_n 1, 1) := by decide +kernel
theorem dX4_price_5 : decode cX4_price 5 = .ok (.bipush 8, 2) := by decide +kernel
theorem dX4_price_7 : decode cX4_price 7 = .ok (.if_icmp .le 10, 3) := by decide +kernel
theorem dX4_price_10 : decode cX4_price 10 = .ok (.aload_n 0, 1) := by decide +kernel
theorem dX4_price_11 : decode cX4_price 11 = .ok (.ldc 51, 2) := by decide +kernel
theorem dX4_price_13 : decode cX4_price 13 = .ok (.invokevirtual 52, 3) := by decide +kernel
theorem dX4_price_16 : decode cX4_price 16 = .ok (.ireturn, 1) := by decide +kernel
theorem dX4_price_17 : decode cX4_price 17 = .ok (.aload_n 0, 1) := by decide +kernel
theorem dX4_price_18 : decode cX4_price 18 = .ok (.iload_n 1, 1) := by decide +kernel
theorem dX4_price_19 : decode cX4_price 19 = .ok (.invokevirtual 172, 3) := by decide +kernel
theorem dX4_price_22 : decode cX4_price 22 = .ok (.istore_n 2, 1) := by decide +kernel
theorem dX4_price_23 : decode cX4_price 23 = .ok (.iload_n 2, 1) := by decide +kernel
theorem dX4_price_24 : decode cX4_price 24 = .ok (.ifCond .ge 12, 3) := by decide +kernel
theorem dX4_price_27 : decode cX4_price 27 = .ok (.aload_n 0, 1) := by decide +kernel
theorem dX4_price_28 : decode cX4_price 28 = .ok (.ldc 135, 2) := by decide +kernel
theorem dX4_price_30 : decode cX4_price 30 = .ok (.invokevirtual 52, 3) := by decide +kernel
theorem dX4_price_33 : decode cX4_price 33 = .ok (.goto 11, 3) := by decide +kernel
theorem dX4_price_36 : decode cX4_price 36 = .ok (.aload_n 0, 1) := by decide +kernel
theorem dX4_price_37 : decode cX4_price 37 = .ok (.getfield 12, 3) := by decide +kernel
theorem dX4_price_40 : decode cX4_price 40 = .ok (.iload_n 2, 1) := by decide +kernel
theorem dX4_price_41 : decode cX4_price 41 = .ok (.invokevirtual 126, 3) := by decide +kernel
theorem dX4_price_44 : decode cX4_price 44 = .ok (.ireturn, 1) := by decide +kernel
theorem dX4_spoils_0 : decode cX4_spoils 0 = .ok (.iconst (-1), 1) := by decide +kernel
theorem dX4_spoils_1 : decode cX4_spoils 1 = .ok (.istore_n 1, 1) := by decide +kernel
theorem dX4_spoils_2 : decode cX4_spoils 2 = .ok (.bipush 9, 2) := by decide +kernel
theorem dX4_spoils_4 : decode cX4_spoils 4 = .ok (.istore_n 2, 1) := by decide +kernel
theorem dX4_spoils_5 : decode cX4_spoils 5 = .ok (.iconst 0, 1) := by decide +kernel
theorem dX4_spoils_6 : decode cX4_spoils 6 = .ok (.istore_n 3, 1) := by decide +kernel
theorem dX4_spoils_7 : decode cX4_spoils 7 = .ok (.iload_n 3, 1) := by decide +kernel
theorem dX4_spoils_8 : decode cX4_spoils 8 = .ok (.aload_n 0, 1) := by decide +kernel
theorem dX4_spoils_9 : decode cX4_spoils 9 = .ok (.getfield 12, 3) := by decide +kernel
theorem dX4_spoils_12 : decode cX4_spoils 12 = .ok (.getfield 56, 3) := by decide +kernel
theorem dX4_spoils_15 : decode cX4_spoils 15 = .ok (.if_icmp .ge 46, 3) := by decide +kernel
theorem dX4_spoils_18 : decode cX4_spoils 18 = .ok (.aload_n 0, 1) := by decide +kernel
theorem dX4_spoils_19 : decode cX4_spoils 19 = .ok (.getfield 12, 3) := by decide +kernel
theorem dX4_spoils_22 : decode cX4_spoils 22 = .ok (.iconst 0, 1) := by decide +kernel
theorem dX4_spoils_23 : decode cX4_spoils 23 = .ok (.aload_n 0, 1) := by decide +kernel
theorem dX4_spoils_24 : decode cX4_spoils 24 = .ok (.getfield 12, 3) := by decide +kernel
theorem dX4_spoils_27 : decode cX4_spoils 27 = .ok (.invokevirtual 156, 3) := by decide +kernel
theorem dX4_spoils_30 : decode cX4_spoils 30 = .ok (.iconst 1, 1) := by decide +kernel
theorem dX4_spoils_31 : decode cX4_spoils 31 = .ok (.iload_n 3, 1) := by decide +kernel
theorem dX4_spoils_32 : decode cX4_spoils 32 = .ok (.ishl, 1) := by decide +kernel
theorem dX4_spoils_33 : decode cX4_spoils 33 = .ok (.iconst (-1), 1) := by decide +kernel
theorem dX4_spoils_34 : decode cX4_spoils 34 = .ok (.ixor, 1) := by decide +kernel
theorem dX4_spoils_35 : decode cX4_spoils 35 = .ok (.iand, 1) := by decide +kernel
theorem dX4_spoils_36 : decode cX4_spoils 36 = .ok (.invokevirtual 169, 3) := by decide +kernel
theorem dX4_spoils_39 : decode cX4_spoils 39 = .ok (.invokestatic 118, 3) := by decide +kernel
theorem dX4_spoils_42 : decode cX4_spoils 42 = .ok (.istore 4, 2) := by decide +kernel
theorem dX4_spoils_44 : decode cX4_spoils 44 = .ok (.iload 4, 2) := by decide +kernel
theorem dX4_spoils_46 : decode cX4_spoils 46 = .ok (.iload_n 2, 1) := by decide +kernel
theorem dX4_spoils_47 : decode cX4_spoils 47 = .ok (.if_icmp .ge 8, 3) := by decide +kernel
theorem dX4_spoils_50 : decode cX4_spoils 50 = .ok (.iload 4, 2) := by decide +kernel
theorem dX4_spoils_52 : decode cX4_spoils 52 = .ok (.istore_n 2, 1) := by decide +kernel
theorem dX4_spoils_53 : decode cX4_spoils 53 = .ok (.iload_n 3, 1) := by decide +kernel
theorem dX4_spoils_54 : decode cX4_spoils 54 = .ok (.istore_n 1, 1) := by decide +kernel
theorem dX4_spoils_55 : decode cX4_spoils 55 = .ok (.iinc 3 1, 3) := by decide +kernel
theorem dX4_spoils_58 : decode cX4_spoils 58 = .ok (.goto (-51), 3) := by decide +kernel
theorem dX4_spoils_61 : decode cX4_spoils 61 = .ok (.iload_n 1, 1) := by decide +kernel
theorem dX4_spoils_62 : decode cX4_spoils 62 = .ok (.ifCond .ge 12, 3) := by decide +kernel
theorem dX4_spoils_65 : decode cX4_spoils 65 = .ok (.aload_n 0, 1) := by decide +kernel
theorem dX4_spoils_66 : decode cX4_spoils 66 = .ok (.ldc 135, 2) := by decide +kernel
theorem dX4_spoils_68 : decode cX4_spoils 68 = .ok (.invokevirtual 52, 3) := by decide +kernel
theorem dX4_spoils_71 : decode cX4_spoils 71 = .ok (.goto 4, 3) := by decide +kernel
theorem dX4_spoils_74 : decode cX4_spoils 74 = .ok (.iload_n 1, 1) := by decide +kernel
theorem dX4_spoils_75 : decode cX4_spoils 75 = .ok (.ireturn, 1) := by decide +kernel
theorem dX4_invites_0 : decode cX4_invites 0 = .ok (.iload_n 1, 1) := by decide +kernel
theorem dX4_invites_1 : decode cX4_invites 1 = .ok (.ifCond .lt 14, 3) := by decide +kernel
theorem dX4_invites_4 : decode cX4_invites 4 = .ok (.iload_n 2, 1) := by decide +kernel
theorem dX4_invites_5 : decode cX4_invites 5 = .ok (.bipush 8, 2) := by decide +kernel
theorem dX4_invites_7 : decode cX4_invites 7 = .ok (.if_icmp .gt 8, 3) := by decide +kernel
theorem dX4_invites_10 : decode cX4_invites 10 = .ok (.iload_n 1, 1) := by decide +kernel
theorem dX4_invites_11 : decode cX4_invites 11 = .ok (.iload_n 2, 1) := by decide +kernel
theorem dX4_invites_12 : decode cX4_invites 12 = .ok (.if_icmp .le 10, 3) := by decide +kernel
theorem dX4_invites_15 : decode cX4_invites 15 = .ok (.aload_n 0, 1) := by decide +kernel
theorem dX4_invites_16 : decode cX4_invites 16 = .ok (.ldc 51, 2) := by decide +kernel
theorem dX4_invites_18 : decode cX4_invites 18 = .ok (.invokevirtual 52, 3) := by decide +kernel
theorem dX4_invites_21 : decode cX4_invites 21 = .ok (.ireturn, 1) := by decide +kernel
theorem dX4_invites_22 : decode cX4_invites 22 = .ok (.iconst (-1), 1) := by decide +kernel
theorem dX4_invites_23 : decode cX4_invites 23 = .ok (.istore_n 3, 1) := by decide +kernel
theorem dX4_invites_24 : decode cX4_invites 24 = .ok (.iconst 0, 1) := by decide +kernel
theorem dX4_invites_25 : decode cX4_invites 25 = .ok (.istore 4, 2) := by decide +kernel
theorem dX4_invites_27 : decode cX4_invites 27 = .ok (.iload 4, 2) := by decide +kernel
theorem dX4_invites_29 : decode cX4_invites 29 = .ok (.aload_n 0, 1) := by decide +kernel
theorem dX4_invites_30 : decode cX4_invites 30 = .ok (.getfield 12, 3) := by decide +kernel
theorem dX4_invites_33 : decode cX4_invites 33 = .ok (.invokevirtual 153, 3) := by decide +kernel
theorem dX4_invites_36 : decode cX4_invites 36 = .ok (.if_icmp .ge 51, 3) := by decide +kernel
theorem dX4_invites_39 : decode cX4_invites 39 = .ok (.iload_n 3, 1) := by decide +kernel
theorem dX4_invites_40 : decode cX4_invites 40 = .ok (.ifCond .lt 15, 3) := by decide +kernel
theorem dX4_invites_43 : decode cX4_invites 43 = .ok (.iload 4, 2) := by decide +kernel
theorem dX4_invites_45 : decode cX4_invites 45 = .ok (.invokestatic 118, 3) := by decide +kernel
theorem dX4_invites_48 : decode cX4_invites 48 = .ok (.iload_n 3, 1) := by decide +kernel
theorem dX4_invites_49 : decode cX4_invites 49 = .ok (.invokestatic 118, 3) := by decide +kernel
theorem dX4_invites_52 : decode cX4_invites 52 = .ok (.if_icmp .ge 7, 3) := by decide +kernel
theorem dX4_invites_55 : decode cX4_invites 55 = .ok (.iconst 1, 1) := by decide +kernel
theorem dX4_invites_56 : decode cX4_invites 56 = .ok (.goto 4, 3) := by decide +kernel
