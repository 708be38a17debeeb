theorem dX5_every_52 : decode cX5_every 52 = .ok (.iadd, 1) := by decide +kernel
theorem dX5_every_53 : decode cX5_every 53 = .ok (.putfield 105, 3) := by decide +kernel
theorem dX5_every_56 : decode cX5_every 56 = .ok (.goto (-52), 3) := by decide +kernel
theorem dX5_every_59 : decode cX5_every 59 = .ok (.return_, 1) := by decide +kernel
theorem dX5_any_0 : decode cX5_any 0 = .ok (.aload_n 0, 1) := by decide +kernel
theorem dX5_any_1 : decode cX5_any 1 = .ok (.invokevirtual 142, 3) := by decide +kernel
theorem dX5_any_4 : decode cX5_any 4 = .ok (.aload_n 0, 1) := by decide +kernel
theorem dX5_any_5 : decode cX5_any 5 = .ok (.getfield 102, 3) := by decide +kernel
theorem dX5_any_8 : decode cX5_any 8 = .ok (.ifCond .ge 51, 3) := by decide +kernel
theorem dX5_any_11 : decode cX5_any 11 = .ok (.aload_n 0, 1) := by decide +kernel
theorem dX5_any_12 : decode cX5_any 12 = .ok (.invokevirtual 114, 3) := by decide +kernel
theorem dX5_any_15 : decode cX5_any 15 = .ok (.bipush 124, 2) := by decide +kernel
theorem dX5_any_17 : decode cX5_any 17 = .ok (.if_icmp .ne 42, 3) := by decide +kernel
theorem dX5_any_20 : decode cX5_any 20 = .ok (.aload_n 0, 1) := by decide +kernel
theorem dX5_any_21 : decode cX5_any 21 = .ok (.dup, 1) := by decide +kernel
theorem dX5_any_22 : decode cX5_any 22 = .ok (.getfield 95, 3) := by decide +kernel
theorem dX5_any_25 : decode cX5_any 25 = .ok (.iconst 1, 1) := by decide +kernel
theorem dX5_any_26 : decode cX5_any 26 = .ok (.iadd, 1) := by decide +kernel
theorem dX5_any_27 : decode cX5_any 27 = .ok (.putfield 95, 3) := by decide +kernel
theorem dX5_any_30 : decode cX5_any 30 = .ok (.aload_n 0, 1) := by decide +kernel
theorem dX5_any_31 : decode cX5_any 31 = .ok (.invokevirtual 142, 3) := by decide +kernel
theorem dX5_any_34 : decode cX5_any 34 = .ok (.aload_n 0, 1) := by decide +kernel
theorem dX5_any_35 : decode cX5_any 35 = .ok (.getfield 26, 3) := by decide +kernel
theorem dX5_any_38 : decode cX5_any 38 = .ok (.aload_n 0, 1) := by decide +kernel
theorem dX5_any_39 : decode cX5_any 39 = .ok (.getfield 105, 3) := by decide +kernel
theorem dX5_any_42 : decode cX5_any 42 = .ok (.sipush 142, 3) := by decide +kernel
theorem dX5_any_45 : decode cX5_any 45 = .ok (.iastore, 1) := by decide +kernel
theorem dX5_any_46 : decode cX5_any 46 = .ok (.aload_n 0, 1) := by decide +kernel
theorem dX5_any_47 : decode cX5_any 47 = .ok (.dup, 1) := by decide +kernel
theorem dX5_any_48 : decode cX5_any 48 = .ok (.getfield 105, 3) := by decide +kernel
theorem dX5_any_51 : decode cX5_any 51 = .ok (.iconst 1, 1) := by decide +kernel
theorem dX5_any_52 : decode cX5_any 52 = .ok (.iadd, 1) := by decide +kernel
theorem dX5_any_53 : decode cX5_any 53 = .ok (.putfield 105, 3) := by decide +kernel
theorem dX5_any_56 : decode cX5_any 56 = .ok (.goto (-52), 3) := by decide +kernel
theorem dX5_any_59 : decode cX5_any 59 = .ok (.return_, 1) := by decide +kernel
theorem dX5_term_0 : decode cX5_term 0 = .ok (.aload_n 0, 1) := by decide +kernel
theorem dX5_term_1 : decode cX5_term 1 = .ok (.iload_n 1, 1) := by decide +kernel
theorem dX5_term_2 : decode cX5_term 2 = .ok (.invokevirtual 87, 3) := by decide +kernel
theorem dX5_term_5 : decode cX5_term 5 = .ok (.ifCond .ne 10, 3) := by decide +kernel
theorem dX5_term_8 : decode cX5_term 8 = .ok (.aload_n 0, 1) := by decide +kernel
theorem dX5_term_9 : decode cX5_term 9 = .ok (.ldc 48, 2) := by decide +kernel
theorem dX5_term_11 : decode cX5_term 11 = .ok (.invokevirtual 50, 3) := by decide +kernel
theorem dX5_term_14 : decode cX5_term 14 = .ok (.ireturn, 1) := by decide +kernel
theorem dX5_term_15 : decode cX5_term 15 = .ok (.aload_n 0, 1) := by decide +kernel
theorem dX5_term_16 : decode cX5_term 16 = .ok (.iconst 0, 1) := by decide +kernel
theorem dX5_term_17 : decode cX5_term 17 = .ok (.putfield 95, 3) := by decide +kernel
theorem dX5_term_20 : decode cX5_term 20 = .ok (.aload_n 0, 1) := by decide +kernel
theorem dX5_term_21 : decode cX5_term 21 = .ok (.iconst (-1), 1) := by decide +kernel
theorem dX5_term_22 : decode cX5_term 22 = .ok (.putfield 102, 3) := by decide +kernel
theorem dX5_term_25 : decode cX5_term 25 = .ok (.aload_n 0, 1) := by decide +kernel
theorem dX5_term_26 : decode cX5_term 26 = .ok (.iconst 0, 1) := by decide +kernel
theorem dX5_term_27 : decode cX5_term 27 = .ok (.putfield 105, 3) := by decide +kernel
theorem dX5_term_30 : decode cX5_term 30 = .ok (.aload_n 0, 1) := by decide +kernel
theorem dX5_term_31 : decode cX5_term 31 = .ok (.iconst 0, 1) := by decide +kernel
theorem dX5_term_32 : decode cX5_term 32 = .ok (.putfield 108, 3) := by decide +kernel
theorem dX5_term_35 : decode cX5_term 35 = .ok (.aload_n 0, 1) := by decide +kernel
theorem dX5_term_36 : decode cX5_term 36 = .ok (.invokevirtual 139, 3) := by decide +kernel
theorem dX5_term_39 : decode cX5_term 39 = .ok (.aload_n 0, 1) := by decide +kernel
theorem dX5_term_40 : decode cX5_term 40 = .ok (.getfield 102, 3) := by decide +kernel
theorem dX5_term_43 : decode cX5_term 43 = .ok (.ifCond .ge 18, 3) := by decide +kernel
theorem dX5_term_46 : decode cX5_term 46 = .ok (.aload_n 0, 1) := by decide +kernel
theorem dX5_term_47 : decode cX5_term 47 = .ok (.getfield 95, 3) := by decide +kernel
theorem dX5_term_50 : decode cX5_term 50 = .ok (.aload_n 0, 1) := by decide +kernel
theorem dX5_term_51 : decode cX5_term 51 = .ok (.getfield 99, 3) := by decide +kernel
theorem dX5_term_54 : decode cX5_term 54 = .ok (.if_icmp .ge 7, 3) := by decide +kernel
theorem dX5_term_57 : decode cX5_term 57 = .ok (.aload_n 0, 1) := by decide +kernel
theorem dX5_term_58 : decode cX5_term 58 = .ok (.invokevirtual 111, 3) := by decide +kernel
theorem dX5_term_61 : decode cX5_term 61 = .ok (.aload_n 0, 1) := by decide +kernel
theorem dX5_term_62 : decode cX5_term 62 = .ok (.iconst 0, 1) := by decide +kernel
theorem dX5_term_63 : decode cX5_term 63 = .ok (.putfield 99, 3) := by decide +kernel
theorem dX5_term_66 : decode cX5_term 66 = .ok (.aload_n 0, 1) := by decide +kernel
theorem dX5_term_67 : decode cX5_term 67 = .ok (.getfield 102, 3) := by decide +kernel
theorem dX5_term_70 : decode cX5_term 70 = .ok (.ifCond .lt 10, 3) := by decide +kernel
theorem dX5_term_73 : decode cX5_term 73 = .ok (.iconst (-1), 1) := by decide +kernel
theorem dX5_term_74 : decode cX5_term 74 = .ok (.aload_n 0, 1) := by decide +kernel
theorem dX5_term_75 : decode cX5_term 75 = .ok (.getfield 102, 3) := by decide +kernel
theorem dX5_term_78 : decode cX5_term 78 = .ok (.isub, 1) := by decide +kernel
theorem dX5_term_79 : decode cX5_term 79 = .ok (.ireturn, 1) := by decide +kernel
theorem dX5_term_80 : decode cX5_term 80 = .ok (.iconst 0, 1) := by decide +kernel
theorem dX5_term_81 : decode cX5_term 81 = .ok (.istore_n 2, 1) := by decide +kernel
theorem dX5_term_82 : decode cX5_term 82 = .ok (.iload_n 2, 1) := by decide +kernel
theorem dX5_term_83 : decode cX5_term 83 = .ok (.aload_n 0, 1) := by decide +kernel
theorem dX5_term_84 : decode cX5_term 84 = .ok (.getfield 105, 3) := by decide +kernel
theorem dX5_term_87 : decode cX5_term 87 = .ok (.if_icmp .ge 29, 3) := by decide +kernel
theorem dX5_term_90 : decode cX5_term 90 = .ok (.aload_n 0, 1) := by decide +kernel
theorem dX5_term_91 : decode cX5_term 91 = .ok (.getfield 7, 3) := by decide +kernel
theorem dX5_term_94 : decode cX5_term 94 = .ok (.bipush 26, 2) := by decide +kernel
theorem dX5_term_96 : decode cX5_term 96 = .ok (.bipush 64, 2) := by decide +kernel
theorem dX5_term_98 : decode cX5_term 98 = .ok (.iload_n 1, 1) := by decide +kernel
theorem dX5_term_99 : decode cX5_term 99 = .ok (.imul, 1) := by decide +kernel
theorem dX5_term_100 : decode cX5_term 100 = .ok (.iadd, 1) := by decide +kernel
theorem dX5_term_101 : decode cX5_term 101 = .ok (.iload_n 2, 1) := by decide +kernel
theorem dX5_term_102 : decode cX5_term 102 = .ok (.iadd, 1) := by decide +kernel
theorem dX5_term_103 : decode cX5_term 103 = .ok (.aload_n 0, 1) := by decide +kernel
theorem dX5_term_104 : decode cX5_term 104 = .ok (.getfield 26, 3) := by decide +kernel
theorem dX5_term_107 : decode cX5_term 107 = .ok (.iload_n 2, 1) := by decide +kernel
theorem dX5_term_108 : decode cX5_term 108 = .ok (.iaload, 1) := by decide +kernel
theorem dX5_term_109 : decode cX5_term 109 = .ok (.iastore, 1) := by decide +kernel
theorem dX5_term_110 : decode cX5_term 110 = .ok (.iinc 2 1, 3) := by decide +kernel
theorem dX5_term_113 : decode cX5_term 113 = .ok (.goto (-31), 3) := by decide +kernel
theorem dX5_term_116 : decode cX5_term 116 = .ok (.aload_n 0, 1) := by decide +kernel
theorem dX5_term_117 : decode cX5_term 117 = .ok (.getfield 7, 3) := by decide +kernel
theorem dX5_term_120 : decode cX5_term 120 = .ok (.iconst 2, 1) := by decide +kernel
theorem dX5_term_121 : decode cX5_term 121 = .ok (.iconst 3, 1) := by decide +kernel
theorem dX5_term_122 : decode cX5_term 122 = .ok (.iload_n 1, 1) := by decide +kernel
theorem dX5_term_123 : decode cX5_term 123 = .ok (.imul, 1) := by decide +kernel
theorem dX5_term_124 : decode cX5_term 124 = .ok (.iadd, 1) := by decide +kernel
theorem dX5_term_125 : decode cX5_term 125 = .ok (.iconst 2, 1) := by decide +kernel
theorem dX5_term_126 : decode cX5_term 126 = .ok (.iadd, 1) := by decide +kernel
theorem dX5_term_127 : decode cX5_term 127 = .ok (.aload_n 0, 1) := by decide +kernel
theorem dX5_term_128 : decode cX5_term 128 = .ok (.getfield 105, 3) := by decide +kernel
theorem dX5_term_131 : decode cX5_term 131 = .ok (.iastore, 1) := by decide +kernel
theorem dX5_term_132 : decode cX5_term 132 = .ok (.iconst 1, 1) := by decide +kernel
theorem dX5_term_133 : decode cX5_term 133 = .ok (.ireturn, 1) := by decide +kernel
theorem dX5_feed_0 : decode cX5_feed 0 = .ok (.iload_n 2, 1) := by decide +kernel
theorem dX5_feed_1 : decode cX5_feed 1 = .ok (.i2l, 1) := by decide +kernel
theorem dX5_feed_2 : decode cX5_feed 2 = .ok (.lconst 1, 1) := by decide +kernel
theorem dX5_feed_3 : decode cX5_feed 3 = .ok (.ldc2_w 145, 3) := by decide +kernel
theorem dX5_feed_6 : decode cX5_feed 6 = .ok (.invokestatic 54, 3) := by decide +kernel
theorem dX5_feed_9 : decode cX5_feed 9 = .ok (.ifCond .ne 10, 3) := by decide +kernel
theorem dX5_feed_12 : decode cX5_feed 12 = .ok (.aload_n 0, 1) := by decide +kernel
theorem dX5_feed_13 : decode cX5_feed 13 = .ok (.ldc 48, 2) := by decide +kernel
theorem dX5_feed_15 : decode cX5_feed 15 = .ok (.invokevirtual 50, 3) := by decide +kernel
theorem dX5_feed_18 : decode cX5_feed 18 = .ok (.ireturn, 1) := by decide +kernel
theorem dX5_feed_19 : decode cX5_feed 19 = .ok (.aload_n 0, 1) := by decide +kernel
theorem dX5_feed_20 : decode cX5_feed 20 = .ok (.getfield 99, 3) := by decide +kernel
theorem dX5_feed_23 : decode cX5_feed 23 = .ok (.iload_n 2, 1) := by decide +kernel
theorem dX5_feed_24 : decode cX5_feed 24 = .ok (.iadd, 1) := by decide +kernel
theorem dX5_feed_25 : decode cX5_feed 25 = .ok (.bipush 60, 2) := by decide +kernel
theorem dX5_feed_27 : decode cX5_feed 27 = .ok (.if_icmp .le 10, 3) := by decide +kernel
theorem dX5_feed_30 : decode cX5_feed 30 = .ok (.aload_n 0, 1) := by decide +kernel
theorem dX5_feed_31 : decode cX5_feed 31 = .ok (.ldc 66, 2) := by decide +kernel
theorem dX5_feed_33 : decode cX5_feed 33 = .ok (.invokevirtual 50, 3) := by decide +kernel
theorem dX5_feed_36 : decode cX5_feed 36 = .ok (.ireturn, 1) := by decide +kernel
theorem dX5_feed_37 : decode cX5_feed 37 = .ok (.iload_n 2, 1) := by decide +kernel
theorem dX5_feed_38 : decode cX5_feed 38 = .ok (.iconst 1, 1) := by decide +kernel
theorem dX5_feed_39 : decode cX5_feed 39 = .ok (.isub, 1) := by decide +kernel
theorem dX5_feed_40 : decode cX5_feed 40 = .ok (.istore_n 3, 1) := by decide +kernel
theorem dX5_feed_41 : decode cX5_feed 41 = .ok (.iload_n 3, 1) := by decide +kernel
theorem dX5_feed_42 : decode cX5_feed 42 = .ok (.ifCond .lt 38, 3) := by decide +kernel
theorem dX5_feed_45 : decode cX5_feed 45 = .ok (.aload_n 0, 1) := by decide +kernel
theorem dX5_feed_46 : decode cX5_feed 46 = .ok (.getfield 23, 3) := by decide +kernel
theorem dX5_feed_49 : decode cX5_feed 49 = .ok (.aload_n 0, 1) := by decide +kernel
theorem dX5_feed_50 : decode cX5_feed 50 = .ok (.getfield 99, 3) := by decide +kernel
theorem dX5_feed_53 : decode cX5_feed 53 = .ok (.iload_n 1, 1) := by decide +kernel
theorem dX5_feed_54 : decode cX5_feed 54 = .ok (.bipush 8, 2) := by decide +kernel
theorem dX5_feed_56 : decode cX5_feed 56 = .ok (.iload_n 3, 1) := by decide +kernel
theorem dX5_feed_57 : decode cX5_feed 57 = .ok (.imul, 1) := by decide +kernel
theorem dX5_feed_58 : decode cX5_feed 58 = .ok (.ishr, 1) := by decide +kernel
theorem dX5_feed_59 : decode cX5_feed 59 = .ok (.sipush 255, 3) := by decide +kernel
theorem dX5_feed_62 : decode cX5_feed 62 = .ok (.iand, 1) := by decide +kernel
theorem dX5_feed_63 : decode cX5_feed 63 = .ok (.iastore, 1) := by decide +kernel
theorem dX5_feed_64 : decode cX5_feed 64 = .ok (.aload_n 0, 1) := by decide +kernel
theorem dX5_feed_65 : decode cX5_feed 65 = .ok (.dup, 1) := by decide +kernel
theorem dX5_feed_66 : decode cX5_feed 66 = .ok (.getfield 99, 3) := by decide +kernel
theorem dX5_feed_69 : decode cX5_feed 69 = .ok (.iconst 1, 1) := by decide +kernel
theorem dX5_feed_70 : decode cX5_feed 70 = .ok (.iadd, 1) := by decide +kernel
theorem dX5_feed_71 : decode cX5_feed 71 = .ok (.putfield 99, 3) := by decide +kernel
theorem dX5_feed_74 : decode cX5_feed 74 = .ok (.iinc 3 (-1), 3) := by decide +kernel
theorem dX5_feed_77 : decode cX5_feed 77 = .ok (.goto (-36), 3) := by decide +kernel
theorem dX5_feed_80 : decode cX5_feed 80 = .ok (.aload_n 0, 1) := by decide +kernel
theorem dX5_feed_81 : decode cX5_feed 81 = .ok (.getfield 99, 3) := by decide +kernel
theorem dX5_feed_84 : decode cX5_feed 84 = .ok (.ireturn, 1) := by decide +kernel
theorem dX5_wipe_0 : decode cX5_wipe 0 = .ok (.aload_n 0, 1) := by decide +kernel
theorem dX5_wipe_1 : decode cX5_wipe 1 = .ok (.getfield 99, 3) := by decide +kernel
theorem dX5_wipe_4 : decode cX5_wipe 4 = .ok (.istore_n 1, 1) := by decide +kernel
theorem dX5_wipe_5 : decode cX5_wipe 5 = .ok (.aload_n 0, 1) := by decide +kernel
theorem dX5_wipe_6 : decode cX5_wipe 6 = .ok (.iconst 0, 1) := by decide +kernel
theorem dX5_wipe_7 : decode cX5_wipe 7 = .ok (.putfield 99, 3) := by decide +kernel
theorem dX5_wipe_10 : decode cX5_wipe 10 = .ok (.iload_n 1, 1) := by decide +kernel
theorem dX5_wipe_11 : decode cX5_wipe 11 = .ok (.ireturn, 1) := by decide +kernel
theorem dX5_list_0 : decode cX5_list 0 = .ok (.aload_n 0, 1) := by decide +kernel
theorem dX5_list_1 : decode cX5_list 1 = .ok (.iload_n 1, 1) := by decide +kernel
theorem dX5_list_2 : decode cX5_list 2 = .ok (.i2l, 1) := by decide +kernel
theorem dX5_list_3 : decode cX5_list 3 = .ok (.invokevirtual 147, 3) := by decide +kernel
theorem dX5_list_6 : decode cX5_list 6 = .ok (.ifCond .eq 12, 3) := by decide +kernel
theorem dX5_list_9 : decode cX5_list 9 = .ok (.aload_n 0, 1) := by decide +kernel
theorem dX5_list_10 : decode cX5_list 10 = .ok (.iconst 1, 1) := by decide +kernel
theorem dX5_list_11 : decode cX5_list 11 = .ok (.iload_n 1, 1) := by decide +kernel
theorem dX5_list_12 : decode cX5_list 12 = .ok (.invokevirtual 91, 3) := by decide +kernel
theorem dX5_list_15 : decode cX5_list 15 = .ok (.goto 9, 3) := by decide +kernel
theorem dX5_list_18 : decode cX5_list 18 = .ok (.aload_n 0, 1) := by decide +kernel
theorem dX5_list_19 : decode cX5_list 19 = .ok (.ldc 48, 2) := by decide +kernel
theorem dX5_list_21 : decode cX5_list 21 = .ok (.invokevirtual 50, 3) := by decide +kernel
theorem dX5_list_24 : decode cX5_list 24 = .ok (.ireturn, 1) := by decide +kernel
theorem dX5_costOf_0 : decode cX5_costOf 0 = .ok (.iconst 0, 1) := by decide +kernel
theorem dX5_costOf_1 : decode cX5_costOf 1 = .ok (.istore_n 2, 1) := by decide +kernel
theorem dX5_costOf_2 : decode cX5_costOf 2 = .ok (.iconst 0, 1) := by decide +kernel
theorem dX5_costOf_3 : decode cX5_costOf 3 = .ok (.istore_n 3, 1) := by decide +kernel
theorem dX5_costOf_4 : decode cX5_costOf 4 = .ok (.iload_n 3, 1) := by decide +kernel
theorem dX5_costOf_5 : decode cX5_costOf 5 = .ok (.aload_n 0, 1) := by decide +kernel
theorem dX5_costOf_6 : decode cX5_costOf 6 = .ok (.getfield 7, 3) := by decide +kernel
theorem dX5_costOf_9 : decode cX5_costOf 9 = .ok (.iconst 0, 1) := by decide +kernel
theorem dX5_costOf_10 : decode cX5_costOf 10 = .ok (.iaload, 1) := by decide +kernel
theorem dX5_costOf_11 : decode cX5_costOf 11 = .ok (.if_icmp .ge 30, 3) := by decide +kernel
theorem dX5_costOf_14 : decode cX5_costOf 14 = .ok (.iload_n 2, 1) := by decide +kernel
theorem dX5_costOf_15 : decode cX5_costOf 15 = .ok (.iload_n 1, 1) := by decide +kernel
theorem dX5_costOf_16 : decode cX5_costOf 16 = .ok (.iload_n 3, 1) := by decide +kernel
theorem dX5_costOf_17 : decode cX5_costOf 17 = .ok (.invokestatic 74, 3) := by decide +kernel
theorem dX5_costOf_20 : decode cX5_costOf 20 = .ok (.ifCond .eq 12, 3) := by decide +kernel
theorem dX5_costOf_23 : decode cX5_costOf 23 = .ok (.aload_n 0, 1) := by decide +kernel
theorem dX5_costOf_24 : decode cX5_costOf 24 = .ok (.iload_n 3, 1) := by decide +kernel
theorem dX5_costOf_25 : decode cX5_costOf 25 = .ok (.iconst 1, 1) := by decide +kernel
theorem dX5_costOf_26 : decode cX5_costOf 26 = .ok (.invokevirtual 70, 3) := by decide +kernel
theorem dX5_costOf_29 : decode cX5_costOf 29 = .ok (.goto 4, 3) := by decide +kernel
theorem dX5_costOf_32 : decode cX5_costOf 32 = .ok (.iconst 0, 1) := by decide +kernel
theorem dX5_costOf_33 : decode cX5_costOf 33 = .ok (.iadd, 1) := by decide +kernel
theorem dX5_costOf_34 : decode cX5_costOf 34 = .ok (.istore_n 2, 1) := by decide +kernel
theorem dX5_costOf_35 : decode cX5_costOf 35 = .ok (.iinc 3 1, 3) := by decide +kernel
theorem dX5_costOf_38 : decode cX5_costOf 38 = .ok (.goto (-34), 3) := by decide +kernel
theorem dX5_costOf_41 : decode cX5_costOf 41 = .ok (.iload_n 2, 1) := by decide +kernel
theorem dX5_costOf_42 : decode cX5_costOf 42 = .ok (.ireturn, 1) := by decide +kernel
theorem dX5_now_0 : decode cX5_now 0 = .ok (.iload_n 1, 1) := by decide +kernel
theorem dX5_now_1 : decode cX5_now 1 = .ok (.tableswitch 99 0 4 #[35, 42, 52, 63, 88], 35) := by decide +kernel
theorem dX5_now_36 : decode cX5_now 36 = .ok (.aload_n 0, 1) := by decide +kernel
theorem dX5_now_37 : decode cX5_now 37 = .ok (.getfield 7, 3) := by decide +kernel
theorem dX5_now_40 : decode cX5_now 40 = .ok (.iconst 1, 1) := by decide +kernel
theorem dX5_now_41 : decode cX5_now 41 = .ok (.iaload, 1) := by decide +kernel
theorem dX5_now_42 : decode cX5_now 42 = .ok (.ireturn, 1) := by decide +kernel
theorem dX5_now_43 : decode cX5_now 43 = .ok (.aload_n 0, 1) := by decide +kernel
theorem dX5_now_44 : decode cX5_now 44 = .ok (.getfield 7, 3) := by decide +kernel
theorem dX5_now_47 : decode cX5_now 47 = .ok (.iconst 1, 1) := by decide +kernel
theorem dX5_now_48 : decode cX5_now 48 = .ok (.iaload, 1) := by decide +kernel
theorem dX5_now_49 : decode cX5_now 49 = .ok (.invokestatic 67, 3) := by decide +kernel
theorem dX5_now_52 : decode cX5_now 52 = .ok (.ireturn, 1) := by decide +kernel
theorem dX5_now_53 : decode cX5_now 53 = .ok (.aload_n 0, 1) := by decide +kernel
theorem dX5_now_54 : decode cX5_now 54 = .ok (.aload_n 0, 1) := by decide +kernel
theorem dX5_now_55 : decode cX5_now 55 = .ok (.getfield 7, 3) := by decide +kernel
theorem dX5_now_58 : decode cX5_now 58 = .ok (.iconst 1, 1) := by decide +kernel
theorem dX5_now_59 : decode cX5_now 59 = .ok (.iaload, 1) := by decide +kernel
theorem dX5_now_60 : decode cX5_now 60 = .ok (.invokevirtual 151, 3) := by decide +kernel
theorem dX5_now_63 : decode cX5_now 63 = .ok (.ireturn, 1) := by decide +kernel
theorem dX5_now_64 : decode cX5_now 64 = .ok (.aload_n 0, 1) := by decide +kernel
theorem dX5_now_65 : decode cX5_now 65 = .ok (.aload_n 0, 1) := by decide +kernel
theorem dX5_now_66 : decode cX5_now 66 = .ok (.getfield 7, 3) := by decide +kernel
theorem dX5_now_69 : decode cX5_now 69 = .ok (.iconst 1, 1) := by decide +kernel
theorem dX5_now_70 : decode cX5_now 70 = .ok (.iaload, 1) := by decide +kernel
theorem dX5_now_71 : decode cX5_now 71 = .ok (.invokevirtual 151, 3) := by decide +kernel
theorem dX5_now_74 : decode cX5_now 74 = .ok (.aload_n 0, 1) := by decide +kernel
theorem dX5_now_75 : decode cX5_now 75 = .ok (.getfield 7, 3) := by decide +kernel
theorem dX5_now_78 : decode cX5_now 78 = .ok (.iconst 1, 1) := by decide +kernel
theorem dX5_now_79 : decode cX5_now 79 = .ok (.iaload, 1) := by decide +kernel
theorem dX5_now_80 : decode cX5_now 80 = .ok (.if_icmp .ne 7, 3) := by decide +kernel
theorem dX5_now_83 : decode cX5_now 83 = .ok (.iconst 1, 1) := by decide +kernel
theorem dX5_now_84 : decode cX5_now 84 = .ok (.goto 4, 3) := by decide +kernel
theorem dX5_now_87 : decode cX5_now 87 = .ok (.iconst 0, 1) := by decide +kernel
theorem dX5_now_88 : decode cX5_now 88 = .ok (.ireturn, 1) := by decide +kernel
theorem dX5_now_89 : decode cX5_now 89 = .ok (.aload_n 0, 1) := by decide +kernel
theorem dX5_now_90 : decode cX5_now 90 = .ok (.aload_n 0, 1) := by decide +kernel
theorem dX5_now_91 : decode cX5_now 91 = .ok (.getfield 7, 3) := by decide +kernel
theorem dX5_now_94 : decode cX5_now 94 = .ok (.iconst 1, 1) := by decide +kernel
theorem dX5_now_95 : decode cX5_now 95 = .ok (.iaload, 1) := by decide +kernel
theorem dX5_now_96 : decode cX5_now 96 = .ok (.invokevirtual 154, 3) := by decide +kernel
theorem dX5_now_99 : decode cX5_now 99 = .ok (.ireturn, 1) := by decide +kernel
theorem dX5_now_100 : decode cX5_now 100 = .ok (.aload_n 0, 1) := by decide +kernel
theorem dX5_now_101 : decode cX5_now 101 = .ok (.ldc 48, 2) := by decide +kernel
theorem dX5_now_103 : decode cX5_now 103 = .ok (.invokevirtual 50, 3) := by decide +kernel
theorem dX5_now_106 : decode cX5_now 106 = .ok (.ireturn, 1) := by decide +kernel
theorem dX5_called_0 : decode cX5_called 0 = .ok (.iload_n 1, 1) := by decide +kernel
theorem dX5_called_1 : decode cX5_called 1 = .ok (.iconst 1, 1) := by decide +kernel
theorem dX5_called_2 : decode cX5_called 2 = .ok (.iload_n 2, 1) := by decide +kernel
theorem dX5_called_3 : decode cX5_called 3 = .ok (.ishl, 1) := by decide +kernel
theorem dX5_called_4 : decode cX5_called 4 = .ok (.iconst (-1), 1) := by decide +kernel
theorem dX5_called_5 : decode cX5_called 5 = .ok (.ixor, 1) := by decide +kernel
theorem dX5_called_6 : decode cX5_called 6 = .ok (.iand, 1) := by decide +kernel
theorem dX5_called_7 : decode cX5_called 7 = .ok (.aload_n 0, 1) := by decide +kernel
theorem dX5_called_8 : decode cX5_called 8 = .ok (.iload_n 2, 1) := by decide +kernel
theorem dX5_called_9 : decode cX5_called 9 = .ok (.iload_n 1, 1) := by decide +kernel
theorem dX5_called_10 : decode cX5_called 10 = .ok (.invokevirtual 84, 3) := by decide +kernel
theorem dX5_called_13 : decode cX5_called 13 = .ok (.ifCond .eq 9, 3) := by decide +kernel
theorem dX5_called_16 : decode cX5_called 16 = .ok (.iconst 1, 1) := by decide +kernel
theorem dX5_called_17 : decode cX5_called 17 = .ok (.iload_n 2, 1) := by decide +kernel
theorem dX5_called_18 : decode cX5_called 18 = .ok (.ishl, 1) := by decide +kernel
theorem dX5_called_19 : decode cX5_called 19 = .ok (.goto 4, 3) := by decide +kernel
theorem dX5_called_22 : decode cX5_called 22 = .ok (.iconst 0, 1) := by decide +kernel
theorem dX5_called_23 : decode cX5_called 23 = .ok (.ior, 1) := by decide +kernel
theorem dX5_called_24 : decode cX5_called 24 = .ok (.ireturn, 1) := by decide +kernel
theorem dX5_calling_0 : decode cX5_calling 0 = .ok (.aload_n 0, 1) := by decide +kernel
theorem dX5_calling_1 : decode cX5_calling 1 = .ok (.getfield 7, 3) := by decide +kernel
theorem dX5_calling_4 : decode cX5_calling 4 = .ok (.iconst 1, 1) := by decide +kernel
theorem dX5_calling_5 : decode cX5_calling 5 = .ok (.iaload, 1) := by decide +kernel
theorem dX5_calling_6 : decode cX5_calling 6 = .ok (.istore_n 2, 1) := by decide +kernel
theorem dX5_calling_7 : decode cX5_calling 7 = .ok (.aload_n 0, 1) := by decide +kernel
theorem dX5_calling_8 : decode cX5_calling 8 = .ok (.getfield 7, 3) := by decide +kernel
theorem dX5_calling_11 : decode cX5_calling 11 = .ok (.iconst 1, 1) := by decide +kernel
theorem dX5_calling_12 : decode cX5_calling 12 = .ok (.aload_n 0, 1) := by decide +kernel
theorem dX5_calling_13 : decode cX5_calling 13 = .ok (.iload_n 2, 1) := by decide +kernel
theorem dX5_calling_14 : decode cX5_calling 14 = .ok (.iload_n 1, 1) := by decide +kernel
theorem dX5_calling_15 : decode cX5_calling 15 = .ok (.invokevirtual 157, 3) := by decide +kernel
theorem dX5_calling_18 : decode cX5_calling 18 = .ok (.iastore, 1) := by decide +kernel
theorem dX5_calling_19 : decode cX5_calling 19 = .ok (.aload_n 0, 1) := by decide +kernel
theorem dX5_calling_20 : decode cX5_calling 20 = .ok (.getfield 7, 3) := by decide +kernel
theorem dX5_calling_23 : decode cX5_calling 23 = .ok (.iconst 1, 1) := by decide +kernel
theorem dX5_calling_24 : decode cX5_calling 24 = .ok (.iaload, 1) := by decide +kernel
theorem dX5_calling_25 : decode cX5_calling 25 = .ok (.iload_n 2, 1) := by decide +kernel
theorem dX5_calling_26 : decode cX5_calling 26 = .ok (.if_icmp .ne 7, 3) := by decide +kernel
theorem dX5_calling_29 : decode cX5_calling 29 = .ok (.iconst 0, 1) := by decide +kernel
theorem dX5_calling_30 : decode cX5_calling 30 = .ok (.goto 4, 3) := by decide +kernel
theorem dX5_calling_33 : decode cX5_calling 33 = .ok (.iconst 1, 1) := by decide +kernel
theorem dX5_calling_34 : decode cX5_calling 34 = .ok (.ireturn, 1) := by decide +kernel
theorem dX5_call_0 : decode cX5_call 0 = .ok (.aload_n 0, 1) := by decide +kernel
theorem dX5_call_1 : decode cX5_call 1 = .ok (.iload_n 1, 1) := by decide +kernel
theorem dX5_call_2 : decode cX5_call 2 = .ok (.invokevirtual 87, 3) := by decide +kernel
theorem dX5_call_5 : decode cX5_call 5 = .ok (.ifCond .eq 11, 3) := by decide +kernel
theorem dX5_call_8 : decode cX5_call 8 = .ok (.aload_n 0, 1) := by decide +kernel
theorem dX5_call_9 : decode cX5_call 9 = .ok (.iload_n 1, 1) := by decide +kernel
theorem dX5_call_10 : decode cX5_call 10 = .ok (.invokevirtual 160, 3) := by decide +kernel
theorem dX5_call_13 : decode cX5_call 13 = .ok (.goto 9, 3) := by decide +kernel
theorem dX5_call_16 : decode cX5_call 16 = .ok (.aload_n 0, 1) := by decide +kernel
theorem dX5_call_17 : decode cX5_call 17 = .ok (.ldc 48, 2) := by decide +kernel
theorem dX5_call_19 : decode cX5_call 19 = .ok (.invokevirtual 50, 3) := by decide +kernel
theorem dX5_call_22 : decode cX5_call 22 = .ok (.ireturn, 1) := by decide +kernel
theorem dX5_calls_0 : decode cX5_calls 0 = .ok (.iload_n 1, 1) := by decide +kernel
theorem dX5_calls_1 : decode cX5_calls 1 = .ok (.i2l, 1) := by decide +kernel
theorem dX5_calls_2 : decode cX5_calls 2 = .ok (.lconst 1, 1) := by decide +kernel
theorem dX5_calls_3 : decode cX5_calls 3 = .ok (.ldc2_w 163, 3) := by decide +kernel
theorem dX5_calls_6 : decode cX5_calls 6 = .ok (.invokestatic 54, 3) := by decide +kernel
theorem dX5_calls_9 : decode cX5_calls 9 = .ok (.ifCond .ne 10, 3) := by decide +kernel
theorem dX5_calls_12 : decode cX5_calls 12 = .ok (.aload_n 0, 1) := by decide +kernel
theorem dX5_calls_13 : decode cX5_calls 13 = .ok (.ldc 48, 2) := by decide +kernel
theorem dX5_calls_15 : decode cX5_calls 15 = .ok (.invokevirtual 50, 3) := by decide +kernel
theorem dX5_calls_18 : decode cX5_calls 18 = .ok (.ireturn, 1) := by decide +kernel
theorem dX5_calls_19 : decode cX5_calls 19 = .ok (.iconst 0, 1) := by decide +kernel
theorem dX5_calls_20 : decode cX5_calls 20 = .ok (.istore_n 2, 1) := by decide +kernel
theorem dX5_calls_21 : decode cX5_calls 21 = .ok (.iconst 0, 1) := by decide +kernel
theorem dX5_calls_22 : decode cX5_calls 22 = .ok (.istore_n 3, 1) := by decide +kernel
theorem dX5_calls_23 : decode cX5_calls 23 = .ok (.iload_n 3, 1) := by decide +kernel
theorem dX5_calls_24 : decode cX5_calls 24 = .ok (.iload_n 1, 1) := by decide +kernel
theorem dX5_calls_25 : decode cX5_calls 25 = .ok (.if_icmp .ge 38, 3) := by decide +kernel
theorem dX5_calls_28 : decode cX5_calls 28 = .ok (.iconst 0, 1) := by decide +kernel
theorem dX5_calls_29 : decode cX5_calls 29 = .ok (.istore 4, 2) := by decide +kernel
theorem dX5_calls_31 : decode cX5_calls 31 = .ok (.iload 4, 2) := by decide +kernel
theorem dX5_calls_33 : decode cX5_calls 33 = .ok (.aload_n 0, 1) := by decide +kernel
theorem dX5_calls_34 : decode cX5_calls 34 = .ok (.getfield 7, 3) := by decide +kernel
theorem dX5_calls_37 : decode cX5_calls 37 = .ok (.iconst 0, 1) := by decide +kernel
theorem dX5_calls_38 : decode cX5_calls 38 = .ok (.iaload, 1) := by decide +kernel
theorem dX5_calls_39 : decode cX5_calls 39 = .ok (.if_icmp .ge 18, 3) := by decide +kernel
theorem dX5_calls_42 : decode cX5_calls 42 = .ok (.iload_n 2, 1) := by decide +kernel
theorem dX5_calls_43 : decode cX5_calls 43 = .ok (.aload_n 0, 1) := by decide +kernel
theorem dX5_calls_44 : decode cX5_calls 44 = .ok (.iload 4, 2) := by decide +kernel
theorem dX5_calls_46 : decode cX5_calls 46 = .ok (.invokevirtual 160, 3) := by decide +kernel
theorem dX5_calls_49 : decode cX5_calls 49 = .ok (.iadd, 1) := by decide +kernel
theorem dX5_calls_50 : decode cX5_calls 50 = .ok (.istore_n 2, 1) := by decide +kernel
theorem dX5_calls_51 : decode cX5_calls 51 = .ok (.iinc 4 1, 3) := by decide +kernel
theorem dX5_calls_54 : decode cX5_calls 54 = .ok (.goto (-23), 3) := by decide +kernel
theorem dX5_calls_57 : decode cX5_calls 57 = .ok (.iinc 3 1, 3) := by decide +kernel
theorem dX5_calls_60 : decode cX5_calls 60 = .ok (.goto (-37), 3) := by decide +kernel
theorem dX5_calls_63 : decode cX5_calls 63 = .ok (.iload_n 2, 1) := by decide +kernel
theorem dX5_calls_64 : decode cX5_calls 64 = .ok (.ireturn, 1) := by decide +kernel
theorem dX5_behind_0 : decode cX5_behind 0 = .ok (.iload_n 1, 1) := by decide +kernel
theorem dX5_behind_1 : decode cX5_behind 1 = .ok (.istore_n 3, 1) := by decide +kernel
theorem dX5_behind_2 : decode cX5_behind 2 = .ok (.iconst 0, 1) := by decide +kernel
theorem dX5_behind_3 : decode cX5_behind 3 = .ok (.istore 4, 2) := by decide +kernel
theorem dX5_behind_5 : decode cX5_behind 5 = .ok (.iload 4, 2) := by decide +kernel
theorem dX5_behind_7 : decode cX5_behind 7 = .ok (.iload_n 2, 1) := by decide +kernel
theorem dX5_behind_8 : decode cX5_behind 8 = .ok (.if_icmp .ge 15, 3) := by decide +kernel
theorem dX5_behind_11 : decode cX5_behind 11 = .ok (.aload_n 0, 1) := by decide +kernel
theorem dX5_behind_12 : decode cX5_behind 12 = .ok (.iload_n 3, 1) := by decide +kernel
theorem dX5_behind_13 : decode cX5_behind 13 = .ok (.invokevirtual 151, 3) := by decide +kernel
theorem dX5_behind_16 : decode cX5_behind 16 = .ok (.istore_n 3, 1) := by decide +kernel
theorem dX5_behind_17 : decode cX5_behind 17 = .ok (.iinc 4 1, 3) := by decide +kernel
theorem dX5_behind_20 : decode cX5_behind 20 = .ok (.goto (-15), 3) := by decide +kernel
theorem dX5_behind_23 : decode cX5_behind 23 = .ok (.iload_n 3, 1) := by decide +kernel
theorem dX5_behind_24 : decode cX5_behind 24 = .ok (.ireturn, 1) := by decide +kernel
theorem dX5_rounds_0 : decode cX5_rounds 0 = .ok (.iload_n 1, 1) := by decide +kernel
theorem dX5_rounds_1 : decode cX5_rounds 1 = .ok (.i2l, 1) := by decide +kernel
theorem dX5_rounds_2 : decode cX5_rounds 2 = .ok (.lconst 1, 1) := by decide +kernel
theorem dX5_rounds_3 : decode cX5_rounds 3 = .ok (.ldc2_w 165, 3) := by decide +kernel
theorem dX5_rounds_6 : decode cX5_rounds 6 = .ok (.invokestatic 54, 3) := by decide +kernel
theorem dX5_rounds_9 : decode cX5_rounds 9 = .ok (.ifCond .ne 10, 3) := by decide +kernel
theorem dX5_rounds_12 : decode cX5_rounds 12 = .ok (.aload_n 0, 1) := by decide +kernel
theorem dX5_rounds_13 : decode cX5_rounds 13 = .ok (.ldc 48, 2) := by decide +kernel
theorem dX5_rounds_15 : decode cX5_rounds 15 = .ok (.invokevirtual 50, 3) := by decide +kernel
theorem dX5_rounds_18 : decode cX5_rounds 18 = .ok (.ireturn, 1) := by decide +kernel
theorem dX5_rounds_19 : decode cX5_rounds 19 = .ok (.aload_n 0, 1) := by decide +kernel
theorem dX5_rounds_20 : decode cX5_rounds 20 = .ok (.getfield 7, 3) := by decide +kernel
theorem dX5_rounds_23 : decode cX5_rounds 23 = .ok (.iconst 1, 1) := by decide +kernel
theorem dX5_rounds_24 : decode cX5_rounds 24 = .ok (.aload_n 0, 1) := by decide +kernel
theorem dX5_rounds_25 : decode cX5_rounds 25 = .ok (.aload_n 0, 1) := by decide +kernel
theorem dX5_rounds_26 : decode cX5_rounds 26 = .ok (.getfield 7, 3) := by decide +kernel
theorem dX5_rounds_29 : decode cX5_rounds 29 = .ok (.iconst 1, 1) := by decide +kernel
theorem dX5_rounds_30 : decode cX5_rounds 30 = .ok (.iaload, 1) := by decide +kernel
theorem dX5_rounds_31 : decode cX5_rounds 31 = .ok (.iload_n 1, 1) := by decide +kernel
theorem dX5_rounds_32 : decode cX5_rounds 32 = .ok (.invokevirtual 167, 3) := by decide +kernel
theorem dX5_rounds_35 : decode cX5_rounds 35 = .ok (.iastore, 1) := by decide +kernel
theorem dX5_rounds_36 : decode cX5_rounds 36 = .ok (.aload_n 0, 1) := by decide +kernel
theorem dX5_rounds_37 : decode cX5_rounds 37 = .ok (.getfield 7, 3) := by decide +kernel
theorem dX5_rounds_40 : decode cX5_rounds 40 = .ok (.iconst 1, 1) := by decide +kernel
theorem dX5_rounds_41 : decode cX5_rounds 41 = .ok (.iaload, 1) := by decide +kernel
theorem dX5_rounds_42 : decode cX5_rounds 42 = .ok (.ireturn, 1) := by decide +kernel
theorem dX5_on_0 : decode cX5_on 0 = .ok (.iload_n 1, 1) := by decide +kernel
theorem dX5_on_1 : decode cX5_on 1 = .ok (.i2l, 1) := by decide +kernel
theorem dX5_on_2 : decode cX5_on 2 = .ok (.lconst 0, 1) := by decide +kernel
theorem dX5_on_3 : decode cX5_on 3 = .ok (.ldc2_w 165, 3) := by decide +kernel
theorem dX5_on_6 : decode cX5_on 6 = .ok (.invokestatic 54, 3) := by decide +kernel
theorem dX5_on_9 : decode cX5_on 9 = .ok (.ifCond .eq 17, 3) := by decide +kernel
theorem dX5_on_12 : decode cX5_on 12 = .ok (.aload_n 0, 1) := by decide +kernel
theorem dX5_on_13 : decode cX5_on 13 = .ok (.aload_n 0, 1) := by decide +kernel
theorem dX5_on_14 : decode cX5_on 14 = .ok (.getfield 7, 3) := by decide +kernel
theorem dX5_on_17 : decode cX5_on 17 = .ok (.iconst 1, 1) := by decide +kernel
theorem dX5_on_18 : decode cX5_on 18 = .ok (.iaload, 1) := by decide +kernel
theorem dX5_on_19 : decode cX5_on 19 = .ok (.iload_n 1, 1) := by decide +kernel
theorem dX5_on_20 : decode cX5_on 20 = .ok (.invokevirtual 167, 3) := by decide +kernel
theorem dX5_on_23 : decode cX5_on 23 = .ok (.goto 9, 3) := by decide +kernel
theorem dX5_on_26 : decode cX5_on 26 = .ok (.aload_n 0, 1) := by decide +kernel
theorem dX5_on_27 : decode cX5_on 27 = .ok (.ldc 48, 2) := by decide +kernel
theorem dX5_on_29 : decode cX5_on 29 = .ok (.invokevirtual 50, 3) := by decide +kernel
theorem dX5_on_32 : decode cX5_on 32 = .ok (.ireturn, 1) := by decide +kernel
theorem dX5_looksAll_0 : decode cX5_looksAll 0 = .ok (.iconst 0, 1) := by decide +kernel
theorem dX5_looksAll_1 : decode cX5_looksAll 1 = .ok (.istore_n 1, 1) := by decide +kernel
theorem dX5_looksAll_2 : decode cX5_looksAll 2 = .ok (.iload_n 1, 1) := by decide +kernel
theorem dX5_looksAll_3 : decode cX5_looksAll 3 = .ok (.aload_n 0, 1) := by decide +kernel
theorem dX5_looksAll_4 : decode cX5_looksAll 4 = .ok (.invokevirtual 58, 3) := by decide +kernel
theorem dX5_looksAll_7 : decode cX5_looksAll 7 = .ok (.if_icmp .ge 20, 3) := by decide +kernel
theorem dX5_looksAll_10 : decode cX5_looksAll 10 = .ok (.aload_n 0, 1) := by decide +kernel
theorem dX5_looksAll_11 : decode cX5_looksAll 11 = .ok (.getfield 29, 3) := by decide +kernel
theorem dX5_looksAll_14 : decode cX5_looksAll 14 = .ok (.iload_n 1, 1) := by decide +kernel
theorem dX5_looksAll_15 : decode cX5_looksAll 15 = .ok (.aload_n 0, 1) := by decide +kernel
theorem dX5_looksAll_16 : decode cX5_looksAll 16 = .ok (.iload_n 1, 1) := by decide +kernel
theorem dX5_looksAll_17 : decode cX5_looksAll 17 = .ok (.invokevirtual 151, 3) := by decide +kernel
theorem dX5_looksAll_20 : decode cX5_looksAll 20 = .ok (.iastore, 1) := by decide +kernel
theorem dX5_looksAll_21 : decode cX5_looksAll 21 = .ok (.iinc 1 1, 3) := by decide +kernel
theorem dX5_looksAll_24 : decode cX5_looksAll 24 = .ok (.goto (-22), 3) := by decide +kernel
theorem dX5_looksAll_27 : decode cX5_looksAll 27 = .ok (.return_, 1) := by decide +kernel
theorem dX5_when_0 : decode cX5_when 0 = .ok (.aload_n 0, 1) := by decide +kernel
theorem dX5_when_1 : decode cX5_when 1 = .ok (.invokevirtual 170, 3) := by decide +kernel
theorem dX5_when_4 : decode cX5_when 4 = .ok (.aload_n 0, 1) := by decide +kernel
theorem dX5_when_5 : decode cX5_when 5 = .ok (.getfield 7, 3) := by decide +kernel
theorem dX5_when_8 : decode cX5_when 8 = .ok (.iconst 1, 1) := by decide +kernel
theorem dX5_when_9 : decode cX5_when 9 = .ok (.iaload, 1) := by decide +kernel
theorem dX5_when_10 : decode cX5_when 10 = .ok (.istore_n 1, 1) := by decide +kernel
theorem dX5_when_11 : decode cX5_when 11 = .ok (.iconst 0, 1) := by decide +kernel
theorem dX5_when_12 : decode cX5_when 12 = .ok (.istore_n 2, 1) := by decide +kernel
theorem dX5_when_13 : decode cX5_when 13 = .ok (.iload_n 2, 1) := by decide +kernel
theorem dX5_when_14 : decode cX5_when 14 = .ok (.sipush 256, 3) := by decide +kernel
theorem dX5_when_17 : decode cX5_when 17 = .ok (.if_icmp .ge 26, 3) := by decide +kernel
theorem dX5_when_20 : decode cX5_when 20 = .ok (.aload_n 0, 1) := by decide +kernel
theorem dX5_when_21 : decode cX5_when 21 = .ok (.getfield 29, 3) := by decide +kernel
theorem dX5_when_24 : decode cX5_when 24 = .ok (.iload_n 1, 1) := by decide +kernel
theorem dX5_when_25 : decode cX5_when 25 = .ok (.iaload, 1) := by decide +kernel
theorem dX5_when_26 : decode cX5_when 26 = .ok (.iload_n 1, 1) := by decide +kernel
theorem dX5_when_27 : decode cX5_when 27 = .ok (.if_icmp .eq 16, 3) := by decide +kernel
theorem dX5_when_30 : decode cX5_when 30 = .ok (.aload_n 0, 1) := by decide +kernel
theorem dX5_when_31 : decode cX5_when 31 = .ok (.getfield 29, 3) := by decide +kernel
theorem dX5_when_34 : decode cX5_when 34 = .ok (.iload_n 1, 1) := by decide +kernel
theorem dX5_when_35 : decode cX5_when 35 = .ok (.iaload, 1) := by decide +kernel
theorem dX5_when_36 : decode cX5_when 36 = .ok (.istore_n 1, 1) := by decide +kernel
theorem dX5_when_37 : decode cX5_when 37 = .ok (.iinc 2 1, 3) := by decide +kernel
theorem dX5_when_40 : decode cX5_when 40 = .ok (.goto (-27), 3) := by decide +kernel
theorem dX5_when_43 : decode cX5_when 43 = .ok (.aload_n 0, 1) := by decide +kernel
theorem dX5_when_44 : decode cX5_when 44 = .ok (.getfield 29, 3) := by decide +kernel
theorem dX5_when_47 : decode cX5_when 47 = .ok (.iload_n 1, 1) := by decide +kernel
theorem dX5_when_48 : decode cX5_when 48 = .ok (.iaload, 1) := by decide +kernel
theorem dX5_when_49 : decode cX5_when 49 = .ok (.iload_n 1, 1) := by decide +kernel
theorem dX5_when_50 : decode cX5_when 50 = .ok (.if_icmp .ne 7, 3) := by decide +kernel
theorem dX5_when_53 : decode cX5_when 53 = .ok (.iload_n 2, 1) := by decide +kernel
theorem dX5_when_54 : decode cX5_when 54 = .ok (.goto 9, 3) := by decide +kernel
theorem dX5_when_57 : decode cX5_when 57 = .ok (.aload_n 0, 1) := by decide +kernel
theorem dX5_when_58 : decode cX5_when 58 = .ok (.ldc 49, 2) := by decide +kernel
theorem dX5_when_60 : decode cX5_when 60 = .ok (.invokevirtual 50, 3) := by decide +kernel
theorem dX5_when_63 : decode cX5_when 63 = .ok (.ireturn, 1) := by decide +kernel
theorem dX5_ring_0 : decode cX5_ring 0 = .ok (.iload_n 1, 1) := by decide +kernel
theorem dX5_ring_1 : decode cX5_ring 1 = .ok (.i2l, 1) := by decide +kernel
theorem dX5_ring_2 : decode cX5_ring 2 = .ok (.lconst 0, 1) := by decide +kernel
theorem dX5_ring_3 : decode cX5_ring 3 = .ok (.lconst 1, 1) := by decide +kernel
theorem dX5_ring_4 : decode cX5_ring 4 = .ok (.invokestatic 54, 3) := by decide +kernel
theorem dX5_ring_7 : decode cX5_ring 7 = .ok (.ifCond .ne 10, 3) := by decide +kernel
theorem dX5_ring_10 : decode cX5_ring 10 = .ok (.aload_n 0, 1) := by decide +kernel
theorem dX5_ring_11 : decode cX5_ring 11 = .ok (.ldc 48, 2) := by decide +kernel
theorem dX5_ring_13 : decode cX5_ring 13 = .ok (.invokevirtual 50, 3) := by decide +kernel
theorem dX5_ring_16 : decode cX5_ring 16 = .ok (.ireturn, 1) := by decide +kernel
theorem dX5_ring_17 : decode cX5_ring 17 = .ok (.aload_n 0, 1) := by decide +kernel
theorem dX5_ring_18 : decode cX5_ring 18 = .ok (.invokevirtual 170, 3) := by decide +kernel
theorem dX5_ring_21 : decode cX5_ring 21 = .ok (.iconst 0, 1) := by decide +kernel
theorem dX5_ring_22 : decode cX5_ring 22 = .ok (.istore_n 2, 1) := by decide +kernel
theorem dX5_ring_23 : decode cX5_ring 23 = .ok (.iload_n 2, 1) := by decide +kernel
theorem dX5_ring_24 : decode cX5_ring 24 = .ok (.sipush 256, 3) := by decide +kernel
theorem dX5_ring_27 : decode cX5_ring 27 = .ok (.if_icmp .ge 16, 3) := by decide +kernel
theorem dX5_ring_30 : decode cX5_ring 30 = .ok (.aload_n 0, 1) := by decide +kernel
theorem dX5_ring_31 : decode cX5_ring 31 = .ok (.getfield 32, 3) := by decide +kernel
theorem dX5_ring_34 : decode cX5_ring 34 = .ok (.iload_n 2, 1) := by decide +kernel
theorem dX5_ring_35 : decode cX5_ring 35 = .ok (.iconst (-1), 1) := by decide +kernel
theorem dX5_ring_36 : decode cX5_ring 36 = .ok (.iastore, 1) := by decide +kernel
theorem dX5_ring_37 : decode cX5_ring 37 = .ok (.iinc 2 1, 3) := by decide +kernel
theorem dX5_ring_40 : decode cX5_ring 40 = .ok (.goto (-17), 3) := by decide +kernel
theorem dX5_ring_43 : decode cX5_ring 43 = .ok (.aload_n 0, 1) := by decide +kernel
theorem dX5_ring_44 : decode cX5_ring 44 = .ok (.getfield 7, 3) := by decide +kernel
theorem dX5_ring_47 : decode cX5_ring 47 = .ok (.iconst 1, 1) := by decide +kernel
theorem dX5_ring_48 : decode cX5_ring 48 = .ok (.iaload, 1) := by decide +kernel
theorem dX5_ring_49 : decode cX5_ring 49 = .ok (.istore_n 2, 1) := by decide +kernel
theorem dX5_ring_50 : decode cX5_ring 50 = .ok (.iconst 0, 1) := by decide +kernel
theorem dX5_ring_51 : decode cX5_ring 51 = .ok (.istore_n 3, 1) := by decide +kernel
theorem dX5_ring_52 : decode cX5_ring 52 = .ok (.aload_n 0, 1) := by decide +kernel
theorem dX5_ring_53 : decode cX5_ring 53 = .ok (.getfield 32, 3) := by decide +kernel
theorem dX5_ring_56 : decode cX5_ring 56 = .ok (.iload_n 2, 1) := by decide +kernel
theorem dX5_ring_57 : decode cX5_ring 57 = .ok (.iaload, 1) := by decide +kernel
theorem dX5_ring_58 : decode cX5_ring 58 = .ok (.ifCond .ge 23, 3) := by decide +kernel
theorem dX5_ring_61 : decode cX5_ring 61 = .ok (.aload_n 0, 1) := by decide +kernel
theorem dX5_ring_62 : decode cX5_ring 62 = .ok (.getfield 32, 3) := by decide +kernel
theorem dX5_ring_65 : decode cX5_ring 65 = .ok (.iload_n 2, 1) := by decide +kernel
theorem dX5_ring_66 : decode cX5_ring 66 = .ok (.iload_n 3, 1) := by decide +kernel
theorem dX5_ring_67 : decode cX5_ring 67 = .ok (.iastore, 1) := by decide +kernel
theorem dX5_ring_68 : decode cX5_ring 68 = .ok (.aload_n 0, 1) := by decide +kernel
theorem dX5_ring_69 : decode cX5_ring 69 = .ok (.getfield 29, 3) := by decide +kernel
theorem dX5_ring_72 : decode cX5_ring 72 = .ok (.iload_n 2, 1) := by decide +kernel
theorem dX5_ring_73 : decode cX5_ring 73 = .ok (.iaload, 1) := by decide +kernel
theorem dX5_ring_74 : decode cX5_ring 74 = .ok (.istore_n 2, 1) := by decide +kernel
theorem dX5_ring_75 : decode cX5_ring 75 = .ok (.iinc 3 1, 3) := by decide +kernel
theorem dX5_ring_78 : decode cX5_ring 78 = .ok (.goto (-26), 3) := by decide +kernel
theorem dX5_ring_81 : decode cX5_ring 81 = .ok (.iload_n 1, 1) := by decide +kernel
theorem dX5_ring_82 : decode cX5_ring 82 = .ok (.ifCond .ne 12, 3) := by decide +kernel
theorem dX5_ring_85 : decode cX5_ring 85 = .ok (.aload_n 0, 1) := by decide +kernel
theorem dX5_ring_86 : decode cX5_ring 86 = .ok (.getfield 32, 3) := by decide +kernel
theorem dX5_ring_89 : decode cX5_ring 89 = .ok (.iload_n 2, 1) := by decide +kernel
theorem dX5_ring_90 : decode cX5_ring 90 = .ok (.iaload, 1) := by decide +kernel
theorem dX5_ring_91 : decode cX5_ring 91 = .ok (.goto 11, 3) := by decide +kernel
theorem dX5_ring_94 : decode cX5_ring 94 = .ok (.iload_n 3, 1) := by decide +kernel
theorem dX5_ring_95 : decode cX5_ring 95 = .ok (.aload_n 0, 1) := by decide +kernel
theorem dX5_ring_96 : decode cX5_ring 96 = .ok (.getfield 32, 3) := by decide +kernel
theorem dX5_ring_99 : decode cX5_ring 99 = .ok (.iload_n 2, 1) := by decide +kernel
theorem dX5_ring_100 : decode cX5_ring 100 = .ok (.iaload, 1) := by decide +kernel
theorem dX5_ring_101 : decode cX5_ring 101 = .ok (.isub, 1) := by decide +kernel
theorem dX5_ring_102 : decode cX5_ring 102 = .ok (.ireturn, 1) := by decide +kernel
theorem dX5_looksFar_0 : decode cX5_looksFar 0 = .ok (.iconst 0, 1) := by decide +kernel
theorem dX5_looksFar_1 : decode cX5_looksFar 1 = .ok (.istore_n 1, 1) := by decide +kernel
theorem dX5_looksFar_2 : decode cX5_looksFar 2 = .ok (.iload_n 1, 1) := by decide +kernel
theorem dX5_looksFar_3 : decode cX5_looksFar 3 = .ok (.aload_n 0, 1) := by decide +kernel
theorem dX5_looksFar_4 : decode cX5_looksFar 4 = .ok (.invokevirtual 58, 3) := by decide +kernel
theorem dX5_looksFar_7 : decode cX5_looksFar 7 = .ok (.if_icmp .ge 29, 3) := by decide +kernel
theorem dX5_looksFar_10 : decode cX5_looksFar 10 = .ok (.aload_n 0, 1) := by decide +kernel
theorem dX5_looksFar_11 : decode cX5_looksFar 11 = .ok (.getfield 32, 3) := by decide +kernel
theorem dX5_looksFar_14 : decode cX5_looksFar 14 = .ok (.iload_n 1, 1) := by decide +kernel
theorem dX5_looksFar_15 : decode cX5_looksFar 15 = .ok (.aload_n 0, 1) := by decide +kernel
theorem dX5_looksFar_16 : decode cX5_looksFar 16 = .ok (.iload_n 1, 1) := by decide +kernel
theorem dX5_looksFar_17 : decode cX5_looksFar 17 = .ok (.invokevirtual 151, 3) := by decide +kernel
theorem dX5_looksFar_20 : decode cX5_looksFar 20 = .ok (.iload_n 1, 1) := by decide +kernel
theorem dX5_looksFar_21 : decode cX5_looksFar 21 = .ok (.if_icmp .ne 7, 3) := by decide +kernel
theorem dX5_looksFar_24 : decode cX5_looksFar 24 = .ok (.iconst 0, 1) := by decide +kernel
theorem dX5_looksFar_25 : decode cX5_looksFar 25 = .ok (.goto 4, 3) := by decide +kernel
theorem dX5_looksFar_28 : decode cX5_looksFar 28 = .ok (.iconst (-1), 1) := by decide +kernel
theorem dX5_looksFar_29 : decode cX5_looksFar 29 = .ok (.iastore, 1) := by decide +kernel
theorem dX5_looksFar_30 : decode cX5_looksFar 30 = .ok (.iinc 1 1, 3) := by decide +kernel
theorem dX5_looksFar_33 : decode cX5_looksFar 33 = .ok (.goto (-31), 3) := by decide +kernel
theorem dX5_looksFar_36 : decode cX5_looksFar 36 = .ok (.iconst 1, 1) := by decide +kernel
theorem dX5_looksFar_37 : decode cX5_looksFar 37 = .ok (.istore_n 1, 1) := by decide +kernel
theorem dX5_looksFar_38 : decode cX5_looksFar 38 = .ok (.iconst 1, 1) := by decide +kernel
theorem dX5_looksFar_39 : decode cX5_looksFar 39 = .ok (.istore_n 2, 1) := by decide +kernel
theorem dX5_looksFar_40 : decode cX5_looksFar 40 = .ok (.iload_n 1, 1) := by decide +kernel
theorem dX5_looksFar_41 : decode cX5_looksFar 41 = .ok (.ifCond .eq 83, 3) := by decide +kernel
theorem dX5_looksFar_44 : decode cX5_looksFar 44 = .ok (.iconst 0, 1) := by decide +kernel
theorem dX5_looksFar_45 : decode cX5_looksFar 45 = .ok (.istore_n 1, 1) := by decide +kernel
theorem dX5_looksFar_46 : decode cX5_looksFar 46 = .ok (.iconst 0, 1) := by decide +kernel
theorem dX5_looksFar_47 : decode cX5_looksFar 47 = .ok (.istore_n 3, 1) := by decide +kernel
theorem dX5_looksFar_48 : decode cX5_looksFar 48 = .ok (.iload_n 3, 1) := by decide +kernel
theorem dX5_looksFar_49 : decode cX5_looksFar 49 = .ok (.aload_n 0, 1) := by decide +kernel
theorem dX5_looksFar_50 : decode cX5_looksFar 50 = .ok (.invokevirtual 58, 3) := by decide +kernel
theorem dX5_looksFar_53 : decode cX5_looksFar 53 = .ok (.if_icmp .ge 65, 3) := by decide +kernel
theorem dX5_looksFar_56 : decode cX5_looksFar 56 = .ok (.iconst 0, 1) := by decide +kernel
theorem dX5_looksFar_57 : decode cX5_looksFar 57 = .ok (.istore 4, 2) := by decide +kernel
theorem dX5_looksFar_59 : decode cX5_looksFar 59 = .ok (.iload 4, 2) := by decide +kernel
theorem dX5_looksFar_61 : decode cX5_looksFar 61 = .ok (.aload_n 0, 1) := by decide +kernel
theorem dX5_looksFar_62 : decode cX5_looksFar 62 = .ok (.getfield 7, 3) := by decide +kernel
theorem dX5_looksFar_65 : decode cX5_looksFar 65 = .ok (.iconst 0, 1) := by decide +kernel
theorem dX5_looksFar_66 : decode cX5_looksFar 66 = .ok (.iaload, 1) := by decide +kernel
theorem dX5_looksFar_67 : decode cX5_looksFar 67 = .ok (.if_icmp .ge 45, 3) := by decide +kernel
theorem dX5_looksFar_70 : decode cX5_looksFar 70 = .ok (.aload_n 0, 1) := by decide +kernel
theorem dX5_looksFar_71 : decode cX5_looksFar 71 = .ok (.getfield 32, 3) := by decide +kernel
theorem dX5_looksFar_74 : decode cX5_looksFar 74 = .ok (.iload_n 3, 1) := by decide +kernel
theorem dX5_looksFar_75 : decode cX5_looksFar 75 = .ok (.iaload, 1) := by decide +kernel
theorem dX5_looksFar_76 : decode cX5_looksFar 76 = .ok (.ifCond .ge 36, 3) := by decide +kernel
theorem dX5_looksFar_79 : decode cX5_looksFar 79 = .ok (.aload_n 0, 1) := by decide +kernel
theorem dX5_looksFar_80 : decode cX5_looksFar 80 = .ok (.getfield 32, 3) := by decide +kernel
theorem dX5_looksFar_83 : decode cX5_looksFar 83 = .ok (.aload_n 0, 1) := by decide +kernel
theorem dX5_looksFar_84 : decode cX5_looksFar 84 = .ok (.iload_n 3, 1) := by decide +kernel
theorem dX5_looksFar_85 : decode cX5_looksFar 85 = .ok (.iload 4, 2) := by decide +kernel
theorem dX5_looksFar_87 : decode cX5_looksFar 87 = .ok (.invokevirtual 157, 3) := by decide +kernel
theorem dX5_looksFar_90 : decode cX5_looksFar 90 = .ok (.iaload, 1) := by decide +kernel
theorem dX5_looksFar_91 : decode cX5_looksFar 91 = .ok (.iload_n 2, 1) := by decide +kernel
theorem dX5_looksFar_92 : decode cX5_looksFar 92 = .ok (.iconst 1, 1) := by decide +kernel
theorem dX5_looksFar_93 : decode cX5_looksFar 93 = .ok (.isub, 1) := by decide +kernel
theorem dX5_looksFar_94 : decode cX5_looksFar 94 = .ok (.if_icmp .ne 12, 3) := by decide +kernel
theorem dX5_looksFar_97 : decode cX5_looksFar 97 = .ok (.aload_n 0, 1) := by decide +kernel
theorem dX5_looksFar_98 : decode cX5_looksFar 98 = .ok (.getfield 32, 3) := by decide +kernel
theorem dX5_looksFar_101 : decode cX5_looksFar 101 = .ok (.iload_n 3, 1) := by decide +kernel
theorem dX5_looksFar_102 : decode cX5_looksFar 102 = .ok (.iload_n 2, 1) := by decide +kernel
theorem dX5_looksFar_103 : decode cX5_looksFar 103 = .ok (.iastore, 1) := by decide +kernel
theorem dX5_looksFar_104 : decode cX5_looksFar 104 = .ok (.iconst 1, 1) := by decide +kernel
theorem dX5_looksFar_105 : decode cX5_looksFar 105 = .ok (.istore_n 1, 1) := by decide +kernel
theorem dX5_looksFar_106 : decode cX5_looksFar 106 = .ok (.iinc 4 1, 3) := by decide +kernel
theorem dX5_looksFar_109 : decode cX5_looksFar 109 = .ok (.goto (-50), 3) := by decide +kernel
theorem dX5_looksFar_112 : decode cX5_looksFar 112 = .ok (.iinc 3 1, 3) := by decide +kernel
theorem dX5_looksFar_115 : decode cX5_looksFar 115 = .ok (.goto (-67), 3) := by decide +kernel
theorem dX5_looksFar_118 : decode cX5_looksFar 118 = .ok (.iinc 2 1, 3) := by decide +kernel
theorem dX5_looksFar_121 : decode cX5_looksFar 121 = .ok (.goto (-81), 3) := by decide +kernel
theorem dX5_looksFar_124 : decode cX5_looksFar 124 = .ok (.return_, 1) := by decide +kernel
theorem dX5_fewest_0 : decode cX5_fewest 0 = .ok (.aload_n 0, 1) := by decide +kernel
theorem dX5_fewest_1 : decode cX5_fewest 1 = .ok (.invokevirtual 173, 3) := by decide +kernel
theorem dX5_fewest_4 : decode cX5_fewest 4 = .ok (.aload_n 0, 1) := by decide +kernel
theorem dX5_fewest_5 : decode cX5_fewest 5 = .ok (.aload_n 0, 1) := by decide +kernel
theorem dX5_fewest_6 : decode cX5_fewest 6 = .ok (.getfield 32, 3) := by decide +kernel
theorem dX5_fewest_9 : decode cX5_fewest 9 = .ok (.aload_n 0, 1) := by decide +kernel
theorem dX5_fewest_10 : decode cX5_fewest 10 = .ok (.getfield 7, 3) := by decide +kernel
theorem dX5_fewest_13 : decode cX5_fewest 13 = .ok (.iconst 1, 1) := by decide +kernel
theorem dX5_fewest_14 : decode cX5_fewest 14 = .ok (.iaload, 1) := by decide +kernel
theorem dX5_fewest_15 : decode cX5_fewest 15 = .ok (.iaload, 1) := by decide +kernel
theorem dX5_fewest_16 : decode cX5_fewest 16 = .ok (.invokevirtual 176, 3) := by decide +kernel
theorem dX5_fewest_19 : decode cX5_fewest 19 = .ok (.ireturn, 1) := by decide +kernel
theorem dX5_first_0 : decode cX5_first 0 = .ok (.aload_n 0, 1) := by decide +kernel
theorem dX5_first_1 : decode cX5_first 1 = .ok (.invokevirtual 173, 3) := by decide +kernel
theorem dX5_first_4 : decode cX5_first 4 = .ok (.aload_n 0, 1) := by decide +kernel
theorem dX5_first_5 : decode cX5_first 5 = .ok (.getfield 32, 3) := by decide +kernel
theorem dX5_first_8 : decode cX5_first 8 = .ok (.aload_n 0, 1) := by decide +kernel
theorem dX5_first_9 : decode cX5_first 9 = .ok (.getfield 7, 3) := by decide +kernel
theorem dX5_first_12 : decode cX5_first 12 = .ok (.iconst 1, 1) := by decide +kernel
theorem dX5_first_13 : decode cX5_first 13 = .ok (.iaload, 1) := by decide +kernel
theorem dX5_first_14 : decode cX5_first 14 = .ok (.iaload, 1) := by decide +kernel
theorem dX5_first_15 : decode cX5_first 15 = .ok (.istore_n 1, 1) := by decide +kernel
theorem dX5_first_16 : decode cX5_first 16 = .ok (.iconst (-1), 1) := by decide +kernel
theorem dX5_first_17 : decode cX5_first 17 = .ok (.istore_n 2, 1) := by decide +kernel
theorem dX5_first_18 : decode cX5_first 18 = .ok (.aload_n 0, 1) := by decide +kernel
theorem dX5_first_19 : decode cX5_first 19 = .ok (.getfield 7, 3) := by decide +kernel
theorem dX5_first_22 : decode cX5_first 22 = .ok (.iconst 0, 1) := by decide +kernel
theorem dX5_first_23 : decode cX5_first 23 = .ok (.iaload, 1) := by decide +kernel
theorem dX5_first_24 : decode cX5_first 24 = .ok (.iconst 1, 1) := by decide +kernel
theorem dX5_first_25 : decode cX5_first 25 = .ok (.isub, 1) := by decide +kernel
theorem dX5_first_26 : decode cX5_first 26 = .ok (.istore_n 3, 1) := by decide +kernel
theorem dX5_first_27 : decode cX5_first 27 = .ok (.iload_n 3, 1) := by decide +kernel
theorem dX5_first_28 : decode cX5_first 28 = .ok (.ifCond .lt 41, 3) := by decide +kernel
theorem dX5_first_31 : decode cX5_first 31 = .ok (.iload_n 1, 1) := by decide +kernel
theorem dX5_first_32 : decode cX5_first 32 = .ok (.ifCond .le 29, 3) := by decide +kernel
theorem dX5_first_35 : decode cX5_first 35 = .ok (.aload_n 0, 1) := by decide +kernel
theorem dX5_first_36 : decode cX5_first 36 = .ok (.getfield 32, 3) := by decide +kernel
theorem dX5_first_39 : decode cX5_first 39 = .ok (.aload_n 0, 1) := by decide +kernel
theorem dX5_first_40 : decode cX5_first 40 = .ok (.aload_n 0, 1) := by decide +kernel
theorem dX5_first_41 : decode cX5_first 41 = .ok (.getfield 7, 3) := by decide +kernel
theorem dX5_first_44 : decode cX5_first 44 = .ok (.iconst 1, 1) := by decide +kernel
theorem dX5_first_45 : decode cX5_first 45 = .ok (.iaload, 1) := by decide +kernel
theorem dX5_first_46 : decode cX5_first 46 = .ok (.iload_n 3, 1) := by decide +kernel
theorem dX5_first_47 : decode cX5_first 47 = .ok (.invokevirtual 157, 3) := by decide +kernel
theorem dX5_first_50 : decode cX5_first 50 = .ok (.iaload, 1) := by decide +kernel
theorem dX5_first_51 : decode cX5_first 51 = .ok (.iload_n 1, 1) := by decide +kernel
theorem dX5_first_52 : decode cX5_first 52 = .ok (.iconst 1, 1) := by decide +kernel
theorem dX5_first_53 : decode cX5_first 53 = .ok (.isub, 1) := by decide +kernel
theorem dX5_first_54 : decode cX5_first 54 = .ok (.if_icmp .ne 7, 3) := by decide +kernel
theorem dX5_first_57 : decode cX5_first 57 = .ok (.iload_n 3, 1) := by decide +kernel
theorem dX5_first_58 : decode cX5_first 58 = .ok (.goto 4, 3) := by decide +kernel
theorem dX5_first_61 : decode cX5_first 61 = .ok (.iload_n 2, 1) := by decide +kernel
theorem dX5_first_62 : decode cX5_first 62 = .ok (.istore_n 2, 1) := by decide +kernel
theorem dX5_first_63 : decode cX5_first 63 = .ok (.iinc 3 (-1), 3) := by decide +kernel
theorem dX5_first_66 : decode cX5_first 66 = .ok (.goto (-39), 3) := by decide +kernel
theorem dX5_first_69 : decode cX5_first 69 = .ok (.aload_n 0, 1) := by decide +kernel
theorem dX5_first_70 : decode cX5_first 70 = .ok (.iload_n 2, 1) := by decide +kernel
theorem dX5_first_71 : decode cX5_first 71 = .ok (.invokevirtual 176, 3) := by decide +kernel
theorem dX5_first_74 : decode cX5_first 74 = .ok (.ireturn, 1) := by decide +kernel
theorem dX5_manySettled_0 : decode cX5_manySettled 0 = .ok (.aload_n 0, 1) := by decide +kernel
theorem dX5_manySettled_1 : decode cX5_manySettled 1 = .ok (.invokevirtual 170, 3) := by decide +kernel
theorem dX5_manySettled_4 : decode cX5_manySettled 4 = .ok (.iconst 0, 1) := by decide +kernel
theorem dX5_manySettled_5 : decode cX5_manySettled 5 = .ok (.istore_n 1, 1) := by decide +kernel
theorem dX5_manySettled_6 : decode cX5_manySettled 6 = .ok (.iconst 0, 1) := by decide +kernel
theorem dX5_manySettled_7 : decode cX5_manySettled 7 = .ok (.istore_n 2, 1) := by decide +kernel
theorem dX5_manySettled_8 : decode cX5_manySettled 8 = .ok (.iload_n 2, 1) := by decide +kernel
theorem dX5_manySettled_9 : decode cX5_manySettled 9 = .ok (.aload_n 0, 1) := by decide +kernel
theorem dX5_manySettled_10 : decode cX5_manySettled 10 = .ok (.invokevirtual 58, 3) := by decide +kernel
theorem dX5_manySettled_13 : decode cX5_manySettled 13 = .ok (.if_icmp .ge 27, 3) := by decide +kernel
theorem dX5_manySettled_16 : decode cX5_manySettled 16 = .ok (.iload_n 1, 1) := by decide +kernel
theorem dX5_manySettled_17 : decode cX5_manySettled 17 = .ok (.aload_n 0, 1) := by decide +kernel
theorem dX5_manySettled_18 : decode cX5_manySettled 18 = .ok (.getfield 29, 3) := by decide +kernel
theorem dX5_manySettled_21 : decode cX5_manySettled 21 = .ok (.iload_n 2, 1) := by decide +kernel
theorem dX5_manySettled_22 : decode cX5_manySettled 22 = .ok (.iaload, 1) := by decide +kernel
theorem dX5_manySettled_23 : decode cX5_manySettled 23 = .ok (.iload_n 2, 1) := by decide +kernel
theorem dX5_manySettled_24 : decode cX5_manySettled 24 = .ok (.if_icmp .ne 7, 3) := by decide +kernel
theorem dX5_manySettled_27 : decode cX5_manySettled 27 = .ok (.iconst 1, 1) := by decide +kernel
theorem dX5_manySettled_28 : decode cX5_manySettled 28 = .ok (.goto 4, 3) := by decide +kernel
theorem dX5_manySettled_31 : decode cX5_manySettled 31 = .ok (.iconst 0, 1) := by decide +kernel
theorem dX5_manySettled_32 : decode cX5_manySettled 32 = .ok (.iadd, 1) := by decide +kernel
theorem dX5_manySettled_33 : decode cX5_manySettled 33 = .ok (.istore_n 1, 1) := by decide +kernel
theorem dX5_manySettled_34 : decode cX5_manySettled 34 = .ok (.iinc 2 1, 3) := by decide +kernel
theorem dX5_manySettled_37 : decode cX5_manySettled 37 = .ok (.goto (-29), 3) := by decide +kernel
theorem dX5_manySettled_40 : decode cX5_manySettled 40 = .ok (.iload_n 1, 1) := by decide +kernel
theorem dX5_manySettled_41 : decode cX5_manySettled 41 = .ok (.ireturn, 1) := by decide +kernel
theorem dX5_settled_0 : decode cX5_settled 0 = .ok (.aload_n 0, 1) := by decide +kernel
theorem dX5_settled_1 : decode cX5_settled 1 = .ok (.invokevirtual 179, 3) := by decide +kernel
theorem dX5_settled_4 : decode cX5_settled 4 = .ok (.ireturn, 1) := by decide +kernel
theorem dX5_ith_0 : decode cX5_ith 0 = .ok (.iload_n 1, 1) := by decide +kernel
theorem dX5_ith_1 : decode cX5_ith 1 = .ok (.ifCond .ge 10, 3) := by decide +kernel
theorem dX5_ith_4 : decode cX5_ith 4 = .ok (.aload_n 0, 1) := by decide +kernel
theorem dX5_ith_5 : decode cX5_ith 5 = .ok (.ldc 48, 2) := by decide +kernel
theorem dX5_ith_7 : decode cX5_ith 7 = .ok (.invokevirtual 50, 3) := by decide +kernel
theorem dX5_ith_10 : decode cX5_ith 10 = .ok (.ireturn, 1) := by decide +kernel
theorem dX5_ith_11 : decode cX5_ith 11 = .ok (.aload_n 0, 1) := by decide +kernel
theorem dX5_ith_12 : decode cX5_ith 12 = .ok (.invokevirtual 170, 3) := by decide +kernel
theorem dX5_ith_15 : decode cX5_ith 15 = .ok (.iload_n 1, 1) := by decide +kernel
theorem dX5_ith_16 : decode cX5_ith 16 = .ok (.istore_n 2, 1) := by decide +kernel
theorem dX5_ith_17 : decode cX5_ith 17 = .ok (.iconst 0, 1) := by decide +kernel
theorem dX5_ith_18 : decode cX5_ith 18 = .ok (.istore_n 3, 1) := by decide +kernel
theorem dX5_ith_19 : decode cX5_ith 19 = .ok (.iload_n 3, 1) := by decide +kernel
theorem dX5_ith_20 : decode cX5_ith 20 = .ok (.aload_n 0, 1) := by decide +kernel
theorem dX5_ith_21 : decode cX5_ith 21 = .ok (.invokevirtual 58, 3) := by decide +kernel
theorem dX5_ith_24 : decode cX5_ith 24 = .ok (.if_icmp .ge 28, 3) := by decide +kernel
theorem dX5_ith_27 : decode cX5_ith 27 = .ok (.aload_n 0, 1) := by decide +kernel
theorem dX5_ith_28 : decode cX5_ith 28 = .ok (.getfield 29, 3) := by decide +kernel
theorem dX5_ith_31 : decode cX5_ith 31 = .ok (.iload_n 3, 1) := by decide +kernel
theorem dX5_ith_32 : decode cX5_ith 32 = .ok (.iaload, 1) := by decide +kernel
theorem dX5_ith_33 : decode cX5_ith 33 = .ok (.iload_n 3, 1) := by decide +kernel
theorem dX5_ith_34 : decode cX5_ith 34 = .ok (.if_icmp .ne 12, 3) := by decide +kernel
theorem dX5_ith_37 : decode cX5_ith 37 = .ok (.iload_n 2, 1) := by decide +kernel
theorem dX5_ith_38 : decode cX5_ith 38 = .ok (.ifCond .ne 5, 3) := by decide +kernel
theorem dX5_ith_41 : decode cX5_ith 41 = .ok (.iload_n 3, 1) := by decide +kernel
theorem dX5_ith_42 : decode cX5_ith 42 = .ok (.ireturn, 1) := by decide +kernel
theorem dX5_ith_43 : decode cX5_ith 43 = .ok (.iinc 2 (-1), 3) := by decide +kernel
theorem dX5_ith_46 : decode cX5_ith 46 = .ok (.iinc 3 1, 3) := by decide +kernel
theorem dX5_ith_49 : decode cX5_ith 49 = .ok (.goto (-30), 3) := by decide +kernel
theorem dX5_ith_52 : decode cX5_ith 52 = .ok (.aload_n 0, 1) := by decide +kernel
theorem dX5_ith_53 : decode cX5_ith 53 = .ok (.ldc 49, 2) := by decide +kernel
theorem dX5_ith_55 : decode cX5_ith 55 = .ok (.invokevirtual 50, 3) := by decide +kernel
theorem dX5_ith_58 : decode cX5_ith 58 = .ok (.ireturn, 1) := by decide +kernel
theorem dX5_sure_0 : decode cX5_sure 0 = .ok (.iload_n 1, 1) := by decide +kernel
theorem dX5_sure_1 : decode cX5_sure 1 = .ok (.i2l, 1) := by decide +kernel
theorem dX5_sure_2 : decode cX5_sure 2 = .ok (.lconst 0, 1) := by decide +kernel
theorem dX5_sure_3 : decode cX5_sure 3 = .ok (.ldc2_w 182, 3) := by decide +kernel
theorem dX5_sure_6 : decode cX5_sure 6 = .ok (.invokestatic 54, 3) := by decide +kernel
theorem dX5_sure_9 : decode cX5_sure 9 = .ok (.ifCond .ne 10, 3) := by decide +kernel
theorem dX5_sure_12 : decode cX5_sure 12 = .ok (.aload_n 0, 1) := by decide +kernel
theorem dX5_sure_13 : decode cX5_sure 13 = .ok (.ldc 48, 2) := by decide +kernel
theorem dX5_sure_15 : decode cX5_sure 15 = .ok (.invokevirtual 50, 3) := by decide +kernel
theorem dX5_sure_18 : decode cX5_sure 18 = .ok (.ireturn, 1) := by decide +kernel
theorem dX5_sure_19 : decode cX5_sure 19 = .ok (.aload_n 0, 1) := by decide +kernel
theorem dX5_sure_20 : decode cX5_sure 20 = .ok (.invokevirtual 179, 3) := by decide +kernel
theorem dX5_sure_23 : decode cX5_sure 23 = .ok (.ifCond .ne 10, 3) := by decide +kernel
theorem dX5_sure_26 : decode cX5_sure 26 = .ok (.aload_n 0, 1) := by decide +kernel
theorem dX5_sure_27 : decode cX5_sure 27 = .ok (.ldc 49, 2) := by decide +kernel
theorem dX5_sure_29 : decode cX5_sure 29 = .ok (.invokevirtual 50, 3) := by decide +kernel
theorem dX5_sure_32 : decode cX5_sure 32 = .ok (.ireturn, 1) := by decide +kernel
theorem dX5_sure_33 : decode cX5_sure 33 = .ok (.aload_n 0, 1) := by decide +kernel
theorem dX5_sure_34 : decode cX5_sure 34 = .ok (.invokevirtual 58, 3) := by decide +kernel
theorem dX5_sure_37 : decode cX5_sure 37 = .ok (.iconst 1, 1) := by decide +kernel
theorem dX5_sure_38 : decode cX5_sure 38 = .ok (.isub, 1) := by decide +kernel
theorem dX5_sure_39 : decode cX5_sure 39 = .ok (.istore_n 2, 1) := by decide +kernel
theorem dX5_sure_40 : decode cX5_sure 40 = .ok (.iconst 0, 1) := by decide +kernel
theorem dX5_sure_41 : decode cX5_sure 41 = .ok (.istore_n 3, 1) := by decide +kernel
theorem dX5_sure_42 : decode cX5_sure 42 = .ok (.iconst 0, 1) := by decide +kernel
theorem dX5_sure_43 : decode cX5_sure 43 = .ok (.istore 4, 2) := by decide +kernel
theorem dX5_sure_45 : decode cX5_sure 45 = .ok (.bipush 8, 2) := by decide +kernel
theorem dX5_sure_47 : decode cX5_sure 47 = .ok (.istore 5, 2) := by decide +kernel
theorem dX5_sure_49 : decode cX5_sure 49 = .ok (.iconst 0, 1) := by decide +kernel
theorem dX5_sure_50 : decode cX5_sure 50 = .ok (.istore 6, 2) := by decide +kernel
theorem dX5_sure_52 : decode cX5_sure 52 = .ok (.iload 6, 2) := by decide +kernel
theorem dX5_sure_54 : decode cX5_sure 54 = .ok (.aload_n 0, 1) := by decide +kernel
theorem dX5_sure_55 : decode cX5_sure 55 = .ok (.invokevirtual 58, 3) := by decide +kernel
theorem dX5_sure_58 : decode cX5_sure 58 = .ok (.if_icmp .ge 75, 3) := by decide +kernel
theorem dX5_sure_61 : decode cX5_sure 61 = .ok (.aload_n 0, 1) := by decide +kernel
theorem dX5_sure_62 : decode cX5_sure 62 = .ok (.getfield 29, 3) := by decide +kernel
theorem dX5_sure_65 : decode cX5_sure 65 = .ok (.iload 6, 2) := by decide +kernel
theorem dX5_sure_67 : decode cX5_sure 67 = .ok (.iaload, 1) := by decide +kernel
theorem dX5_sure_68 : decode cX5_sure 68 = .ok (.iload 6, 2) := by decide +kernel
theorem dX5_sure_70 : decode cX5_sure 70 = .ok (.if_icmp .ne 57, 3) := by decide +kernel
theorem dX5_sure_73 : decode cX5_sure 73 = .ok (.iload_n 2, 1) := by decide +kernel
theorem dX5_sure_74 : decode cX5_sure 74 = .ok (.iload 6, 2) := by decide +kernel
theorem dX5_sure_76 : decode cX5_sure 76 = .ok (.iand, 1) := by decide +kernel
theorem dX5_sure_77 : decode cX5_sure 77 = .ok (.istore_n 2, 1) := by decide +kernel
theorem dX5_sure_78 : decode cX5_sure 78 = .ok (.iload_n 3, 1) := by decide +kernel
theorem dX5_sure_79 : decode cX5_sure 79 = .ok (.iload 6, 2) := by decide +kernel
theorem dX5_sure_81 : decode cX5_sure 81 = .ok (.ior, 1) := by decide +kernel
theorem dX5_sure_82 : decode cX5_sure 82 = .ok (.istore_n 3, 1) := by decide +kernel
theorem dX5_sure_83 : decode cX5_sure 83 = .ok (.iload 6, 2) := by decide +kernel
theorem dX5_sure_85 : decode cX5_sure 85 = .ok (.invokestatic 67, 3) := by decide +kernel
theorem dX5_sure_88 : decode cX5_sure 88 = .ok (.iload 4, 2) := by decide +kernel
theorem dX5_sure_90 : decode cX5_sure 90 = .ok (.if_icmp .le 11, 3) := by decide +kernel
theorem dX5_sure_93 : decode cX5_sure 93 = .ok (.iload 6, 2) := by decide +kernel
theorem dX5_sure_95 : decode cX5_sure 95 = .ok (.invokestatic 67, 3) := by decide +kernel
theorem dX5_sure_98 : decode cX5_sure 98 = .ok (.goto 5, 3) := by decide +kernel
theorem dX5_sure_101 : decode cX5_sure 101 = .ok (.iload 4, 2) := by decide +kernel
theorem dX5_sure_103 : decode cX5_sure 103 = .ok (.istore 4, 2) := by decide +kernel
theorem dX5_sure_105 : decode cX5_sure 105 = .ok (.iload 6, 2) := by decide +kernel
theorem dX5_sure_107 : decode cX5_sure 107 = .ok (.invokestatic 67, 3) := by decide +kernel
theorem dX5_sure_110 : decode cX5_sure 110 = .ok (.iload 5, 2) := by decide +kernel
theorem dX5_sure_112 : decode cX5_sure 112 = .ok (.if_icmp .ge 11, 3) := by decide +kernel
theorem dX5_sure_115 : decode cX5_sure 115 = .ok (.iload 6, 2) := by decide +kernel
theorem dX5_sure_117 : decode cX5_sure 117 = .ok (.invokestatic 67, 3) := by decide +kernel
theorem dX5_sure_120 : decode cX5_sure 120 = .ok (.goto 5, 3) := by decide +kernel
theorem dX5_sure_123 : decode cX5_sure 123 = .ok (.iload 5, 2) := by decide +kernel
theorem dX5_sure_125 : decode cX5_sure 125 = .ok (.istore 5, 2) := by decide +kernel
theorem dX5_sure_127 : decode cX5_sure 127 = .ok (.iinc 6 1, 3) := by decide +kernel
theorem dX5_sure_130 : decode cX5_sure 130 = .ok (.goto (-78), 3) := by decide +kernel
theorem dX5_sure_133 : decode cX5_sure 133 = .ok (.iload_n 1, 1) := by decide +kernel
theorem dX5_sure_134 : decode cX5_sure 134 = .ok (.ifCond .ne 7, 3) := by decide +kernel
theorem dX5_sure_137 : decode cX5_sure 137 = .ok (.iload_n 2, 1) := by decide +kernel
theorem dX5_sure_138 : decode cX5_sure 138 = .ok (.goto 24, 3) := by decide +kernel
theorem dX5_sure_141 : decode cX5_sure 141 = .ok (.iload_n 1, 1) := by decide +kernel
theorem dX5_sure_142 : decode cX5_sure 142 = .ok (.iconst 1, 1) := by decide +kernel
theorem dX5_sure_143 : decode cX5_sure 143 = .ok (.if_icmp .ne 7, 3) := by decide +kernel
theorem dX5_sure_146 : decode cX5_sure 146 = .ok (.iload_n 3, 1) := by decide +kernel
theorem dX5_sure_147 : decode cX5_sure 147 = .ok (.goto 15, 3) := by decide +kernel
theorem dX5_sure_150 : decode cX5_sure 150 = .ok (.iload_n 1, 1) := by decide +kernel
theorem dX5_sure_151 : decode cX5_sure 151 = .ok (.iconst 2, 1) := by decide +kernel
theorem dX5_sure_152 : decode cX5_sure 152 = .ok (.if_icmp .ne 8, 3) := by decide +kernel
theorem dX5_sure_155 : decode cX5_sure 155 = .ok (.iload 4, 2) := by decide +kernel
theorem dX5_sure_157 : decode cX5_sure 157 = .ok (.goto 5, 3) := by decide +kernel
theorem dX5_sure_160 : decode cX5_sure 160 = .ok (.iload 5, 2) := by decide +kernel
theorem dX5_sure_162 : decode cX5_sure 162 = .ok (.ireturn, 1) := by decide +kernel
theorem dX5_looksWhere_0 : decode cX5_looksWhere 0 = .ok (.aload_n 0, 1) := by decide +kernel
theorem dX5_looksWhere_1 : decode cX5_looksWhere 1 = .ok (.invokevirtual 170, 3) := by decide +kernel
theorem dX5_looksWhere_4 : decode cX5_looksWhere 4 = .ok (.iconst 0, 1) := by decide +kernel
theorem dX5_looksWhere_5 : decode cX5_looksWhere 5 = .ok (.istore_n 1, 1) := by decide +kernel
theorem dX5_looksWhere_6 : decode cX5_looksWhere 6 = .ok (.iload_n 1, 1) := by decide +kernel
theorem dX5_looksWhere_7 : decode cX5_looksWhere 7 = .ok (.aload_n 0, 1) := by decide +kernel
theorem dX5_looksWhere_8 : decode cX5_looksWhere 8 = .ok (.invokevirtual 58, 3) := by decide +kernel
theorem dX5_looksWhere_11 : decode cX5_looksWhere 11 = .ok (.if_icmp .ge 64, 3) := by decide +kernel
theorem dX5_looksWhere_14 : decode cX5_looksWhere 14 = .ok (.iload_n 1, 1) := by decide +kernel
theorem dX5_looksWhere_15 : decode cX5_looksWhere 15 = .ok (.istore_n 2, 1) := by decide +kernel
theorem dX5_looksWhere_16 : decode cX5_looksWhere 16 = .ok (.iconst 0, 1) := by decide +kernel
theorem dX5_looksWhere_17 : decode cX5_looksWhere 17 = .ok (.istore_n 3, 1) := by decide +kernel
theorem dX5_looksWhere_18 : decode cX5_looksWhere 18 = .ok (.iload_n 3, 1) := by decide +kernel
theorem dX5_looksWhere_19 : decode cX5_looksWhere 19 = .ok (.sipush 256, 3) := by decide +kernel
theorem dX5_looksWhere_22 : decode cX5_looksWhere 22 = .ok (.if_icmp .ge 26, 3) := by decide +kernel
theorem dX5_looksWhere_25 : decode cX5_looksWhere 25 = .ok (.aload_n 0, 1) := by decide +kernel
theorem dX5_looksWhere_26 : decode cX5_looksWhere 26 = .ok (.getfield 29, 3) := by decide +kernel
theorem dX5_looksWhere_29 : decode cX5_looksWhere 29 = .ok (.iload_n 2, 1) := by decide +kernel
theorem dX5_looksWhere_30 : decode cX5_looksWhere 30 = .ok (.iaload, 1) := by decide +kernel
theorem dX5_looksWhere_31 : decode cX5_looksWhere 31 = .ok (.iload_n 2, 1) := by decide +kernel
theorem dX5_looksWhere_32 : decode cX5_looksWhere 32 = .ok (.if_icmp .eq 16, 3) := by decide +kernel
theorem dX5_looksWhere_35 : decode cX5_looksWhere 35 = .ok (.aload_n 0, 1) := by decide +kernel
theorem dX5_looksWhere_36 : decode cX5_looksWhere 36 = .ok (.getfield 29, 3) := by decide +kernel
theorem dX5_looksWhere_39 : decode cX5_looksWhere 39 = .ok (.iload_n 2, 1) := by decide +kernel
theorem dX5_looksWhere_40 : decode cX5_looksWhere 40 = .ok (.iaload, 1) := by decide +kernel
theorem dX5_looksWhere_41 : decode cX5_looksWhere 41 = .ok (.istore_n 2, 1) := by decide +kernel
theorem dX5_looksWhere_42 : decode cX5_looksWhere 42 = .ok (.iinc 3 1, 3) := by decide +kernel
theorem dX5_looksWhere_45 : decode cX5_looksWhere 45 = .ok (.goto (-27), 3) := by decide +kernel
theorem dX5_looksWhere_48 : decode cX5_looksWhere 48 = .ok (.aload_n 0, 1) := by decide +kernel
theorem dX5_looksWhere_49 : decode cX5_looksWhere 49 = .ok (.getfield 32, 3) := by decide +kernel
theorem dX5_looksWhere_52 : decode cX5_looksWhere 52 = .ok (.iload_n 1, 1) := by decide +kernel
theorem dX5_looksWhere_53 : decode cX5_looksWhere 53 = .ok (.aload_n 0, 1) := by decide +kernel
theorem dX5_looksWhere_54 : decode cX5_looksWhere 54 = .ok (.getfield 29, 3) := by decide +kernel
theorem dX5_looksWhere_57 : decode cX5_looksWhere 57 = .ok (.iload_n 2, 1) := by decide +kernel
theorem dX5_looksWhere_58 : decode cX5_looksWhere 58 = .ok (.iaload, 1) := by decide +kernel
theorem dX5_looksWhere_59 : decode cX5_looksWhere 59 = .ok (.iload_n 2, 1) := by decide +kernel
theorem dX5_looksWhere_60 : decode cX5_looksWhere 60 = .ok (.if_icmp .ne 7, 3) := by decide +kernel
theorem dX5_looksWhere_63 : decode cX5_looksWhere 63 = .ok (.iload_n 2, 1) := by decide +kernel
theorem dX5_looksWhere_64 : decode cX5_looksWhere 64 = .ok (.goto 4, 3) := by decide +kernel
theorem dX5_looksWhere_67 : decode cX5_looksWhere 67 = .ok (.iconst (-1), 1) := by decide +kernel
theorem dX5_looksWhere_68 : decode cX5_looksWhere 68 = .ok (.iastore, 1) := by decide +kernel
theorem dX5_looksWhere_69 : decode cX5_looksWhere 69 = .ok (.iinc 1 1, 3) := by decide +kernel
theorem dX5_looksWhere_72 : decode cX5_looksWhere 72 = .ok (.goto (-66), 3) := by decide +kernel
theorem dX5_looksWhere_75 : decode cX5_looksWhere 75 = .ok (.return_, 1) := by decide +kernel
theorem dX5_basin_0 : decode cX5_basin 0 = .ok (.aload_n 0, 1) := by decide +kernel
theorem dX5_basin_1 : decode cX5_basin 1 = .ok (.invokevirtual 184, 3) := by decide +kernel
theorem dX5_basin_4 : decode cX5_basin 4 = .ok (.iconst 0, 1) := by decide +kernel
theorem dX5_basin_5 : decode cX5_basin 5 = .ok (.istore_n 1, 1) := by decide +kernel
theorem dX5_basin_6 : decode cX5_basin 6 = .ok (.iconst 0, 1) := by decide +kernel
theorem dX5_basin_7 : decode cX5_basin 7 = .ok (.istore_n 2, 1) := by decide +kernel
theorem dX5_basin_8 : decode cX5_basin 8 = .ok (.iload_n 2, 1) := by decide +kernel
theorem dX5_basin_9 : decode cX5_basin 9 = .ok (.aload_n 0, 1) := by decide +kernel
theorem dX5_basin_10 : decode cX5_basin 10 = .ok (.invokevirtual 58, 3) := by decide +kernel
theorem dX5_basin_13 : decode cX5_basin 13 = .ok (.if_icmp .ge 26, 3) := by decide +kernel
theorem dX5_basin_16 : decode cX5_basin 16 = .ok (.iload_n 1, 1) := by decide +kernel
theorem dX5_basin_17 : decode cX5_basin 17 = .ok (.aload_n 0, 1) := by decide +kernel
theorem dX5_basin_18 : decode cX5_basin 18 = .ok (.getfield 32, 3) := by decide +kernel
theorem dX5_basin_21 : decode cX5_basin 21 = .ok (.iload_n 2, 1) := by decide +kernel
theorem dX5_basin_22 : decode cX5_basin 22 = .ok (.iaload, 1) := by decide +kernel
theorem dX5_basin_23 : decode cX5_basin 23 = .ok (.ifCond .lt 7, 3) := by decide +kernel
theorem dX5_basin_26 : decode cX5_basin 26 = .ok (.iconst 1, 1) := by decide +kernel
theorem dX5_basin_27 : decode cX5_basin 27 = .ok (.goto 4, 3) := by decide +kernel
theorem dX5_basin_30 : decode cX5_basin 30 = .ok (.iconst 0, 1) := by decide +kernel
theorem dX5_basin_31 : decode cX5_basin 31 = .ok (.iadd, 1) := by decide +kernel
theorem dX5_basin_32 : decode cX5_basin 32 = .ok (.istore_n 1, 1) := by decide +kernel
theorem dX5_basin_33 : decode cX5_basin 33 = .ok (.iinc 2 1, 3) := by decide +kernel
theorem dX5_basin_36 : decode cX5_basin 36 = .ok (.goto (-28), 3) := by decide +kernel
theorem dX5_basin_39 : decode cX5_basin 39 = .ok (.iload_n 1, 1) := by decide +kernel
theorem dX5_basin_40 : decode cX5_basin 40 = .ok (.ireturn, 1) := by decide +kernel
theorem dX5_odds_0 : decode cX5_odds 0 = .ok (.aload_n 0, 1) := by decide +kernel
theorem dX5_odds_1 : decode cX5_odds 1 = .ok (.iload_n 1, 1) := by decide +kernel
theorem dX5_odds_2 : decode cX5_odds 2 = .ok (.invokevirtual 87, 3) := by decide +kernel
theorem dX5_odds_5 : decode cX5_odds 5 = .ok (.ifCond .eq 13, 3) := by decide +kernel
theorem dX5_odds_8 : decode cX5_odds 8 = .ok (.iload_n 2, 1) := by decide +kernel
theorem dX5_odds_9 : decode cX5_odds 9 = .ok (.i2l, 1) := by decide +kernel
theorem dX5_odds_10 : decode cX5_odds 10 = .ok (.lconst 0, 1) := by decide +kernel
theorem dX5_odds_11 : decode cX5_odds 11 = .ok (.lconst 1, 1) := by decide +kernel
theorem dX5_odds_12 : decode cX5_odds 12 = .ok (.invokestatic 54, 3) := by decide +kernel
theorem dX5_odds_15 : decode cX5_odds 15 = .ok (.ifCond .ne 11, 3) := by decide +kernel
theorem dX5_odds_18 : decode cX5_odds 18 = .ok (.aload_n 0, 1) := by decide +kernel
theorem dX5_odds_19 : decode cX5_odds 19 = .ok (.ldc 48, 2) := by decide +kernel
theorem dX5_odds_21 : decode cX5_odds 21 = .ok (.invokevirtual 50, 3) := by decide +kernel
theorem dX5_odds_24 : decode cX5_odds 24 = .ok (.i2l, 1) := by decide +kernel
theorem dX5_odds_25 : decode cX5_odds 25 = .ok (.lreturn, 1) := by decide +kernel
theorem dX5_odds_26 : decode cX5_odds 26 = .ok (.aload_n 0, 1) := by decide +kernel
theorem dX5_odds_27 : decode cX5_odds 27 = .ok (.invokevirtual 184, 3) := by decide +kernel
theorem dX5_odds_30 : decode cX5_odds 30 = .ok (.iconst 0, 1) := by decide +kernel
theorem dX5_odds_31 : decode cX5_odds 31 = .ok (.istore_n 3, 1) := by decide +kernel
theorem dX5_odds_32 : decode cX5_odds 32 = .ok (.iconst 0, 1) := by decide +kernel
theorem dX5_odds_33 : decode cX5_odds 33 = .ok (.istore 4, 2) := by decide +kernel
theorem dX5_odds_35 : decode cX5_odds 35 = .ok (.iload 4, 2) := by decide +kernel
theorem dX5_odds_37 : decode cX5_odds 37 = .ok (.aload_n 0, 1) := by decide +kernel
theorem dX5_odds_38 : decode cX5_odds 38 = .ok (.invokevirtual 58, 3) := by decide +kernel
theorem dX5_odds_41 : decode cX5_odds 41 = .ok (.if_icmp .ge 41, 3) := by decide +kernel
theorem dX5_odds_44 : decode cX5_odds 44 = .ok (.iload_n 3, 1) := by decide +kernel
theorem dX5_odds_45 : decode cX5_odds 45 = .ok (.aload_n 0, 1) := by decide +kernel
theorem dX5_odds_46 : decode cX5_odds 46 = .ok (.getfield 32, 3) := by decide +kernel
theorem dX5_odds_49 : decode cX5_odds 49 = .ok (.iload 4, 2) := by decide +kernel
theorem dX5_odds_51 : decode cX5_odds 51 = .ok (.iaload, 1) := by decide +kernel
theorem dX5_odds_52 : decode cX5_odds 52 = .ok (.ifCond .lt 21, 3) := by decide +kernel
