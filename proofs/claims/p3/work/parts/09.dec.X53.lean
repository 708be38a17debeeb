theorem dX5_read_12 : decode cX5_read 12 = .ok (.invokevirtual 50, 3) := by decide +kernel
theorem dX5_read_15 : decode cX5_read 15 = .ok (.ireturn, 1) := by decide +kernel
theorem dX5_read_16 : decode cX5_read 16 = .ok (.iconst 0, 1) := by decide +kernel
theorem dX5_read_17 : decode cX5_read 17 = .ok (.istore_n 3, 1) := by decide +kernel
theorem dX5_read_18 : decode cX5_read 18 = .ok (.iconst 0, 1) := by decide +kernel
theorem dX5_read_19 : decode cX5_read 19 = .ok (.istore 4, 2) := by decide +kernel
theorem dX5_read_21 : decode cX5_read 21 = .ok (.iload 4, 2) := by decide +kernel
theorem dX5_read_23 : decode cX5_read 23 = .ok (.aload_n 0, 1) := by decide +kernel
theorem dX5_read_24 : decode cX5_read 24 = .ok (.getfield 7, 3) := by decide +kernel
theorem dX5_read_27 : decode cX5_read 27 = .ok (.iconst 0, 1) := by decide +kernel
theorem dX5_read_28 : decode cX5_read 28 = .ok (.iaload, 1) := by decide +kernel
theorem dX5_read_29 : decode cX5_read 29 = .ok (.if_icmp .ge 76, 3) := by decide +kernel
theorem dX5_read_32 : decode cX5_read 32 = .ok (.aload_n 0, 1) := by decide +kernel
theorem dX5_read_33 : decode cX5_read 33 = .ok (.iload 4, 2) := by decide +kernel
theorem dX5_read_35 : decode cX5_read 35 = .ok (.iconst 0, 1) := by decide +kernel
theorem dX5_read_36 : decode cX5_read 36 = .ok (.invokevirtual 70, 3) := by decide +kernel
theorem dX5_read_39 : decode cX5_read 39 = .ok (.istore 5, 2) := by decide +kernel
theorem dX5_read_41 : decode cX5_read 41 = .ok (.iconst 0, 1) := by decide +kernel
theorem dX5_read_42 : decode cX5_read 42 = .ok (.istore 6, 2) := by decide +kernel
theorem dX5_read_44 : decode cX5_read 44 = .ok (.iload 6, 2) := by decide +kernel
theorem dX5_read_46 : decode cX5_read 46 = .ok (.bipush 6, 2) := by decide +kernel
theorem dX5_read_48 : decode cX5_read 48 = .ok (.if_icmp .ge 38, 3) := by decide +kernel
theorem dX5_read_51 : decode cX5_read 51 = .ok (.aload_n 0, 1) := by decide +kernel
theorem dX5_read_52 : decode cX5_read 52 = .ok (.getfield 7, 3) := by decide +kernel
theorem dX5_read_55 : decode cX5_read 55 = .ok (.iconst 2, 1) := by decide +kernel
theorem dX5_read_56 : decode cX5_read 56 = .ok (.iconst 3, 1) := by decide +kernel
theorem dX5_read_57 : decode cX5_read 57 = .ok (.iload 4, 2) := by decide +kernel
theorem dX5_read_59 : decode cX5_read 59 = .ok (.imul, 1) := by decide +kernel
theorem dX5_read_60 : decode cX5_read 60 = .ok (.iadd, 1) := by decide +kernel
theorem dX5_read_61 : decode cX5_read 61 = .ok (.iload 6, 2) := by decide +kernel
theorem dX5_read_63 : decode cX5_read 63 = .ok (.iastore, 1) := by decide +kernel
theorem dX5_read_64 : decode cX5_read 64 = .ok (.iload_n 3, 1) := by decide +kernel
theorem dX5_read_65 : decode cX5_read 65 = .ok (.aload_n 0, 1) := by decide +kernel
theorem dX5_read_66 : decode cX5_read 66 = .ok (.iload_n 1, 1) := by decide +kernel
theorem dX5_read_67 : decode cX5_read 67 = .ok (.invokevirtual 207, 3) := by decide +kernel
theorem dX5_read_70 : decode cX5_read 70 = .ok (.ifCond .eq 7, 3) := by decide +kernel
theorem dX5_read_73 : decode cX5_read 73 = .ok (.iconst 1, 1) := by decide +kernel
theorem dX5_read_74 : decode cX5_read 74 = .ok (.goto 4, 3) := by decide +kernel
theorem dX5_read_77 : decode cX5_read 77 = .ok (.iconst 0, 1) := by decide +kernel
theorem dX5_read_78 : decode cX5_read 78 = .ok (.iadd, 1) := by decide +kernel
theorem dX5_read_79 : decode cX5_read 79 = .ok (.istore_n 3, 1) := by decide +kernel
theorem dX5_read_80 : decode cX5_read 80 = .ok (.iinc 6 1, 3) := by decide +kernel
theorem dX5_read_83 : decode cX5_read 83 = .ok (.goto (-39), 3) := by decide +kernel
theorem dX5_read_86 : decode cX5_read 86 = .ok (.aload_n 0, 1) := by decide +kernel
theorem dX5_read_87 : decode cX5_read 87 = .ok (.getfield 7, 3) := by decide +kernel
theorem dX5_read_90 : decode cX5_read 90 = .ok (.iconst 2, 1) := by decide +kernel
theorem dX5_read_91 : decode cX5_read 91 = .ok (.iconst 3, 1) := by decide +kernel
theorem dX5_read_92 : decode cX5_read 92 = .ok (.iload 4, 2) := by decide +kernel
theorem dX5_read_94 : decode cX5_read 94 = .ok (.imul, 1) := by decide +kernel
theorem dX5_read_95 : decode cX5_read 95 = .ok (.iadd, 1) := by decide +kernel
theorem dX5_read_96 : decode cX5_read 96 = .ok (.iload 5, 2) := by decide +kernel
theorem dX5_read_98 : decode cX5_read 98 = .ok (.iastore, 1) := by decide +kernel
theorem dX5_read_99 : decode cX5_read 99 = .ok (.iinc 4 1, 3) := by decide +kernel
theorem dX5_read_102 : decode cX5_read 102 = .ok (.goto (-81), 3) := by decide +kernel
theorem dX5_read_105 : decode cX5_read 105 = .ok (.iload_n 3, 1) := by decide +kernel
theorem dX5_read_106 : decode cX5_read 106 = .ok (.ireturn, 1) := by decide +kernel
theorem dX5_image_0 : decode cX5_image 0 = .ok (.iconst 0, 1) := by decide +kernel
theorem dX5_image_1 : decode cX5_image 1 = .ok (.istore_n 1, 1) := by decide +kernel
theorem dX5_image_2 : decode cX5_image 2 = .ok (.iload_n 1, 1) := by decide +kernel
theorem dX5_image_3 : decode cX5_image 3 = .ok (.sipush 538, 3) := by decide +kernel
theorem dX5_image_6 : decode cX5_image 6 = .ok (.if_icmp .ge 21, 3) := by decide +kernel
theorem dX5_image_9 : decode cX5_image 9 = .ok (.aload_n 0, 1) := by decide +kernel
theorem dX5_image_10 : decode cX5_image 10 = .ok (.getfield 13, 3) := by decide +kernel
theorem dX5_image_13 : decode cX5_image 13 = .ok (.iload_n 1, 1) := by decide +kernel
theorem dX5_image_14 : decode cX5_image 14 = .ok (.aload_n 0, 1) := by decide +kernel
theorem dX5_image_15 : decode cX5_image 15 = .ok (.getfield 7, 3) := by decide +kernel
theorem dX5_image_18 : decode cX5_image 18 = .ok (.iload_n 1, 1) := by decide +kernel
theorem dX5_image_19 : decode cX5_image 19 = .ok (.iaload, 1) := by decide +kernel
theorem dX5_image_20 : decode cX5_image 20 = .ok (.iastore, 1) := by decide +kernel
theorem dX5_image_21 : decode cX5_image 21 = .ok (.iinc 1 1, 3) := by decide +kernel
theorem dX5_image_24 : decode cX5_image 24 = .ok (.goto (-22), 3) := by decide +kernel
theorem dX5_image_27 : decode cX5_image 27 = .ok (.aload_n 0, 1) := by decide +kernel
theorem dX5_image_28 : decode cX5_image 28 = .ok (.iconst 1, 1) := by decide +kernel
theorem dX5_image_29 : decode cX5_image 29 = .ok (.putfield 210, 3) := by decide +kernel
theorem dX5_image_32 : decode cX5_image 32 = .ok (.iconst 1, 1) := by decide +kernel
theorem dX5_image_33 : decode cX5_image 33 = .ok (.ireturn, 1) := by decide +kernel
theorem dX5_undo_0 : decode cX5_undo 0 = .ok (.aload_n 0, 1) := by decide +kernel
theorem dX5_undo_1 : decode cX5_undo 1 = .ok (.getfield 210, 3) := by decide +kernel
theorem dX5_undo_4 : decode cX5_undo 4 = .ok (.ifCond .ne 10, 3) := by decide +kernel
theorem dX5_undo_7 : decode cX5_undo 7 = .ok (.aload_n 0, 1) := by decide +kernel
theorem dX5_undo_8 : decode cX5_undo 8 = .ok (.ldc 49, 2) := by decide +kernel
theorem dX5_undo_10 : decode cX5_undo 10 = .ok (.invokevirtual 50, 3) := by decide +kernel
theorem dX5_undo_13 : decode cX5_undo 13 = .ok (.ireturn, 1) := by decide +kernel
theorem dX5_undo_14 : decode cX5_undo 14 = .ok (.iconst 0, 1) := by decide +kernel
theorem dX5_undo_15 : decode cX5_undo 15 = .ok (.istore_n 1, 1) := by decide +kernel
theorem dX5_undo_16 : decode cX5_undo 16 = .ok (.iload_n 1, 1) := by decide +kernel
theorem dX5_undo_17 : decode cX5_undo 17 = .ok (.sipush 538, 3) := by decide +kernel
theorem dX5_undo_20 : decode cX5_undo 20 = .ok (.if_icmp .ge 21, 3) := by decide +kernel
theorem dX5_undo_23 : decode cX5_undo 23 = .ok (.aload_n 0, 1) := by decide +kernel
theorem dX5_undo_24 : decode cX5_undo 24 = .ok (.getfield 7, 3) := by decide +kernel
theorem dX5_undo_27 : decode cX5_undo 27 = .ok (.iload_n 1, 1) := by decide +kernel
theorem dX5_undo_28 : decode cX5_undo 28 = .ok (.aload_n 0, 1) := by decide +kernel
theorem dX5_undo_29 : decode cX5_undo 29 = .ok (.getfield 13, 3) := by decide +kernel
theorem dX5_undo_32 : decode cX5_undo 32 = .ok (.iload_n 1, 1) := by decide +kernel
theorem dX5_undo_33 : decode cX5_undo 33 = .ok (.iaload, 1) := by decide +kernel
theorem dX5_undo_34 : decode cX5_undo 34 = .ok (.iastore, 1) := by decide +kernel
theorem dX5_undo_35 : decode cX5_undo 35 = .ok (.iinc 1 1, 3) := by decide +kernel
theorem dX5_undo_38 : decode cX5_undo 38 = .ok (.goto (-22), 3) := by decide +kernel
theorem dX5_undo_41 : decode cX5_undo 41 = .ok (.aload_n 0, 1) := by decide +kernel
theorem dX5_undo_42 : decode cX5_undo 42 = .ok (.getfield 7, 3) := by decide +kernel
theorem dX5_undo_45 : decode cX5_undo 45 = .ok (.iconst 0, 1) := by decide +kernel
theorem dX5_undo_46 : decode cX5_undo 46 = .ok (.iaload, 1) := by decide +kernel
theorem dX5_undo_47 : decode cX5_undo 47 = .ok (.ireturn, 1) := by decide +kernel
theorem dX5_tear_0 : decode cX5_tear 0 = .ok (.aload_n 0, 1) := by decide +kernel
theorem dX5_tear_1 : decode cX5_tear 1 = .ok (.getfield 210, 3) := by decide +kernel
theorem dX5_tear_4 : decode cX5_tear 4 = .ok (.ifCond .eq 7, 3) := by decide +kernel
theorem dX5_tear_7 : decode cX5_tear 7 = .ok (.iconst 1, 1) := by decide +kernel
theorem dX5_tear_8 : decode cX5_tear 8 = .ok (.goto 4, 3) := by decide +kernel
theorem dX5_tear_11 : decode cX5_tear 11 = .ok (.iconst 0, 1) := by decide +kernel
theorem dX5_tear_12 : decode cX5_tear 12 = .ok (.istore_n 1, 1) := by decide +kernel
theorem dX5_tear_13 : decode cX5_tear 13 = .ok (.aload_n 0, 1) := by decide +kernel
theorem dX5_tear_14 : decode cX5_tear 14 = .ok (.iconst 0, 1) := by decide +kernel
theorem dX5_tear_15 : decode cX5_tear 15 = .ok (.putfield 210, 3) := by decide +kernel
theorem dX5_tear_18 : decode cX5_tear 18 = .ok (.iload_n 1, 1) := by decide +kernel
theorem dX5_tear_19 : decode cX5_tear 19 = .ok (.ireturn, 1) := by decide +kernel
theorem dX5_count_0 : decode cX5_count 0 = .ok (.iconst 0, 1) := by decide +kernel
theorem dX5_count_1 : decode cX5_count 1 = .ok (.istore_n 2, 1) := by decide +kernel
theorem dX5_count_2 : decode cX5_count 2 = .ok (.iconst 0, 1) := by decide +kernel
theorem dX5_count_3 : decode cX5_count 3 = .ok (.istore_n 3, 1) := by decide +kernel
theorem dX5_count_4 : decode cX5_count 4 = .ok (.iload_n 3, 1) := by decide +kernel
theorem dX5_count_5 : decode cX5_count 5 = .ok (.aload_n 0, 1) := by decide +kernel
theorem dX5_count_6 : decode cX5_count 6 = .ok (.getfield 7, 3) := by decide +kernel
theorem dX5_count_9 : decode cX5_count 9 = .ok (.iconst 0, 1) := by decide +kernel
theorem dX5_count_10 : decode cX5_count 10 = .ok (.iaload, 1) := by decide +kernel
theorem dX5_count_11 : decode cX5_count 11 = .ok (.if_icmp .ge 28, 3) := by decide +kernel
theorem dX5_count_14 : decode cX5_count 14 = .ok (.iload_n 2, 1) := by decide +kernel
theorem dX5_count_15 : decode cX5_count 15 = .ok (.aload_n 0, 1) := by decide +kernel
theorem dX5_count_16 : decode cX5_count 16 = .ok (.iload_n 3, 1) := by decide +kernel
theorem dX5_count_17 : decode cX5_count 17 = .ok (.iconst 2, 1) := by decide +kernel
theorem dX5_count_18 : decode cX5_count 18 = .ok (.invokevirtual 70, 3) := by decide +kernel
theorem dX5_count_21 : decode cX5_count 21 = .ok (.ifCond .le 9, 3) := by decide +kernel
theorem dX5_count_24 : decode cX5_count 24 = .ok (.iconst 1, 1) := by decide +kernel
theorem dX5_count_25 : decode cX5_count 25 = .ok (.iload_n 3, 1) := by decide +kernel
theorem dX5_count_26 : decode cX5_count 26 = .ok (.ishl, 1) := by decide +kernel
theorem dX5_count_27 : decode cX5_count 27 = .ok (.goto 4, 3) := by decide +kernel
theorem dX5_count_30 : decode cX5_count 30 = .ok (.iconst 0, 1) := by decide +kernel
theorem dX5_count_31 : decode cX5_count 31 = .ok (.ior, 1) := by decide +kernel
theorem dX5_count_32 : decode cX5_count 32 = .ok (.istore_n 2, 1) := by decide +kernel
theorem dX5_count_33 : decode cX5_count 33 = .ok (.iinc 3 1, 3) := by decide +kernel
theorem dX5_count_36 : decode cX5_count 36 = .ok (.goto (-32), 3) := by decide +kernel
theorem dX5_count_39 : decode cX5_count 39 = .ok (.iload_n 1, 1) := by decide +kernel
theorem dX5_count_40 : decode cX5_count 40 = .ok (.tableswitch 54 0 3 #[32, 39, 44, 52], 32) := by decide +kernel
theorem dX5_count_72 : decode cX5_count 72 = .ok (.aload_n 0, 1) := by decide +kernel
theorem dX5_count_73 : decode cX5_count 73 = .ok (.getfield 7, 3) := by decide +kernel
theorem dX5_count_76 : decode cX5_count 76 = .ok (.iconst 0, 1) := by decide +kernel
theorem dX5_count_77 : decode cX5_count 77 = .ok (.iaload, 1) := by decide +kernel
theorem dX5_count_78 : decode cX5_count 78 = .ok (.ireturn, 1) := by decide +kernel
theorem dX5_count_79 : decode cX5_count 79 = .ok (.aload_n 0, 1) := by decide +kernel
theorem dX5_count_80 : decode cX5_count 80 = .ok (.getfield 99, 3) := by decide +kernel
theorem dX5_count_83 : decode cX5_count 83 = .ok (.ireturn, 1) := by decide +kernel
theorem dX5_count_84 : decode cX5_count 84 = .ok (.aload_n 0, 1) := by decide +kernel
theorem dX5_count_85 : decode cX5_count 85 = .ok (.sipush 255, 3) := by decide +kernel
theorem dX5_count_88 : decode cX5_count 88 = .ok (.invokevirtual 154, 3) := by decide +kernel
theorem dX5_count_91 : decode cX5_count 91 = .ok (.ireturn, 1) := by decide +kernel
theorem dX5_count_92 : decode cX5_count 92 = .ok (.iload_n 2, 1) := by decide +kernel
theorem dX5_count_93 : decode cX5_count 93 = .ok (.ireturn, 1) := by decide +kernel
theorem dX5_count_94 : decode cX5_count 94 = .ok (.aload_n 0, 1) := by decide +kernel
theorem dX5_count_95 : decode cX5_count 95 = .ok (.ldc 48, 2) := by decide +kernel
theorem dX5_count_97 : decode cX5_count 97 = .ok (.invokevirtual 50, 3) := by decide +kernel
theorem dX5_count_100 : decode cX5_count 100 = .ok (.ireturn, 1) := by decide +kernel
theorem dX5_status_0 : decode cX5_status 0 = .ok (.iload_n 1, 1) := by decide +kernel
theorem dX5_status_1 : decode cX5_status 1 = .ok (.i2l, 1) := by decide +kernel
theorem dX5_status_2 : decode cX5_status 2 = .ok (.ldc2_w 214, 3) := by decide +kernel
theorem dX5_status_5 : decode cX5_status 5 = .ok (.ldc2_w 216, 3) := by decide +kernel
theorem dX5_status_8 : decode cX5_status 8 = .ok (.invokestatic 54, 3) := by decide +kernel
theorem dX5_status_11 : decode cX5_status 11 = .ok (.ifCond .ne 10, 3) := by decide +kernel
theorem dX5_status_14 : decode cX5_status 14 = .ok (.aload_n 0, 1) := by decide +kernel
theorem dX5_status_15 : decode cX5_status 15 = .ok (.ldc 48, 2) := by decide +kernel
theorem dX5_status_17 : decode cX5_status 17 = .ok (.invokevirtual 50, 3) := by decide +kernel
theorem dX5_status_20 : decode cX5_status 20 = .ok (.ireturn, 1) := by decide +kernel
theorem dX5_status_21 : decode cX5_status 21 = .ok (.iconst 0, 1) := by decide +kernel
theorem dX5_status_22 : decode cX5_status 22 = .ok (.istore_n 2, 1) := by decide +kernel
theorem dX5_status_23 : decode cX5_status 23 = .ok (.iconst 0, 1) := by decide +kernel
theorem dX5_status_24 : decode cX5_status 24 = .ok (.istore_n 3, 1) := by decide +kernel
theorem dX5_status_25 : decode cX5_status 25 = .ok (.iload_n 3, 1) := by decide +kernel
theorem dX5_status_26 : decode cX5_status 26 = .ok (.bipush 7, 2) := by decide +kernel
theorem dX5_status_28 : decode cX5_status 28 = .ok (.if_icmp .ge 31, 3) := by decide +kernel
theorem dX5_status_31 : decode cX5_status 31 = .ok (.iload_n 2, 1) := by decide +kernel
theorem dX5_status_32 : decode cX5_status 32 = .ok (.iload_n 1, 1) := by decide +kernel
theorem dX5_status_33 : decode cX5_status 33 = .ok (.ifCond .lt 8, 3) := by decide +kernel
theorem dX5_status_36 : decode cX5_status 36 = .ok (.iload_n 3, 1) := by decide +kernel
theorem dX5_status_37 : decode cX5_status 37 = .ok (.iload_n 1, 1) := by decide +kernel
theorem dX5_status_38 : decode cX5_status 38 = .ok (.if_icmp .ne 12, 3) := by decide +kernel
theorem dX5_status_41 : decode cX5_status 41 = .ok (.aload_n 0, 1) := by decide +kernel
theorem dX5_status_42 : decode cX5_status 42 = .ok (.getfield 16, 3) := by decide +kernel
theorem dX5_status_45 : decode cX5_status 45 = .ok (.iload_n 3, 1) := by decide +kernel
theorem dX5_status_46 : decode cX5_status 46 = .ok (.iaload, 1) := by decide +kernel
theorem dX5_status_47 : decode cX5_status 47 = .ok (.goto 4, 3) := by decide +kernel
theorem dX5_status_50 : decode cX5_status 50 = .ok (.iconst 0, 1) := by decide +kernel
theorem dX5_status_51 : decode cX5_status 51 = .ok (.iadd, 1) := by decide +kernel
theorem dX5_status_52 : decode cX5_status 52 = .ok (.istore_n 2, 1) := by decide +kernel
theorem dX5_status_53 : decode cX5_status 53 = .ok (.iinc 3 1, 3) := by decide +kernel
theorem dX5_status_56 : decode cX5_status 56 = .ok (.goto (-31), 3) := by decide +kernel
theorem dX5_status_59 : decode cX5_status 59 = .ok (.iload_n 2, 1) := by decide +kernel
theorem dX5_status_60 : decode cX5_status 60 = .ok (.ireturn, 1) := by decide +kernel
