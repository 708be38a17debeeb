theorem dX5_init_0 : decode cX5_init 0 = .ok (.aload_n 0, 1) := by decide +kernel
theorem dX5_init_1 : decode cX5_init 1 = .ok (.invokespecial 1, 3) := by decide +kernel
theorem dX5_init_4 : decode cX5_init 4 = .ok (.aload_n 0, 1) := by decide +kernel
theorem dX5_init_5 : decode cX5_init 5 = .ok (.sipush 538, 3) := by decide +kernel
theorem dX5_init_8 : decode cX5_init 8 = .ok (.newarray .int, 2) := by decide +kernel
theorem dX5_init_10 : decode cX5_init 10 = .ok (.putfield 7, 3) := by decide +kernel
theorem dX5_init_13 : decode cX5_init 13 = .ok (.aload_n 0, 1) := by decide +kernel
theorem dX5_init_14 : decode cX5_init 14 = .ok (.sipush 538, 3) := by decide +kernel
theorem dX5_init_17 : decode cX5_init 17 = .ok (.newarray .int, 2) := by decide +kernel
theorem dX5_init_19 : decode cX5_init 19 = .ok (.putfield 13, 3) := by decide +kernel
theorem dX5_init_22 : decode cX5_init 22 = .ok (.aload_n 0, 1) := by decide +kernel
theorem dX5_init_23 : decode cX5_init 23 = .ok (.bipush 7, 2) := by decide +kernel
theorem dX5_init_25 : decode cX5_init 25 = .ok (.newarray .int, 2) := by decide +kernel
theorem dX5_init_27 : decode cX5_init 27 = .ok (.putfield 16, 3) := by decide +kernel
theorem dX5_init_30 : decode cX5_init 30 = .ok (.aload_n 0, 1) := by decide +kernel
theorem dX5_init_31 : decode cX5_init 31 = .ok (.bipush 64, 2) := by decide +kernel
theorem dX5_init_33 : decode cX5_init 33 = .ok (.newarray .boolean, 2) := by decide +kernel
theorem dX5_init_35 : decode cX5_init 35 = .ok (.putfield 19, 3) := by decide +kernel
theorem dX5_init_38 : decode cX5_init 38 = .ok (.aload_n 0, 1) := by decide +kernel
theorem dX5_init_39 : decode cX5_init 39 = .ok (.bipush 60, 2) := by decide +kernel
theorem dX5_init_41 : decode cX5_init 41 = .ok (.newarray .int, 2) := by decide +kernel
theorem dX5_init_43 : decode cX5_init 43 = .ok (.putfield 23, 3) := by decide +kernel
theorem dX5_init_46 : decode cX5_init 46 = .ok (.aload_n 0, 1) := by decide +kernel
theorem dX5_init_47 : decode cX5_init 47 = .ok (.bipush 64, 2) := by decide +kernel
theorem dX5_init_49 : decode cX5_init 49 = .ok (.newarray .int, 2) := by decide +kernel
theorem dX5_init_51 : decode cX5_init 51 = .ok (.putfield 26, 3) := by decide +kernel
theorem dX5_init_54 : decode cX5_init 54 = .ok (.aload_n 0, 1) := by decide +kernel
theorem dX5_init_55 : decode cX5_init 55 = .ok (.sipush 256, 3) := by decide +kernel
theorem dX5_init_58 : decode cX5_init 58 = .ok (.newarray .int, 2) := by decide +kernel
theorem dX5_init_60 : decode cX5_init 60 = .ok (.putfield 29, 3) := by decide +kernel
theorem dX5_init_63 : decode cX5_init 63 = .ok (.aload_n 0, 1) := by decide +kernel
theorem dX5_init_64 : decode cX5_init 64 = .ok (.sipush 256, 3) := by decide +kernel
theorem dX5_init_67 : decode cX5_init 67 = .ok (.newarray .int, 2) := by decide +kernel
theorem dX5_init_69 : decode cX5_init 69 = .ok (.putfield 32, 3) := by decide +kernel
theorem dX5_init_72 : decode cX5_init 72 = .ok (.aload_n 0, 1) := by decide +kernel
theorem dX5_init_73 : decode cX5_init 73 = .ok (.iconst 4, 1) := by decide +kernel
theorem dX5_init_74 : decode cX5_init 74 = .ok (.newarray .int, 2) := by decide +kernel
theorem dX5_init_76 : decode cX5_init 76 = .ok (.putfield 35, 3) := by decide +kernel
theorem dX5_init_79 : decode cX5_init 79 = .ok (.aload_n 0, 1) := by decide +kernel
theorem dX5_init_80 : decode cX5_init 80 = .ok (.iconst 4, 1) := by decide +kernel
theorem dX5_init_81 : decode cX5_init 81 = .ok (.newarray .int, 2) := by decide +kernel
theorem dX5_init_83 : decode cX5_init 83 = .ok (.putfield 38, 3) := by decide +kernel
theorem dX5_init_86 : decode cX5_init 86 = .ok (.aload_n 0, 1) := by decide +kernel
theorem dX5_init_87 : decode cX5_init 87 = .ok (.sipush 160, 3) := by decide +kernel
theorem dX5_init_90 : decode cX5_init 90 = .ok (.newarray .long, 2) := by decide +kernel
theorem dX5_init_92 : decode cX5_init 92 = .ok (.putfield 41, 3) := by decide +kernel
theorem dX5_init_95 : decode cX5_init 95 = .ok (.aload_n 0, 1) := by decide +kernel
theorem dX5_init_96 : decode cX5_init 96 = .ok (.bipush 40, 2) := by decide +kernel
theorem dX5_init_98 : decode cX5_init 98 = .ok (.newarray .long, 2) := by decide +kernel
theorem dX5_init_100 : decode cX5_init 100 = .ok (.putfield 45, 3) := by decide +kernel
theorem dX5_init_103 : decode cX5_init 103 = .ok (.return_, 1) := by decide +kernel
theorem dX5_in_0 : decode cX5_in 0 = .ok (.lload_n 0, 1) := by decide +kernel
theorem dX5_in_1 : decode cX5_in 1 = .ok (.lload_n 2, 1) := by decide +kernel
theorem dX5_in_2 : decode cX5_in 2 = .ok (.lcmp, 1) := by decide +kernel
theorem dX5_in_3 : decode cX5_in 3 = .ok (.ifCond .lt 14, 3) := by decide +kernel
theorem dX5_in_6 : decode cX5_in 6 = .ok (.lload_n 0, 1) := by decide +kernel
theorem dX5_in_7 : decode cX5_in 7 = .ok (.lload 4, 2) := by decide +kernel
theorem dX5_in_9 : decode cX5_in 9 = .ok (.lcmp, 1) := by decide +kernel
theorem dX5_in_10 : decode cX5_in 10 = .ok (.ifCond .gt 7, 3) := by decide +kernel
theorem dX5_in_13 : decode cX5_in 13 = .ok (.iconst 1, 1) := by decide +kernel
theorem dX5_in_14 : decode cX5_in 14 = .ok (.goto 4, 3) := by decide +kernel
theorem dX5_in_17 : decode cX5_in 17 = .ok (.iconst 0, 1) := by decide +kernel
theorem dX5_in_18 : decode cX5_in 18 = .ok (.ireturn, 1) := by decide +kernel
theorem dX5_finds_0 : decode cX5_finds 0 = .ok (.aload_n 0, 1) := by decide +kernel
theorem dX5_finds_1 : decode cX5_finds 1 = .ok (.getfield 16, 3) := by decide +kernel
theorem dX5_finds_4 : decode cX5_finds 4 = .ok (.ldc 48, 2) := by decide +kernel
theorem dX5_finds_6 : decode cX5_finds 6 = .ok (.iload_n 1, 1) := by decide +kernel
theorem dX5_finds_7 : decode cX5_finds 7 = .ok (.isub, 1) := by decide +kernel
theorem dX5_finds_8 : decode cX5_finds 8 = .ok (.dup2, 1) := by decide +kernel
theorem dX5_finds_9 : decode cX5_finds 9 = .ok (.iaload, 1) := by decide +kernel
theorem dX5_finds_10 : decode cX5_finds 10 = .ok (.iconst 1, 1) := by decide +kernel
theorem dX5_finds_11 : decode cX5_finds 11 = .ok (.iadd, 1) := by decide +kernel
theorem dX5_finds_12 : decode cX5_finds 12 = .ok (.iastore, 1) := by decide +kernel
theorem dX5_finds_13 : decode cX5_finds 13 = .ok (.iload_n 1, 1) := by decide +kernel
theorem dX5_finds_14 : decode cX5_finds 14 = .ok (.ireturn, 1) := by decide +kernel
theorem dX5_orNone_0 : decode cX5_orNone 0 = .ok (.iload_n 1, 1) := by decide +kernel
theorem dX5_orNone_1 : decode cX5_orNone 1 = .ok (.ifCond .ge 12, 3) := by decide +kernel
theorem dX5_orNone_4 : decode cX5_orNone 4 = .ok (.aload_n 0, 1) := by decide +kernel
theorem dX5_orNone_5 : decode cX5_orNone 5 = .ok (.ldc 49, 2) := by decide +kernel
theorem dX5_orNone_7 : decode cX5_orNone 7 = .ok (.invokevirtual 50, 3) := by decide +kernel
theorem dX5_orNone_10 : decode cX5_orNone 10 = .ok (.goto 4, 3) := by decide +kernel
theorem dX5_orNone_13 : decode cX5_orNone 13 = .ok (.iload_n 1, 1) := by decide +kernel
theorem dX5_orNone_14 : decode cX5_orNone 14 = .ok (.ireturn, 1) := by decide +kernel
theorem dX5_has_0 : decode cX5_has 0 = .ok (.iload_n 0, 1) := by decide +kernel
theorem dX5_has_1 : decode cX5_has 1 = .ok (.iload_n 1, 1) := by decide +kernel
theorem dX5_has_2 : decode cX5_has 2 = .ok (.ishr, 1) := by decide +kernel
theorem dX5_has_3 : decode cX5_has 3 = .ok (.iconst 1, 1) := by decide +kernel
theorem dX5_has_4 : decode cX5_has 4 = .ok (.iand, 1) := by decide +kernel
theorem dX5_has_5 : decode cX5_has 5 = .ok (.iconst 1, 1) := by decide +kernel
theorem dX5_has_6 : decode cX5_has 6 = .ok (.if_icmp .ne 7, 3) := by decide +kernel
theorem dX5_has_9 : decode cX5_has 9 = .ok (.iconst 1, 1) := by decide +kernel
theorem dX5_has_10 : decode cX5_has 10 = .ok (.goto 4, 3) := by decide +kernel
theorem dX5_has_13 : decode cX5_has 13 = .ok (.iconst 0, 1) := by decide +kernel
theorem dX5_has_14 : decode cX5_has 14 = .ok (.ireturn, 1) := by decide +kernel
theorem dX5_ones_0 : decode cX5_ones 0 = .ok (.iconst 0, 1) := by decide +kernel
theorem dX5_ones_1 : decode cX5_ones 1 = .ok (.istore_n 1, 1) := by decide +kernel
theorem dX5_ones_2 : decode cX5_ones 2 = .ok (.iload_n 0, 1) := by decide +kernel
theorem dX5_ones_3 : decode cX5_ones 3 = .ok (.istore_n 2, 1) := by decide +kernel
theorem dX5_ones_4 : decode cX5_ones 4 = .ok (.iload_n 2, 1) := by decide +kernel
theorem dX5_ones_5 : decode cX5_ones 5 = .ok (.ifCond .eq 15, 3) := by decide +kernel
theorem dX5_ones_8 : decode cX5_ones 8 = .ok (.iinc 1 1, 3) := by decide +kernel
theorem dX5_ones_11 : decode cX5_ones 11 = .ok (.iload_n 2, 1) := by decide +kernel
theorem dX5_ones_12 : decode cX5_ones 12 = .ok (.iload_n 2, 1) := by decide +kernel
theorem dX5_ones_13 : decode cX5_ones 13 = .ok (.iconst 1, 1) := by decide +kernel
theorem dX5_ones_14 : decode cX5_ones 14 = .ok (.isub, 1) := by decide +kernel
theorem dX5_ones_15 : decode cX5_ones 15 = .ok (.iand, 1) := by decide +kernel
theorem dX5_ones_16 : decode cX5_ones 16 = .ok (.istore_n 2, 1) := by decide +kernel
theorem dX5_ones_17 : decode cX5_ones 17 = .ok (.goto (-13), 3) := by decide +kernel
theorem dX5_ones_20 : decode cX5_ones 20 = .ok (.iload_n 1, 1) := by decide +kernel
theorem dX5_ones_21 : decode cX5_ones 21 = .ok (.ireturn, 1) := by decide +kernel
theorem dX5_isGuest_0 : decode cX5_isGuest 0 = .ok (.iload_n 1, 1) := by decide +kernel
theorem dX5_isGuest_1 : decode cX5_isGuest 1 = .ok (.i2l, 1) := by decide +kernel
theorem dX5_isGuest_2 : decode cX5_isGuest 2 = .ok (.lconst 0, 1) := by decide +kernel
theorem dX5_isGuest_3 : decode cX5_isGuest 3 = .ok (.aload_n 0, 1) := by decide +kernel
theorem dX5_isGuest_4 : decode cX5_isGuest 4 = .ok (.getfield 7, 3) := by decide +kernel
theorem dX5_isGuest_7 : decode cX5_isGuest 7 = .ok (.iconst 0, 1) := by decide +kernel
theorem dX5_isGuest_8 : decode cX5_isGuest 8 = .ok (.iaload, 1) := by decide +kernel
theorem dX5_isGuest_9 : decode cX5_isGuest 9 = .ok (.iconst 1, 1) := by decide +kernel
theorem dX5_isGuest_10 : decode cX5_isGuest 10 = .ok (.isub, 1) := by decide +kernel
theorem dX5_isGuest_11 : decode cX5_isGuest 11 = .ok (.i2l, 1) := by decide +kernel
theorem dX5_isGuest_12 : decode cX5_isGuest 12 = .ok (.invokestatic 54, 3) := by decide +kernel
theorem dX5_isGuest_15 : decode cX5_isGuest 15 = .ok (.ireturn, 1) := by decide +kernel
theorem dX5_its_0 : decode cX5_its 0 = .ok (.aload_n 0, 1) := by decide +kernel
theorem dX5_its_1 : decode cX5_its 1 = .ok (.getfield 7, 3) := by decide +kernel
theorem dX5_its_4 : decode cX5_its 4 = .ok (.iconst 2, 1) := by decide +kernel
theorem dX5_its_5 : decode cX5_its 5 = .ok (.iconst 3, 1) := by decide +kernel
theorem dX5_its_6 : decode cX5_its 6 = .ok (.iload_n 1, 1) := by decide +kernel
theorem dX5_its_7 : decode cX5_its 7 = .ok (.imul, 1) := by decide +kernel
theorem dX5_its_8 : decode cX5_its 8 = .ok (.iadd, 1) := by decide +kernel
theorem dX5_its_9 : decode cX5_its 9 = .ok (.iload_n 2, 1) := by decide +kernel
theorem dX5_its_10 : decode cX5_its 10 = .ok (.iadd, 1) := by decide +kernel
theorem dX5_its_11 : decode cX5_its 11 = .ok (.iaload, 1) := by decide +kernel
theorem dX5_its_12 : decode cX5_its 12 = .ok (.ireturn, 1) := by decide +kernel
theorem dX5_lists_0 : decode cX5_lists 0 = .ok (.iconst 1, 1) := by decide +kernel
theorem dX5_lists_1 : decode cX5_lists 1 = .ok (.aload_n 0, 1) := by decide +kernel
theorem dX5_lists_2 : decode cX5_lists 2 = .ok (.getfield 7, 3) := by decide +kernel
theorem dX5_lists_5 : decode cX5_lists 5 = .ok (.iconst 0, 1) := by decide +kernel
theorem dX5_lists_6 : decode cX5_lists 6 = .ok (.iaload, 1) := by decide +kernel
theorem dX5_lists_7 : decode cX5_lists 7 = .ok (.ishl, 1) := by decide +kernel
theorem dX5_lists_8 : decode cX5_lists 8 = .ok (.ireturn, 1) := by decide +kernel
theorem dX5_isList_0 : decode cX5_isList 0 = .ok (.lload_n 1, 1) := by decide +kernel
theorem dX5_isList_1 : decode cX5_isList 1 = .ok (.lconst 0, 1) := by decide +kernel
theorem dX5_isList_2 : decode cX5_isList 2 = .ok (.aload_n 0, 1) := by decide +kernel
theorem dX5_isList_3 : decode cX5_isList 3 = .ok (.invokevirtual 58, 3) := by decide +kernel
theorem dX5_isList_6 : decode cX5_isList 6 = .ok (.iconst 1, 1) := by decide +kernel
theorem dX5_isList_7 : decode cX5_isList 7 = .ok (.isub, 1) := by decide +kernel
theorem dX5_isList_8 : decode cX5_isList 8 = .ok (.i2l, 1) := by decide +kernel
theorem dX5_isList_9 : decode cX5_isList 9 = .ok (.invokestatic 54, 3) := by decide +kernel
theorem dX5_isList_12 : decode cX5_isList 12 = .ok (.ireturn, 1) := by decide +kernel
theorem dX5_guest_0 : decode cX5_guest 0 = .ok (.iload_n 1, 1) := by decide +kernel
theorem dX5_guest_1 : decode cX5_guest 1 = .ok (.i2l, 1) := by decide +kernel
theorem dX5_guest_2 : decode cX5_guest 2 = .ok (.lconst 0, 1) := by decide +kernel
theorem dX5_guest_3 : decode cX5_guest 3 = .ok (.ldc2_w 62, 3) := by decide +kernel
theorem dX5_guest_6 : decode cX5_guest 6 = .ok (.invokestatic 54, 3) := by decide +kernel
theorem dX5_guest_9 : decode cX5_guest 9 = .ok (.ifCond .eq 15, 3) := by decide +kernel
theorem dX5_guest_12 : decode cX5_guest 12 = .ok (.iload_n 2, 1) := by decide +kernel
theorem dX5_guest_13 : decode cX5_guest 13 = .ok (.i2l, 1) := by decide +kernel
theorem dX5_guest_14 : decode cX5_guest 14 = .ok (.lconst 0, 1) := by decide +kernel
theorem dX5_guest_15 : decode cX5_guest 15 = .ok (.ldc2_w 64, 3) := by decide +kernel
theorem dX5_guest_18 : decode cX5_guest 18 = .ok (.invokestatic 54, 3) := by decide +kernel
theorem dX5_guest_21 : decode cX5_guest 21 = .ok (.ifCond .ne 10, 3) := by decide +kernel
theorem dX5_guest_24 : decode cX5_guest 24 = .ok (.aload_n 0, 1) := by decide +kernel
theorem dX5_guest_25 : decode cX5_guest 25 = .ok (.ldc 48, 2) := by decide +kernel
theorem dX5_guest_27 : decode cX5_guest 27 = .ok (.invokevirtual 50, 3) := by decide +kernel
theorem dX5_guest_30 : decode cX5_guest 30 = .ok (.ireturn, 1) := by decide +kernel
theorem dX5_guest_31 : decode cX5_guest 31 = .ok (.aload_n 0, 1) := by decide +kernel
theorem dX5_guest_32 : decode cX5_guest 32 = .ok (.getfield 7, 3) := by decide +kernel
theorem dX5_guest_35 : decode cX5_guest 35 = .ok (.iconst 0, 1) := by decide +kernel
theorem dX5_guest_36 : decode cX5_guest 36 = .ok (.iaload, 1) := by decide +kernel
theorem dX5_guest_37 : decode cX5_guest 37 = .ok (.bipush 8, 2) := by decide +kernel
theorem dX5_guest_39 : decode cX5_guest 39 = .ok (.if_icmp .ne 10, 3) := by decide +kernel
theorem dX5_guest_42 : decode cX5_guest 42 = .ok (.aload_n 0, 1) := by decide +kernel
theorem dX5_guest_43 : decode cX5_guest 43 = .ok (.ldc 66, 2) := by decide +kernel
theorem dX5_guest_45 : decode cX5_guest 45 = .ok (.invokevirtual 50, 3) := by decide +kernel
theorem dX5_guest_48 : decode cX5_guest 48 = .ok (.ireturn, 1) := by decide +kernel
theorem dX5_guest_49 : decode cX5_guest 49 = .ok (.iconst 2, 1) := by decide +kernel
theorem dX5_guest_50 : decode cX5_guest 50 = .ok (.iconst 3, 1) := by decide +kernel
theorem dX5_guest_51 : decode cX5_guest 51 = .ok (.aload_n 0, 1) := by decide +kernel
theorem dX5_guest_52 : decode cX5_guest 52 = .ok (.getfield 7, 3) := by decide +kernel
theorem dX5_guest_55 : decode cX5_guest 55 = .ok (.iconst 0, 1) := by decide +kernel
theorem dX5_guest_56 : decode cX5_guest 56 = .ok (.iaload, 1) := by decide +kernel
theorem dX5_guest_57 : decode cX5_guest 57 = .ok (.imul, 1) := by decide +kernel
theorem dX5_guest_58 : decode cX5_guest 58 = .ok (.iadd, 1) := by decide +kernel
theorem dX5_guest_59 : decode cX5_guest 59 = .ok (.istore_n 3, 1) := by decide +kernel
theorem dX5_guest_60 : decode cX5_guest 60 = .ok (.aload_n 0, 1) := by decide +kernel
theorem dX5_guest_61 : decode cX5_guest 61 = .ok (.getfield 7, 3) := by decide +kernel
theorem dX5_guest_64 : decode cX5_guest 64 = .ok (.iload_n 3, 1) := by decide +kernel
theorem dX5_guest_65 : decode cX5_guest 65 = .ok (.iload_n 1, 1) := by decide +kernel
theorem dX5_guest_66 : decode cX5_guest 66 = .ok (.iastore, 1) := by decide +kernel
theorem dX5_guest_67 : decode cX5_guest 67 = .ok (.aload_n 0, 1) := by decide +kernel
theorem dX5_guest_68 : decode cX5_guest 68 = .ok (.getfield 7, 3) := by decide +kernel
theorem dX5_guest_71 : decode cX5_guest 71 = .ok (.iload_n 3, 1) := by decide +kernel
theorem dX5_guest_72 : decode cX5_guest 72 = .ok (.iconst 1, 1) := by decide +kernel
theorem dX5_guest_73 : decode cX5_guest 73 = .ok (.iadd, 1) := by decide +kernel
theorem dX5_guest_74 : decode cX5_guest 74 = .ok (.iload_n 2, 1) := by decide +kernel
theorem dX5_guest_75 : decode cX5_guest 75 = .ok (.iastore, 1) := by decide +kernel
theorem dX5_guest_76 : decode cX5_guest 76 = .ok (.aload_n 0, 1) := by decide +kernel
theorem dX5_guest_77 : decode cX5_guest 77 = .ok (.getfield 7, 3) := by decide +kernel
theorem dX5_guest_80 : decode cX5_guest 80 = .ok (.iload_n 3, 1) := by decide +kernel
theorem dX5_guest_81 : decode cX5_guest 81 = .ok (.iconst 2, 1) := by decide +kernel
theorem dX5_guest_82 : decode cX5_guest 82 = .ok (.iadd, 1) := by decide +kernel
theorem dX5_guest_83 : decode cX5_guest 83 = .ok (.iconst 0, 1) := by decide +kernel
theorem dX5_guest_84 : decode cX5_guest 84 = .ok (.iastore, 1) := by decide +kernel
theorem dX5_guest_85 : decode cX5_guest 85 = .ok (.aload_n 0, 1) := by decide +kernel
theorem dX5_guest_86 : decode cX5_guest 86 = .ok (.getfield 7, 3) := by decide +kernel
theorem dX5_guest_89 : decode cX5_guest 89 = .ok (.iconst 0, 1) := by decide +kernel
theorem dX5_guest_90 : decode cX5_guest 90 = .ok (.dup2, 1) := by decide +kernel
theorem dX5_guest_91 : decode cX5_guest 91 = .ok (.iaload, 1) := by decide +kernel
theorem dX5_guest_92 : decode cX5_guest 92 = .ok (.iconst 1, 1) := by decide +kernel
theorem dX5_guest_93 : decode cX5_guest 93 = .ok (.iadd, 1) := by decide +kernel
theorem dX5_guest_94 : decode cX5_guest 94 = .ok (.iastore, 1) := by decide +kernel
theorem dX5_guest_95 : decode cX5_guest 95 = .ok (.aload_n 0, 1) := by decide +kernel
theorem dX5_guest_96 : decode cX5_guest 96 = .ok (.getfield 7, 3) := by decide +kernel
theorem dX5_guest_99 : decode cX5_guest 99 = .ok (.iconst 0, 1) := by decide +kernel
theorem dX5_guest_100 : decode cX5_guest 100 = .ok (.iaload, 1) := by decide +kernel
theorem dX5_guest_101 : decode cX5_guest 101 = .ok (.iconst 1, 1) := by decide +kernel
theorem dX5_guest_102 : decode cX5_guest 102 = .ok (.isub, 1) := by decide +kernel
theorem dX5_guest_103 : decode cX5_guest 103 = .ok (.ireturn, 1) := by decide +kernel
theorem dX5_others_0 : decode cX5_others 0 = .ok (.iload_n 1, 1) := by decide +kernel
theorem dX5_others_1 : decode cX5_others 1 = .ok (.iconst 1, 1) := by decide +kernel
theorem dX5_others_2 : decode cX5_others 2 = .ok (.iload_n 0, 1) := by decide +kernel
theorem dX5_others_3 : decode cX5_others 3 = .ok (.ishl, 1) := by decide +kernel
theorem dX5_others_4 : decode cX5_others 4 = .ok (.iconst (-1), 1) := by decide +kernel
theorem dX5_others_5 : decode cX5_others 5 = .ok (.ixor, 1) := by decide +kernel
theorem dX5_others_6 : decode cX5_others 6 = .ok (.iand, 1) := by decide +kernel
theorem dX5_others_7 : decode cX5_others 7 = .ok (.invokestatic 67, 3) := by decide +kernel
theorem dX5_others_10 : decode cX5_others 10 = .ok (.ireturn, 1) := by decide +kernel
theorem dX5_holds_0 : decode cX5_holds 0 = .ok (.aload_n 0, 1) := by decide +kernel
theorem dX5_holds_1 : decode cX5_holds 1 = .ok (.iload_n 1, 1) := by decide +kernel
theorem dX5_holds_2 : decode cX5_holds 2 = .ok (.iconst 2, 1) := by decide +kernel
theorem dX5_holds_3 : decode cX5_holds 3 = .ok (.invokevirtual 70, 3) := by decide +kernel
theorem dX5_holds_6 : decode cX5_holds 6 = .ok (.istore_n 3, 1) := by decide +kernel
theorem dX5_holds_7 : decode cX5_holds 7 = .ok (.iconst 0, 1) := by decide +kernel
theorem dX5_holds_8 : decode cX5_holds 8 = .ok (.istore 4, 2) := by decide +kernel
theorem dX5_holds_10 : decode cX5_holds 10 = .ok (.iconst 0, 1) := by decide +kernel
theorem dX5_holds_11 : decode cX5_holds 11 = .ok (.istore 5, 2) := by decide +kernel
theorem dX5_holds_13 : decode cX5_holds 13 = .ok (.iload 5, 2) := by decide +kernel
theorem dX5_holds_15 : decode cX5_holds 15 = .ok (.iload_n 3, 1) := by decide +kernel
theorem dX5_holds_16 : decode cX5_holds 16 = .ok (.if_icmp .ge 284, 3) := by decide +kernel
theorem dX5_holds_19 : decode cX5_holds 19 = .ok (.aload_n 0, 1) := by decide +kernel
theorem dX5_holds_20 : decode cX5_holds 20 = .ok (.getfield 7, 3) := by decide +kernel
theorem dX5_holds_23 : decode cX5_holds 23 = .ok (.bipush 26, 2) := by decide +kernel
theorem dX5_holds_25 : decode cX5_holds 25 = .ok (.bipush 64, 2) := by decide +kernel
theorem dX5_holds_27 : decode cX5_holds 27 = .ok (.iload_n 1, 1) := by decide +kernel
theorem dX5_holds_28 : decode cX5_holds 28 = .ok (.imul, 1) := by decide +kernel
theorem dX5_holds_29 : decode cX5_holds 29 = .ok (.iadd, 1) := by decide +kernel
theorem dX5_holds_30 : decode cX5_holds 30 = .ok (.iload 5, 2) := by decide +kernel
theorem dX5_holds_32 : decode cX5_holds 32 = .ok (.iadd, 1) := by decide +kernel
theorem dX5_holds_33 : decode cX5_holds 33 = .ok (.iaload, 1) := by decide +kernel
theorem dX5_holds_34 : decode cX5_holds 34 = .ok (.istore 6, 2) := by decide +kernel
theorem dX5_holds_36 : decode cX5_holds 36 = .ok (.iload 6, 2) := by decide +kernel
theorem dX5_holds_38 : decode cX5_holds 38 = .ok (.bipush 8, 2) := by decide +kernel
theorem dX5_holds_40 : decode cX5_holds 40 = .ok (.if_icmp .ge 22, 3) := by decide +kernel
theorem dX5_holds_43 : decode cX5_holds 43 = .ok (.aload_n 0, 1) := by decide +kernel
theorem dX5_holds_44 : decode cX5_holds 44 = .ok (.getfield 19, 3) := by decide +kernel
theorem dX5_holds_47 : decode cX5_holds 47 = .ok (.iload 4, 2) := by decide +kernel
theorem dX5_holds_49 : decode cX5_holds 49 = .ok (.iload_n 2, 1) := by decide +kernel
theorem dX5_holds_50 : decode cX5_holds 50 = .ok (.iload 6, 2) := by decide +kernel
theorem dX5_holds_52 : decode cX5_holds 52 = .ok (.invokestatic 74, 3) := by decide +kernel
theorem dX5_holds_55 : decode cX5_holds 55 = .ok (.bastore, 1) := by decide +kernel
theorem dX5_holds_56 : decode cX5_holds 56 = .ok (.iinc 4 1, 3) := by decide +kernel
theorem dX5_holds_59 : decode cX5_holds 59 = .ok (.goto 235, 3) := by decide +kernel
theorem dX5_holds_62 : decode cX5_holds 62 = .ok (.iload 6, 2) := by decide +kernel
theorem dX5_holds_64 : decode cX5_holds 64 = .ok (.sipush 130, 3) := by decide +kernel
theorem dX5_holds_67 : decode cX5_holds 67 = .ok (.if_icmp .ge 79, 3) := by decide +kernel
theorem dX5_holds_70 : decode cX5_holds 70 = .ok (.iload_n 1, 1) := by decide +kernel
theorem dX5_holds_71 : decode cX5_holds 71 = .ok (.iload_n 2, 1) := by decide +kernel
theorem dX5_holds_72 : decode cX5_holds 72 = .ok (.invokestatic 78, 3) := by decide +kernel
theorem dX5_holds_75 : decode cX5_holds 75 = .ok (.iload 6, 2) := by decide +kernel
theorem dX5_holds_77 : decode cX5_holds 77 = .ok (.bipush 10, 2) := by decide +kernel
theorem dX5_holds_79 : decode cX5_holds 79 = .ok (.irem, 1) := by decide +kernel
theorem dX5_holds_80 : decode cX5_holds 80 = .ok (.isub, 1) := by decide +kernel
theorem dX5_holds_81 : decode cX5_holds 81 = .ok (.istore 7, 2) := by decide +kernel
theorem dX5_holds_83 : decode cX5_holds 83 = .ok (.aload_n 0, 1) := by decide +kernel
theorem dX5_holds_84 : decode cX5_holds 84 = .ok (.getfield 19, 3) := by decide +kernel
theorem dX5_holds_87 : decode cX5_holds 87 = .ok (.iload 4, 2) := by decide +kernel
theorem dX5_holds_89 : decode cX5_holds 89 = .ok (.iload 6, 2) := by decide +kernel
theorem dX5_holds_91 : decode cX5_holds 91 = .ok (.bipush 110, 2) := by decide +kernel
theorem dX5_holds_93 : decode cX5_holds 93 = .ok (.if_icmp .ge 16, 3) := by decide +kernel
theorem dX5_holds_96 : decode cX5_holds 96 = .ok (.iload 7, 2) := by decide +kernel
theorem dX5_holds_98 : decode cX5_holds 98 = .ok (.ifCond .ge 7, 3) := by decide +kernel
theorem dX5_holds_101 : decode cX5_holds 101 = .ok (.iconst 1, 1) := by decide +kernel
theorem dX5_holds_102 : decode cX5_holds 102 = .ok (.goto 37, 3) := by decide +kernel
theorem dX5_holds_105 : decode cX5_holds 105 = .ok (.iconst 0, 1) := by decide +kernel
theorem dX5_holds_106 : decode cX5_holds 106 = .ok (.goto 33, 3) := by decide +kernel
theorem dX5_holds_109 : decode cX5_holds 109 = .ok (.iload 6, 2) := by decide +kernel
theorem dX5_holds_111 : decode cX5_holds 111 = .ok (.bipush 120, 2) := by decide +kernel
theorem dX5_holds_113 : decode cX5_holds 113 = .ok (.if_icmp .ge 16, 3) := by decide +kernel
theorem dX5_holds_116 : decode cX5_holds 116 = .ok (.iload 7, 2) := by decide +kernel
theorem dX5_holds_118 : decode cX5_holds 118 = .ok (.ifCond .ne 7, 3) := by decide +kernel
theorem dX5_holds_121 : decode cX5_holds 121 = .ok (.iconst 1, 1) := by decide +kernel
theorem dX5_holds_122 : decode cX5_holds 122 = .ok (.goto 17, 3) := by decide +kernel
theorem dX5_holds_125 : decode cX5_holds 125 = .ok (.iconst 0, 1) := by decide +kernel
theorem dX5_holds_126 : decode cX5_holds 126 = .ok (.goto 13, 3) := by decide +kernel
theorem dX5_holds_129 : decode cX5_holds 129 = .ok (.iload 7, 2) := by decide +kernel
theorem dX5_holds_131 : decode cX5_holds 131 = .ok (.ifCond .le 7, 3) := by decide +kernel
theorem dX5_holds_134 : decode cX5_holds 134 = .ok (.iconst 1, 1) := by decide +kernel
theorem dX5_holds_135 : decode cX5_holds 135 = .ok (.goto 4, 3) := by decide +kernel
theorem dX5_holds_138 : decode cX5_holds 138 = .ok (.iconst 0, 1) := by decide +kernel
theorem dX5_holds_139 : decode cX5_holds 139 = .ok (.bastore, 1) := by decide +kernel
theorem dX5_holds_140 : decode cX5_holds 140 = .ok (.iinc 4 1, 3) := by decide +kernel
theorem dX5_holds_143 : decode cX5_holds 143 = .ok (.goto 151, 3) := by decide +kernel
theorem dX5_holds_146 : decode cX5_holds 146 = .ok (.iload 6, 2) := by decide +kernel
theorem dX5_holds_148 : decode cX5_holds 148 = .ok (.sipush 140, 3) := by decide +kernel
theorem dX5_holds_151 : decode cX5_holds 151 = .ok (.if_icmp .ge 29, 3) := by decide +kernel
theorem dX5_holds_154 : decode cX5_holds 154 = .ok (.aload_n 0, 1) := by decide +kernel
theorem dX5_holds_155 : decode cX5_holds 155 = .ok (.getfield 19, 3) := by decide +kernel
theorem dX5_holds_158 : decode cX5_holds 158 = .ok (.iload 4, 2) := by decide +kernel
theorem dX5_holds_160 : decode cX5_holds 160 = .ok (.iload 6, 2) := by decide +kernel
theorem dX5_holds_162 : decode cX5_holds 162 = .ok (.sipush 130, 3) := by decide +kernel
theorem dX5_holds_165 : decode cX5_holds 165 = .ok (.if_icmp .ne 7, 3) := by decide +kernel
theorem dX5_holds_168 : decode cX5_holds 168 = .ok (.iconst 1, 1) := by decide +kernel
theorem dX5_holds_169 : decode cX5_holds 169 = .ok (.goto 4, 3) := by decide +kernel
theorem dX5_holds_172 : decode cX5_holds 172 = .ok (.iconst 0, 1) := by decide +kernel
theorem dX5_holds_173 : decode cX5_holds 173 = .ok (.bastore, 1) := by decide +kernel
theorem dX5_holds_174 : decode cX5_holds 174 = .ok (.iinc 4 1, 3) := by decide +kernel
theorem dX5_holds_177 : decode cX5_holds 177 = .ok (.goto 117, 3) := by decide +kernel
theorem dX5_holds_180 : decode cX5_holds 180 = .ok (.iload 6, 2) := by decide +kernel
theorem dX5_holds_182 : decode cX5_holds 182 = .ok (.sipush 140, 3) := by decide +kernel
theorem dX5_holds_185 : decode cX5_holds 185 = .ok (.if_icmp .ne 32, 3) := by decide +kernel
theorem dX5_holds_188 : decode cX5_holds 188 = .ok (.aload_n 0, 1) := by decide +kernel
theorem dX5_holds_189 : decode cX5_holds 189 = .ok (.getfield 19, 3) := by decide +kernel
theorem dX5_holds_192 : decode cX5_holds 192 = .ok (.iload 4, 2) := by decide +kernel
theorem dX5_holds_194 : decode cX5_holds 194 = .ok (.iconst 1, 1) := by decide +kernel
theorem dX5_holds_195 : decode cX5_holds 195 = .ok (.isub, 1) := by decide +kernel
theorem dX5_holds_196 : decode cX5_holds 196 = .ok (.aload_n 0, 1) := by decide +kernel
theorem dX5_holds_197 : decode cX5_holds 197 = .ok (.getfield 19, 3) := by decide +kernel
theorem dX5_holds_200 : decode cX5_holds 200 = .ok (.iload 4, 2) := by decide +kernel
theorem dX5_holds_202 : decode cX5_holds 202 = .ok (.iconst 1, 1) := by decide +kernel
theorem dX5_holds_203 : decode cX5_holds 203 = .ok (.isub, 1) := by decide +kernel
theorem dX5_holds_204 : decode cX5_holds 204 = .ok (.baload, 1) := by decide +kernel
theorem dX5_holds_205 : decode cX5_holds 205 = .ok (.ifCond .ne 7, 3) := by decide +kernel
theorem dX5_holds_208 : decode cX5_holds 208 = .ok (.iconst 1, 1) := by decide +kernel
theorem dX5_holds_209 : decode cX5_holds 209 = .ok (.goto 4, 3) := by decide +kernel
theorem dX5_holds_212 : decode cX5_holds 212 = .ok (.iconst 0, 1) := by decide +kernel
theorem dX5_holds_213 : decode cX5_holds 213 = .ok (.bastore, 1) := by decide +kernel
theorem dX5_holds_214 : decode cX5_holds 214 = .ok (.goto 80, 3) := by decide +kernel
theorem dX5_holds_217 : decode cX5_holds 217 = .ok (.iinc 4 (-1), 3) := by decide +kernel
theorem dX5_holds_220 : decode cX5_holds 220 = .ok (.aload_n 0, 1) := by decide +kernel
theorem dX5_holds_221 : decode cX5_holds 221 = .ok (.getfield 19, 3) := by decide +kernel
theorem dX5_holds_224 : decode cX5_holds 224 = .ok (.iload 4, 2) := by decide +kernel
theorem dX5_holds_226 : decode cX5_holds 226 = .ok (.iconst 1, 1) := by decide +kernel
theorem dX5_holds_227 : decode cX5_holds 227 = .ok (.isub, 1) := by decide +kernel
theorem dX5_holds_228 : decode cX5_holds 228 = .ok (.iload 6, 2) := by decide +kernel
theorem dX5_holds_230 : decode cX5_holds 230 = .ok (.sipush 141, 3) := by decide +kernel
theorem dX5_holds_233 : decode cX5_holds 233 = .ok (.if_icmp .ne 33, 3) := by decide +kernel
theorem dX5_holds_236 : decode cX5_holds 236 = .ok (.aload_n 0, 1) := by decide +kernel
theorem dX5_holds_237 : decode cX5_holds 237 = .ok (.getfield 19, 3) := by decide +kernel
theorem dX5_holds_240 : decode cX5_holds 240 = .ok (.iload 4, 2) := by decide +kernel
theorem dX5_holds_242 : decode cX5_holds 242 = .ok (.iconst 1, 1) := by decide +kernel
theorem dX5_holds_243 : decode cX5_holds 243 = .ok (.isub, 1) := by decide +kernel
theorem dX5_holds_244 : decode cX5_holds 244 = .ok (.baload, 1) := by decide +kernel
theorem dX5_holds_245 : decode cX5_holds 245 = .ok (.ifCond .eq 17, 3) := by decide +kernel
theorem dX5_holds_248 : decode cX5_holds 248 = .ok (.aload_n 0, 1) := by decide +kernel
theorem dX5_holds_249 : decode cX5_holds 249 = .ok (.getfield 19, 3) := by decide +kernel
theorem dX5_holds_252 : decode cX5_holds 252 = .ok (.iload 4, 2) := by decide +kernel
theorem dX5_holds_254 : decode cX5_holds 254 = .ok (.baload, 1) := by decide +kernel
theorem dX5_holds_255 : decode cX5_holds 255 = .ok (.ifCond .eq 7, 3) := by decide +kernel
theorem dX5_holds_258 : decode cX5_holds 258 = .ok (.iconst 1, 1) := by decide +kernel
theorem dX5_holds_259 : decode cX5_holds 259 = .ok (.goto 34, 3) := by decide +kernel
theorem dX5_holds_262 : decode cX5_holds 262 = .ok (.iconst 0, 1) := by decide +kernel
theorem dX5_holds_263 : decode cX5_holds 263 = .ok (.goto 30, 3) := by decide +kernel
theorem dX5_holds_266 : decode cX5_holds 266 = .ok (.aload_n 0, 1) := by decide +kernel
theorem dX5_holds_267 : decode cX5_holds 267 = .ok (.getfield 19, 3) := by decide +kernel
theorem dX5_holds_270 : decode cX5_holds 270 = .ok (.iload 4, 2) := by decide +kernel
theorem dX5_holds_272 : decode cX5_holds 272 = .ok (.iconst 1, 1) := by decide +kernel
theorem dX5_holds_273 : decode cX5_holds 273 = .ok (.isub, 1) := by decide +kernel
theorem dX5_holds_274 : decode cX5_holds 274 = .ok (.baload, 1) := by decide +kernel
theorem dX5_holds_275 : decode cX5_holds 275 = .ok (.ifCond .ne 13, 3) := by decide +kernel
theorem dX5_holds_278 : decode cX5_holds 278 = .ok (.aload_n 0, 1) := by decide +kernel
theorem dX5_holds_279 : decode cX5_holds 279 = .ok (.getfield 19, 3) := by decide +kernel
theorem dX5_holds_282 : decode cX5_holds 282 = .ok (.iload 4, 2) := by decide +kernel
theorem dX5_holds_284 : decode cX5_holds 284 = .ok (.baload, 1) := by decide +kernel
theorem dX5_holds_285 : decode cX5_holds 285 = .ok (.ifCond .eq 7, 3) := by decide +kernel
theorem dX5_holds_288 : decode cX5_holds 288 = .ok (.iconst 1, 1) := by decide +kernel
theorem dX5_holds_289 : decode cX5_holds 289 = .ok (.goto 4, 3) := by decide +kernel
theorem dX5_holds_292 : decode cX5_holds 292 = .ok (.iconst 0, 1) := by decide +kernel
theorem dX5_holds_293 : decode cX5_holds 293 = .ok (.bastore, 1) := by decide +kernel
theorem dX5_holds_294 : decode cX5_holds 294 = .ok (.iinc 5 1, 3) := by decide +kernel
theorem dX5_holds_297 : decode cX5_holds 297 = .ok (.goto (-284), 3) := by decide +kernel
theorem dX5_holds_300 : decode cX5_holds 300 = .ok (.iload_n 3, 1) := by decide +kernel
theorem dX5_holds_301 : decode cX5_holds 301 = .ok (.ifCond .eq 12, 3) := by decide +kernel
theorem dX5_holds_304 : decode cX5_holds 304 = .ok (.aload_n 0, 1) := by decide +kernel
theorem dX5_holds_305 : decode cX5_holds 305 = .ok (.getfield 19, 3) := by decide +kernel
theorem dX5_holds_308 : decode cX5_holds 308 = .ok (.iconst 0, 1) := by decide +kernel
theorem dX5_holds_309 : decode cX5_holds 309 = .ok (.baload, 1) := by decide +kernel
theorem dX5_holds_310 : decode cX5_holds 310 = .ok (.ifCond .eq 7, 3) := by decide +kernel
theorem dX5_holds_313 : decode cX5_holds 313 = .ok (.iconst 1, 1) := by decide +kernel
theorem dX5_holds_314 : decode cX5_holds 314 = .ok (.goto 4, 3) := by decide +kernel
theorem dX5_holds_317 : decode cX5_holds 317 = .ok (.iconst 0, 1) := by decide +kernel
theorem dX5_holds_318 : decode cX5_holds 318 = .ok (.ireturn, 1) := by decide +kernel
theorem dX5_comesBy_0 : decode cX5_comesBy 0 = .ok (.iload_n 1, 1) := by decide +kernel
theorem dX5_comesBy_1 : decode cX5_comesBy 1 = .ok (.iload_n 2, 1) := by decide +kernel
theorem dX5_comesBy_2 : decode cX5_comesBy 2 = .ok (.invokestatic 78, 3) := by decide +kernel
theorem dX5_comesBy_5 : decode cX5_comesBy 5 = .ok (.istore_n 3, 1) := by decide +kernel
theorem dX5_comesBy_6 : decode cX5_comesBy 6 = .ok (.aload_n 0, 1) := by decide +kernel
theorem dX5_comesBy_7 : decode cX5_comesBy 7 = .ok (.iload_n 1, 1) := by decide +kernel
theorem dX5_comesBy_8 : decode cX5_comesBy 8 = .ok (.iconst 0, 1) := by decide +kernel
theorem dX5_comesBy_9 : decode cX5_comesBy 9 = .ok (.invokevirtual 70, 3) := by decide +kernel
theorem dX5_comesBy_12 : decode cX5_comesBy 12 = .ok (.tableswitch 122 1 5 #[36, 56, 76, 78, 102], 36) := by decide +kernel
theorem dX5_comesBy_48 : decode cX5_comesBy 48 = .ok (.iload_n 3, 1) := by decide +kernel
theorem dX5_comesBy_49 : decode cX5_comesBy 49 = .ok (.iconst 3, 1) := by decide +kernel
theorem dX5_comesBy_50 : decode cX5_comesBy 50 = .ok (.if_icmp .gt 12, 3) := by decide +kernel
theorem dX5_comesBy_53 : decode cX5_comesBy 53 = .ok (.aload_n 0, 1) := by decide +kernel
theorem dX5_comesBy_54 : decode cX5_comesBy 54 = .ok (.iload_n 1, 1) := by decide +kernel
theorem dX5_comesBy_55 : decode cX5_comesBy 55 = .ok (.iload_n 2, 1) := by decide +kernel
theorem dX5_comesBy_56 : decode cX5_comesBy 56 = .ok (.invokevirtual 81, 3) := by decide +kernel
theorem dX5_comesBy_59 : decode cX5_comesBy 59 = .ok (.ifCond .eq 7, 3) := by decide +kernel
theorem dX5_comesBy_62 : decode cX5_comesBy 62 = .ok (.iconst 1, 1) := by decide +kernel
theorem dX5_comesBy_63 : decode cX5_comesBy 63 = .ok (.goto 4, 3) := by decide +kernel
theorem dX5_comesBy_66 : decode cX5_comesBy 66 = .ok (.iconst 0, 1) := by decide +kernel
theorem dX5_comesBy_67 : decode cX5_comesBy 67 = .ok (.ireturn, 1) := by decide +kernel
theorem dX5_comesBy_68 : decode cX5_comesBy 68 = .ok (.iload_n 3, 1) := by decide +kernel
theorem dX5_comesBy_69 : decode cX5_comesBy 69 = .ok (.iconst 5, 1) := by decide +kernel
theorem dX5_comesBy_70 : decode cX5_comesBy 70 = .ok (.if_icmp .ge 16, 3) := by decide +kernel
theorem dX5_comesBy_73 : decode cX5_comesBy 73 = .ok (.aload_n 0, 1) := by decide +kernel
theorem dX5_comesBy_74 : decode cX5_comesBy 74 = .ok (.iload_n 1, 1) := by decide +kernel
theorem dX5_comesBy_75 : decode cX5_comesBy 75 = .ok (.iload_n 2, 1) := by decide +kernel
theorem dX5_comesBy_76 : decode cX5_comesBy 76 = .ok (.invokevirtual 81, 3) := by decide +kernel
theorem dX5_comesBy_79 : decode cX5_comesBy 79 = .ok (.ifCond .eq 7, 3) := by decide +kernel
theorem dX5_comesBy_82 : decode cX5_comesBy 82 = .ok (.iconst 1, 1) := by decide +kernel
theorem dX5_comesBy_83 : decode cX5_comesBy 83 = .ok (.goto 4, 3) := by decide +kernel
theorem dX5_comesBy_86 : decode cX5_comesBy 86 = .ok (.iconst 0, 1) := by decide +kernel
theorem dX5_comesBy_87 : decode cX5_comesBy 87 = .ok (.ireturn, 1) := by decide +kernel
theorem dX5_comesBy_88 : decode cX5_comesBy 88 = .ok (.iconst 0, 1) := by decide +kernel
theorem dX5_comesBy_89 : decode cX5_comesBy 89 = .ok (.ireturn, 1) := by decide +kernel
theorem dX5_comesBy_90 : decode cX5_comesBy 90 = .ok (.iload_n 3, 1) := by decide +kernel
theorem dX5_comesBy_91 : decode cX5_comesBy 91 = .ok (.iconst 3, 1) := by decide +kernel
theorem dX5_comesBy_92 : decode cX5_comesBy 92 = .ok (.if_icmp .gt 16, 3) := by decide +kernel
theorem dX5_comesBy_95 : decode cX5_comesBy 95 = .ok (.iload_n 3, 1) := by decide +kernel
theorem dX5_comesBy_96 : decode cX5_comesBy 96 = .ok (.ifCond .eq 12, 3) := by decide +kernel
theorem dX5_comesBy_99 : decode cX5_comesBy 99 = .ok (.aload_n 0, 1) := by decide +kernel
theorem dX5_comesBy_100 : decode cX5_comesBy 100 = .ok (.iload_n 1, 1) := by decide +kernel
theorem dX5_comesBy_101 : decode cX5_comesBy 101 = .ok (.iload_n 2, 1) := by decide +kernel
theorem dX5_comesBy_102 : decode cX5_comesBy 102 = .ok (.invokevirtual 81, 3) := by decide +kernel
theorem dX5_comesBy_105 : decode cX5_comesBy 105 = .ok (.ifCond .eq 7, 3) := by decide +kernel
theorem dX5_comesBy_108 : decode cX5_comesBy 108 = .ok (.iconst 1, 1) := by decide +kernel
theorem dX5_comesBy_109 : decode cX5_comesBy 109 = .ok (.goto 4, 3) := by decide +kernel
theorem dX5_comesBy_112 : decode cX5_comesBy 112 = .ok (.iconst 0, 1) := by decide +kernel
theorem dX5_comesBy_113 : decode cX5_comesBy 113 = .ok (.ireturn, 1) := by decide +kernel
theorem dX5_comesBy_114 : decode cX5_comesBy 114 = .ok (.iload_n 3, 1) := by decide +kernel
theorem dX5_comesBy_115 : decode cX5_comesBy 115 = .ok (.iconst 4, 1) := by decide +kernel
theorem dX5_comesBy_116 : decode cX5_comesBy 116 = .ok (.if_icmp .gt 12, 3) := by decide +kernel
theorem dX5_comesBy_119 : decode cX5_comesBy 119 = .ok (.aload_n 0, 1) := by decide +kernel
theorem dX5_comesBy_120 : decode cX5_comesBy 120 = .ok (.iload_n 1, 1) := by decide +kernel
theorem dX5_comesBy_121 : decode cX5_comesBy 121 = .ok (.iload_n 2, 1) := by decide +kernel
theorem dX5_comesBy_122 : decode cX5_comesBy 122 = .ok (.invokevirtual 81, 3) := by decide +kernel
theorem dX5_comesBy_125 : decode cX5_comesBy 125 = .ok (.ifCond .ne 7, 3) := by decide +kernel
theorem dX5_comesBy_128 : decode cX5_comesBy 128 = .ok (.iconst 1, 1) := by decide +kernel
theorem dX5_comesBy_129 : decode cX5_comesBy 129 = .ok (.goto 4, 3) := by decide +kernel
theorem dX5_comesBy_132 : decode cX5_comesBy 132 = .ok (.iconst 0, 1) := by decide +kernel
theorem dX5_comesBy_133 : decode cX5_comesBy 133 = .ok (.ireturn, 1) := by decide +kernel
theorem dX5_comesBy_134 : decode cX5_comesBy 134 = .ok (.aload_n 0, 1) := by decide +kernel
theorem dX5_comesBy_135 : decode cX5_comesBy 135 = .ok (.iload_n 1, 1) := by decide +kernel
theorem dX5_comesBy_136 : decode cX5_comesBy 136 = .ok (.iload_n 2, 1) := by decide +kernel
theorem dX5_comesBy_137 : decode cX5_comesBy 137 = .ok (.invokevirtual 81, 3) := by decide +kernel
theorem dX5_comesBy_140 : decode cX5_comesBy 140 = .ok (.ireturn, 1) := by decide +kernel
theorem dX5_would_0 : decode cX5_would 0 = .ok (.iconst 0, 1) := by decide +kernel
theorem dX5_would_1 : decode cX5_would 1 = .ok (.istore_n 2, 1) := by decide +kernel
theorem dX5_would_2 : decode cX5_would 2 = .ok (.iconst 0, 1) := by decide +kernel
theorem dX5_would_3 : decode cX5_would 3 = .ok (.istore_n 3, 1) := by decide +kernel
theorem dX5_would_4 : decode cX5_would 4 = .ok (.iload_n 3, 1) := by decide +kernel
theorem dX5_would_5 : decode cX5_would 5 = .ok (.aload_n 0, 1) := by decide +kernel
theorem dX5_would_6 : decode cX5_would 6 = .ok (.getfield 7, 3) := by decide +kernel
theorem dX5_would_9 : decode cX5_would 9 = .ok (.iconst 0, 1) := by decide +kernel
theorem dX5_would_10 : decode cX5_would 10 = .ok (.iaload, 1) := by decide +kernel
theorem dX5_would_11 : decode cX5_would 11 = .ok (.if_icmp .ge 28, 3) := by decide +kernel
theorem dX5_would_14 : decode cX5_would 14 = .ok (.iload_n 2, 1) := by decide +kernel
theorem dX5_would_15 : decode cX5_would 15 = .ok (.aload_n 0, 1) := by decide +kernel
theorem dX5_would_16 : decode cX5_would 16 = .ok (.iload_n 3, 1) := by decide +kernel
theorem dX5_would_17 : decode cX5_would 17 = .ok (.iload_n 1, 1) := by decide +kernel
theorem dX5_would_18 : decode cX5_would 18 = .ok (.invokevirtual 84, 3) := by decide +kernel
theorem dX5_would_21 : decode cX5_would 21 = .ok (.ifCond .eq 9, 3) := by decide +kernel
theorem dX5_would_24 : decode cX5_would 24 = .ok (.iconst 1, 1) := by decide +kernel
theorem dX5_would_25 : decode cX5_would 25 = .ok (.iload_n 3, 1) := by decide +kernel
theorem dX5_would_26 : decode cX5_would 26 = .ok (.ishl, 1) := by decide +kernel
theorem dX5_would_27 : decode cX5_would 27 = .ok (.goto 4, 3) := by decide +kernel
theorem dX5_would_30 : decode cX5_would 30 = .ok (.iconst 0, 1) := by decide +kernel
theorem dX5_would_31 : decode cX5_would 31 = .ok (.ior, 1) := by decide +kernel
theorem dX5_would_32 : decode cX5_would 32 = .ok (.istore_n 2, 1) := by decide +kernel
theorem dX5_would_33 : decode cX5_would 33 = .ok (.iinc 3 1, 3) := by decide +kernel
theorem dX5_would_36 : decode cX5_would 36 = .ok (.goto (-32), 3) := by decide +kernel
theorem dX5_would_39 : decode cX5_would 39 = .ok (.iload_n 2, 1) := by decide +kernel
theorem dX5_would_40 : decode cX5_would 40 = .ok (.ireturn, 1) := by decide +kernel
theorem dX5_of_0 : decode cX5_of 0 = .ok (.aload_n 0, 1) := by decide +kernel
theorem dX5_of_1 : decode cX5_of 1 = .ok (.iload_n 1, 1) := by decide +kernel
theorem dX5_of_2 : decode cX5_of 2 = .ok (.invokevirtual 87, 3) := by decide +kernel
theorem dX5_of_5 : decode cX5_of 5 = .ok (.ifCond .eq 15, 3) := by decide +kernel
theorem dX5_of_8 : decode cX5_of 8 = .ok (.iload_n 2, 1) := by decide +kernel
theorem dX5_of_9 : decode cX5_of 9 = .ok (.i2l, 1) := by decide +kernel
theorem dX5_of_10 : decode cX5_of 10 = .ok (.lconst 0, 1) := by decide +kernel
theorem dX5_of_11 : decode cX5_of 11 = .ok (.ldc2_w 62, 3) := by decide +kernel
theorem dX5_of_14 : decode cX5_of 14 = .ok (.invokestatic 54, 3) := by decide +kernel
theorem dX5_of_17 : decode cX5_of 17 = .ok (.ifCond .ne 10, 3) := by decide +kernel
theorem dX5_of_20 : decode cX5_of 20 = .ok (.aload_n 0, 1) := by decide +kernel
theorem dX5_of_21 : decode cX5_of 21 = .ok (.ldc 48, 2) := by decide +kernel
theorem dX5_of_23 : decode cX5_of 23 = .ok (.invokevirtual 50, 3) := by decide +kernel
theorem dX5_of_26 : decode cX5_of 26 = .ok (.ireturn, 1) := by decide +kernel
theorem dX5_of_27 : decode cX5_of 27 = .ok (.iload_n 2, 1) := by decide +kernel
theorem dX5_of_28 : decode cX5_of 28 = .ok (.tableswitch 94 2 5 #[32, 43, 63, 83], 32) := by decide +kernel
theorem dX5_of_60 : decode cX5_of 60 = .ok (.aload_n 0, 1) := by decide +kernel
theorem dX5_of_61 : decode cX5_of 61 = .ok (.getfield 7, 3) := by decide +kernel
theorem dX5_of_64 : decode cX5_of 64 = .ok (.iconst 1, 1) := by decide +kernel
theorem dX5_of_65 : decode cX5_of 65 = .ok (.iaload, 1) := by decide +kernel
theorem dX5_of_66 : decode cX5_of 66 = .ok (.iload_n 1, 1) := by decide +kernel
theorem dX5_of_67 : decode cX5_of 67 = .ok (.ishr, 1) := by decide +kernel
theorem dX5_of_68 : decode cX5_of 68 = .ok (.iconst 1, 1) := by decide +kernel
theorem dX5_of_69 : decode cX5_of 69 = .ok (.iand, 1) := by decide +kernel
theorem dX5_of_70 : decode cX5_of 70 = .ok (.ireturn, 1) := by decide +kernel
theorem dX5_of_71 : decode cX5_of 71 = .ok (.aload_n 0, 1) := by decide +kernel
theorem dX5_of_72 : decode cX5_of 72 = .ok (.iload_n 1, 1) := by decide +kernel
theorem dX5_of_73 : decode cX5_of 73 = .ok (.aload_n 0, 1) := by decide +kernel
theorem dX5_of_74 : decode cX5_of 74 = .ok (.getfield 7, 3) := by decide +kernel
theorem dX5_of_77 : decode cX5_of 77 = .ok (.iconst 1, 1) := by decide +kernel
theorem dX5_of_78 : decode cX5_of 78 = .ok (.iaload, 1) := by decide +kernel
theorem dX5_of_79 : decode cX5_of 79 = .ok (.invokevirtual 84, 3) := by decide +kernel
theorem dX5_of_82 : decode cX5_of 82 = .ok (.ifCond .eq 7, 3) := by decide +kernel
theorem dX5_of_85 : decode cX5_of 85 = .ok (.iconst 1, 1) := by decide +kernel
theorem dX5_of_86 : decode cX5_of 86 = .ok (.goto 4, 3) := by decide +kernel
theorem dX5_of_89 : decode cX5_of 89 = .ok (.iconst 0, 1) := by decide +kernel
theorem dX5_of_90 : decode cX5_of 90 = .ok (.ireturn, 1) := by decide +kernel
theorem dX5_of_91 : decode cX5_of 91 = .ok (.aload_n 0, 1) := by decide +kernel
theorem dX5_of_92 : decode cX5_of 92 = .ok (.iload_n 1, 1) := by decide +kernel
theorem dX5_of_93 : decode cX5_of 93 = .ok (.aload_n 0, 1) := by decide +kernel
theorem dX5_of_94 : decode cX5_of 94 = .ok (.getfield 7, 3) := by decide +kernel
theorem dX5_of_97 : decode cX5_of 97 = .ok (.iconst 1, 1) := by decide +kernel
theorem dX5_of_98 : decode cX5_of 98 = .ok (.iaload, 1) := by decide +kernel
theorem dX5_of_99 : decode cX5_of 99 = .ok (.invokevirtual 81, 3) := by decide +kernel
theorem dX5_of_102 : decode cX5_of 102 = .ok (.ifCond .eq 7, 3) := by decide +kernel
theorem dX5_of_105 : decode cX5_of 105 = .ok (.iconst 1, 1) := by decide +kernel
theorem dX5_of_106 : decode cX5_of 106 = .ok (.goto 4, 3) := by decide +kernel
theorem dX5_of_109 : decode cX5_of 109 = .ok (.iconst 0, 1) := by decide +kernel
theorem dX5_of_110 : decode cX5_of 110 = .ok (.ireturn, 1) := by decide +kernel
theorem dX5_of_111 : decode cX5_of 111 = .ok (.iload_n 1, 1) := by decide +kernel
theorem dX5_of_112 : decode cX5_of 112 = .ok (.aload_n 0, 1) := by decide +kernel
theorem dX5_of_113 : decode cX5_of 113 = .ok (.getfield 7, 3) := by decide +kernel
theorem dX5_of_116 : decode cX5_of 116 = .ok (.iconst 1, 1) := by decide +kernel
theorem dX5_of_117 : decode cX5_of 117 = .ok (.iaload, 1) := by decide +kernel
theorem dX5_of_118 : decode cX5_of 118 = .ok (.invokestatic 78, 3) := by decide +kernel
theorem dX5_of_121 : decode cX5_of 121 = .ok (.ireturn, 1) := by decide +kernel
theorem dX5_of_122 : decode cX5_of 122 = .ok (.aload_n 0, 1) := by decide +kernel
theorem dX5_of_123 : decode cX5_of 123 = .ok (.iload_n 1, 1) := by decide +kernel
theorem dX5_of_124 : decode cX5_of 124 = .ok (.iload_n 2, 1) := by decide +kernel
theorem dX5_of_125 : decode cX5_of 125 = .ok (.invokevirtual 70, 3) := by decide +kernel
theorem dX5_of_128 : decode cX5_of 128 = .ok (.ireturn, 1) := by decide +kernel
theorem dX5_becomes_0 : decode cX5_becomes 0 = .ok (.aload_n 0, 1) := by decide +kernel
theorem dX5_becomes_1 : decode cX5_becomes 1 = .ok (.getfield 7, 3) := by decide +kernel
theorem dX5_becomes_4 : decode cX5_becomes 4 = .ok (.iload_n 1, 1) := by decide +kernel
theorem dX5_becomes_5 : decode cX5_becomes 5 = .ok (.iaload, 1) := by decide +kernel
theorem dX5_becomes_6 : decode cX5_becomes 6 = .ok (.istore_n 3, 1) := by decide +kernel
theorem dX5_becomes_7 : decode cX5_becomes 7 = .ok (.aload_n 0, 1) := by decide +kernel
theorem dX5_becomes_8 : decode cX5_becomes 8 = .ok (.getfield 7, 3) := by decide +kernel
theorem dX5_becomes_11 : decode cX5_becomes 11 = .ok (.iload_n 1, 1) := by decide +kernel
theorem dX5_becomes_12 : decode cX5_becomes 12 = .ok (.iload_n 2, 1) := by decide +kernel
theorem dX5_becomes_13 : decode cX5_becomes 13 = .ok (.iastore, 1) := by decide +kernel
theorem dX5_becomes_14 : decode cX5_becomes 14 = .ok (.iload_n 3, 1) := by decide +kernel
theorem dX5_becomes_15 : decode cX5_becomes 15 = .ok (.ireturn, 1) := by decide +kernel
theorem dX5_cost_0 : decode cX5_cost 0 = .ok (.aload_n 0, 1) := by decide +kernel
theorem dX5_cost_1 : decode cX5_cost 1 = .ok (.iload_n 1, 1) := by decide +kernel
theorem dX5_cost_2 : decode cX5_cost 2 = .ok (.invokevirtual 87, 3) := by decide +kernel
theorem dX5_cost_5 : decode cX5_cost 5 = .ok (.ifCond .eq 30, 3) := by decide +kernel
theorem dX5_cost_8 : decode cX5_cost 8 = .ok (.iload_n 2, 1) := by decide +kernel
theorem dX5_cost_9 : decode cX5_cost 9 = .ok (.i2l, 1) := by decide +kernel
theorem dX5_cost_10 : decode cX5_cost 10 = .ok (.lconst 0, 1) := by decide +kernel
theorem dX5_cost_11 : decode cX5_cost 11 = .ok (.ldc2_w 64, 3) := by decide +kernel
theorem dX5_cost_14 : decode cX5_cost 14 = .ok (.invokestatic 54, 3) := by decide +kernel
theorem dX5_cost_17 : decode cX5_cost 17 = .ok (.ifCond .eq 18, 3) := by decide +kernel
theorem dX5_cost_20 : decode cX5_cost 20 = .ok (.aload_n 0, 1) := by decide +kernel
theorem dX5_cost_21 : decode cX5_cost 21 = .ok (.iconst 2, 1) := by decide +kernel
theorem dX5_cost_22 : decode cX5_cost 22 = .ok (.iconst 3, 1) := by decide +kernel
theorem dX5_cost_23 : decode cX5_cost 23 = .ok (.iload_n 1, 1) := by decide +kernel
theorem dX5_cost_24 : decode cX5_cost 24 = .ok (.imul, 1) := by decide +kernel
theorem dX5_cost_25 : decode cX5_cost 25 = .ok (.iadd, 1) := by decide +kernel
theorem dX5_cost_26 : decode cX5_cost 26 = .ok (.iconst 1, 1) := by decide +kernel
theorem dX5_cost_27 : decode cX5_cost 27 = .ok (.iadd, 1) := by decide +kernel
theorem dX5_cost_28 : decode cX5_cost 28 = .ok (.iload_n 2, 1) := by decide +kernel
theorem dX5_cost_29 : decode cX5_cost 29 = .ok (.invokevirtual 91, 3) := by decide +kernel
theorem dX5_cost_32 : decode cX5_cost 32 = .ok (.goto 9, 3) := by decide +kernel
theorem dX5_cost_35 : decode cX5_cost 35 = .ok (.aload_n 0, 1) := by decide +kernel
theorem dX5_cost_36 : decode cX5_cost 36 = .ok (.ldc 48, 2) := by decide +kernel
theorem dX5_cost_38 : decode cX5_cost 38 = .ok (.invokevirtual 50, 3) := by decide +kernel
theorem dX5_cost_41 : decode cX5_cost 41 = .ok (.ireturn, 1) := by decide +kernel
theorem dX5_turn_0 : decode cX5_turn 0 = .ok (.aload_n 0, 1) := by decide +kernel
theorem dX5_turn_1 : decode cX5_turn 1 = .ok (.iload_n 1, 1) := by decide +kernel
theorem dX5_turn_2 : decode cX5_turn 2 = .ok (.invokevirtual 87, 3) := by decide +kernel
theorem dX5_turn_5 : decode cX5_turn 5 = .ok (.ifCond .eq 28, 3) := by decide +kernel
theorem dX5_turn_8 : decode cX5_turn 8 = .ok (.iload_n 2, 1) := by decide +kernel
theorem dX5_turn_9 : decode cX5_turn 9 = .ok (.i2l, 1) := by decide +kernel
theorem dX5_turn_10 : decode cX5_turn 10 = .ok (.lconst 0, 1) := by decide +kernel
theorem dX5_turn_11 : decode cX5_turn 11 = .ok (.ldc2_w 62, 3) := by decide +kernel
theorem dX5_turn_14 : decode cX5_turn 14 = .ok (.invokestatic 54, 3) := by decide +kernel
theorem dX5_turn_17 : decode cX5_turn 17 = .ok (.ifCond .eq 16, 3) := by decide +kernel
theorem dX5_turn_20 : decode cX5_turn 20 = .ok (.aload_n 0, 1) := by decide +kernel
theorem dX5_turn_21 : decode cX5_turn 21 = .ok (.iconst 2, 1) := by decide +kernel
theorem dX5_turn_22 : decode cX5_turn 22 = .ok (.iconst 3, 1) := by decide +kernel
theorem dX5_turn_23 : decode cX5_turn 23 = .ok (.iload_n 1, 1) := by decide +kernel
theorem dX5_turn_24 : decode cX5_turn 24 = .ok (.imul, 1) := by decide +kernel
theorem dX5_turn_25 : decode cX5_turn 25 = .ok (.iadd, 1) := by decide +kernel
theorem dX5_turn_26 : decode cX5_turn 26 = .ok (.iload_n 2, 1) := by decide +kernel
theorem dX5_turn_27 : decode cX5_turn 27 = .ok (.invokevirtual 91, 3) := by decide +kernel
theorem dX5_turn_30 : decode cX5_turn 30 = .ok (.goto 9, 3) := by decide +kernel
theorem dX5_turn_33 : decode cX5_turn 33 = .ok (.aload_n 0, 1) := by decide +kernel
theorem dX5_turn_34 : decode cX5_turn 34 = .ok (.ldc 48, 2) := by decide +kernel
theorem dX5_turn_36 : decode cX5_turn 36 = .ok (.invokevirtual 50, 3) := by decide +kernel
theorem dX5_turn_39 : decode cX5_turn 39 = .ok (.ireturn, 1) := by decide +kernel
theorem dX5_as_0 : decode cX5_as 0 = .ok (.aload_n 0, 1) := by decide +kernel
theorem dX5_as_1 : decode cX5_as 1 = .ok (.iload_n 1, 1) := by decide +kernel
theorem dX5_as_2 : decode cX5_as 2 = .ok (.invokevirtual 87, 3) := by decide +kernel
theorem dX5_as_5 : decode cX5_as 5 = .ok (.ifCond .eq 15, 3) := by decide +kernel
theorem dX5_as_8 : decode cX5_as 8 = .ok (.iload_n 2, 1) := by decide +kernel
theorem dX5_as_9 : decode cX5_as 9 = .ok (.i2l, 1) := by decide +kernel
theorem dX5_as_10 : decode cX5_as 10 = .ok (.lconst 0, 1) := by decide +kernel
theorem dX5_as_11 : decode cX5_as 11 = .ok (.ldc2_w 62, 3) := by decide +kernel
theorem dX5_as_14 : decode cX5_as 14 = .ok (.invokestatic 54, 3) := by decide +kernel
theorem dX5_as_17 : decode cX5_as 17 = .ok (.ifCond .ne 10, 3) := by decide +kernel
theorem dX5_as_20 : decode cX5_as 20 = .ok (.aload_n 0, 1) := by decide +kernel
theorem dX5_as_21 : decode cX5_as 21 = .ok (.ldc 48, 2) := by decide +kernel
theorem dX5_as_23 : decode cX5_as 23 = .ok (.invokevirtual 50, 3) := by decide +kernel
theorem dX5_as_26 : decode cX5_as 26 = .ok (.ireturn, 1) := by decide +kernel
theorem dX5_as_27 : decode cX5_as 27 = .ok (.aload_n 0, 1) := by decide +kernel
theorem dX5_as_28 : decode cX5_as 28 = .ok (.iload_n 1, 1) := by decide +kernel
theorem dX5_as_29 : decode cX5_as 29 = .ok (.iconst 0, 1) := by decide +kernel
theorem dX5_as_30 : decode cX5_as 30 = .ok (.invokevirtual 70, 3) := by decide +kernel
theorem dX5_as_33 : decode cX5_as 33 = .ok (.istore_n 3, 1) := by decide +kernel
theorem dX5_as_34 : decode cX5_as 34 = .ok (.iload_n 2, 1) := by decide +kernel
theorem dX5_as_35 : decode cX5_as 35 = .ok (.ifCond .eq 28, 3) := by decide +kernel
theorem dX5_as_38 : decode cX5_as 38 = .ok (.iload_n 3, 1) := by decide +kernel
theorem dX5_as_39 : decode cX5_as 39 = .ok (.iload_n 2, 1) := by decide +kernel
theorem dX5_as_40 : decode cX5_as 40 = .ok (.if_icmp .eq 23, 3) := by decide +kernel
theorem dX5_as_43 : decode cX5_as 43 = .ok (.iload_n 2, 1) := by decide +kernel
theorem dX5_as_44 : decode cX5_as 44 = .ok (.iconst 1, 1) := by decide +kernel
theorem dX5_as_45 : decode cX5_as 45 = .ok (.if_icmp .ne 8, 3) := by decide +kernel
theorem dX5_as_48 : decode cX5_as 48 = .ok (.iload_n 3, 1) := by decide +kernel
theorem dX5_as_49 : decode cX5_as 49 = .ok (.iconst 4, 1) := by decide +kernel
theorem dX5_as_50 : decode cX5_as 50 = .ok (.if_icmp .eq 13, 3) := by decide +kernel
theorem dX5_as_53 : decode cX5_as 53 = .ok (.iload_n 2, 1) := by decide +kernel
theorem dX5_as_54 : decode cX5_as 54 = .ok (.iconst 2, 1) := by decide +kernel
theorem dX5_as_55 : decode cX5_as 55 = .ok (.if_icmp .ne 12, 3) := by decide +kernel
theorem dX5_as_58 : decode cX5_as 58 = .ok (.iload_n 3, 1) := by decide +kernel
theorem dX5_as_59 : decode cX5_as 59 = .ok (.iconst 5, 1) := by decide +kernel
theorem dX5_as_60 : decode cX5_as 60 = .ok (.if_icmp .ne 7, 3) := by decide +kernel
theorem dX5_as_63 : decode cX5_as 63 = .ok (.iconst 1, 1) := by decide +kernel
theorem dX5_as_64 : decode cX5_as 64 = .ok (.goto 4, 3) := by decide +kernel
theorem dX5_as_67 : decode cX5_as 67 = .ok (.iconst 0, 1) := by decide +kernel
theorem dX5_as_68 : decode cX5_as 68 = .ok (.istore 4, 2) := by decide +kernel
theorem dX5_as_70 : decode cX5_as 70 = .ok (.iload 4, 2) := by decide +kernel
theorem dX5_as_72 : decode cX5_as 72 = .ok (.ifCond .eq 12, 3) := by decide +kernel
theorem dX5_as_75 : decode cX5_as 75 = .ok (.aload_n 0, 1) := by decide +kernel
theorem dX5_as_76 : decode cX5_as 76 = .ok (.iload_n 1, 1) := by decide +kernel
theorem dX5_as_77 : decode cX5_as 77 = .ok (.iconst 1, 1) := by decide +kernel
theorem dX5_as_78 : decode cX5_as 78 = .ok (.invokevirtual 70, 3) := by decide +kernel
theorem dX5_as_81 : decode cX5_as 81 = .ok (.goto 9, 3) := by decide +kernel
theorem dX5_as_84 : decode cX5_as 84 = .ok (.aload_n 0, 1) := by decide +kernel
theorem dX5_as_85 : decode cX5_as 85 = .ok (.ldc 94, 2) := by decide +kernel
theorem dX5_as_87 : decode cX5_as 87 = .ok (.invokevirtual 50, 3) := by decide +kernel
theorem dX5_as_90 : decode cX5_as 90 = .ok (.ireturn, 1) := by decide +kernel
theorem dX5_look_0 : decode cX5_look 0 = .ok (.aload_n 0, 1) := by decide +kernel
theorem dX5_look_1 : decode cX5_look 1 = .ok (.getfield 95, 3) := by decide +kernel
theorem dX5_look_4 : decode cX5_look 4 = .ok (.aload_n 0, 1) := by decide +kernel
theorem dX5_look_5 : decode cX5_look 5 = .ok (.getfield 99, 3) := by decide +kernel
theorem dX5_look_8 : decode cX5_look 8 = .ok (.if_icmp .ge 15, 3) := by decide +kernel
theorem dX5_look_11 : decode cX5_look 11 = .ok (.aload_n 0, 1) := by decide +kernel
theorem dX5_look_12 : decode cX5_look 12 = .ok (.getfield 23, 3) := by decide +kernel
theorem dX5_look_15 : decode cX5_look 15 = .ok (.aload_n 0, 1) := by decide +kernel
theorem dX5_look_16 : decode cX5_look 16 = .ok (.getfield 95, 3) := by decide +kernel
theorem dX5_look_19 : decode cX5_look 19 = .ok (.iaload, 1) := by decide +kernel
theorem dX5_look_20 : decode cX5_look 20 = .ok (.goto 4, 3) := by decide +kernel
theorem dX5_look_23 : decode cX5_look 23 = .ok (.iconst (-1), 1) := by decide +kernel
theorem dX5_look_24 : decode cX5_look 24 = .ok (.ireturn, 1) := by decide +kernel
theorem dX5_faulty_0 : decode cX5_faulty 0 = .ok (.aload_n 0, 1) := by decide +kernel
theorem dX5_faulty_1 : decode cX5_faulty 1 = .ok (.aload_n 0, 1) := by decide +kernel
theorem dX5_faulty_2 : decode cX5_faulty 2 = .ok (.getfield 102, 3) := by decide +kernel
theorem dX5_faulty_5 : decode cX5_faulty 5 = .ok (.ifCond .ge 10, 3) := by decide +kernel
theorem dX5_faulty_8 : decode cX5_faulty 8 = .ok (.aload_n 0, 1) := by decide +kernel
theorem dX5_faulty_9 : decode cX5_faulty 9 = .ok (.getfield 95, 3) := by decide +kernel
theorem dX5_faulty_12 : decode cX5_faulty 12 = .ok (.goto 7, 3) := by decide +kernel
theorem dX5_faulty_15 : decode cX5_faulty 15 = .ok (.aload_n 0, 1) := by decide +kernel
theorem dX5_faulty_16 : decode cX5_faulty 16 = .ok (.getfield 102, 3) := by decide +kernel
theorem dX5_faulty_19 : decode cX5_faulty 19 = .ok (.putfield 102, 3) := by decide +kernel
theorem dX5_faulty_22 : decode cX5_faulty 22 = .ok (.return_, 1) := by decide +kernel
theorem dX5_lay_0 : decode cX5_lay 0 = .ok (.aload_n 0, 1) := by decide +kernel
theorem dX5_lay_1 : decode cX5_lay 1 = .ok (.getfield 26, 3) := by decide +kernel
theorem dX5_lay_4 : decode cX5_lay 4 = .ok (.aload_n 0, 1) := by decide +kernel
theorem dX5_lay_5 : decode cX5_lay 5 = .ok (.getfield 105, 3) := by decide +kernel
theorem dX5_lay_8 : decode cX5_lay 8 = .ok (.iload_n 1, 1) := by decide +kernel
theorem dX5_lay_9 : decode cX5_lay 9 = .ok (.iastore, 1) := by decide +kernel
theorem dX5_lay_10 : decode cX5_lay 10 = .ok (.aload_n 0, 1) := by decide +kernel
theorem dX5_lay_11 : decode cX5_lay 11 = .ok (.dup, 1) := by decide +kernel
theorem dX5_lay_12 : decode cX5_lay 12 = .ok (.getfield 105, 3) := by decide +kernel
theorem dX5_lay_15 : decode cX5_lay 15 = .ok (.iconst 1, 1) := by decide +kernel
theorem dX5_lay_16 : decode cX5_lay 16 = .ok (.iadd, 1) := by decide +kernel
theorem dX5_lay_17 : decode cX5_lay 17 = .ok (.putfield 105, 3) := by decide +kernel
theorem dX5_lay_20 : decode cX5_lay 20 = .ok (.aload_n 0, 1) := by decide +kernel
theorem dX5_lay_21 : decode cX5_lay 21 = .ok (.dup, 1) := by decide +kernel
theorem dX5_lay_22 : decode cX5_lay 22 = .ok (.getfield 95, 3) := by decide +kernel
theorem dX5_lay_25 : decode cX5_lay 25 = .ok (.iconst 1, 1) := by decide +kernel
theorem dX5_lay_26 : decode cX5_lay 26 = .ok (.iadd, 1) := by decide +kernel
theorem dX5_lay_27 : decode cX5_lay 27 = .ok (.putfield 95, 3) := by decide +kernel
theorem dX5_lay_30 : decode cX5_lay 30 = .ok (.return_, 1) := by decide +kernel
theorem dX5_opens_0 : decode cX5_opens 0 = .ok (.aload_n 0, 1) := by decide +kernel
theorem dX5_opens_1 : decode cX5_opens 1 = .ok (.getfield 108, 3) := by decide +kernel
theorem dX5_opens_4 : decode cX5_opens 4 = .ok (.bipush 6, 2) := by decide +kernel
theorem dX5_opens_6 : decode cX5_opens 6 = .ok (.if_icmp .ne 9, 3) := by decide +kernel
theorem dX5_opens_9 : decode cX5_opens 9 = .ok (.aload_n 0, 1) := by decide +kernel
theorem dX5_opens_10 : decode cX5_opens 10 = .ok (.invokevirtual 111, 3) := by decide +kernel
theorem dX5_opens_13 : decode cX5_opens 13 = .ok (.iconst 0, 1) := by decide +kernel
theorem dX5_opens_14 : decode cX5_opens 14 = .ok (.ireturn, 1) := by decide +kernel
theorem dX5_opens_15 : decode cX5_opens 15 = .ok (.aload_n 0, 1) := by decide +kernel
theorem dX5_opens_16 : decode cX5_opens 16 = .ok (.dup, 1) := by decide +kernel
theorem dX5_opens_17 : decode cX5_opens 17 = .ok (.getfield 108, 3) := by decide +kernel
theorem dX5_opens_20 : decode cX5_opens 20 = .ok (.iconst 1, 1) := by decide +kernel
theorem dX5_opens_21 : decode cX5_opens 21 = .ok (.iadd, 1) := by decide +kernel
theorem dX5_opens_22 : decode cX5_opens 22 = .ok (.putfield 108, 3) := by decide +kernel
theorem dX5_opens_25 : decode cX5_opens 25 = .ok (.aload_n 0, 1) := by decide +kernel
theorem dX5_opens_26 : decode cX5_opens 26 = .ok (.dup, 1) := by decide +kernel
theorem dX5_opens_27 : decode cX5_opens 27 = .ok (.getfield 95, 3) := by decide +kernel
theorem dX5_opens_30 : decode cX5_opens 30 = .ok (.iconst 1, 1) := by decide +kernel
theorem dX5_opens_31 : decode cX5_opens 31 = .ok (.iadd, 1) := by decide +kernel
theorem dX5_opens_32 : decode cX5_opens 32 = .ok (.putfield 95, 3) := by decide +kernel
theorem dX5_opens_35 : decode cX5_opens 35 = .ok (.iconst 1, 1) := by decide +kernel
theorem dX5_opens_36 : decode cX5_opens 36 = .ok (.ireturn, 1) := by decide +kernel
theorem dX5_counted_0 : decode cX5_counted 0 = .ok (.aload_n 0, 1) := by decide +kernel
theorem dX5_counted_1 : decode cX5_counted 1 = .ok (.dup, 1) := by decide +kernel
theorem dX5_counted_2 : decode cX5_counted 2 = .ok (.getfield 95, 3) := by decide +kernel
theorem dX5_counted_5 : decode cX5_counted 5 = .ok (.iconst 1, 1) := by decide +kernel
theorem dX5_counted_6 : decode cX5_counted 6 = .ok (.iadd, 1) := by decide +kernel
theorem dX5_counted_7 : decode cX5_counted 7 = .ok (.putfield 95, 3) := by decide +kernel
theorem dX5_counted_10 : decode cX5_counted 10 = .ok (.aload_n 0, 1) := by decide +kernel
theorem dX5_counted_11 : decode cX5_counted 11 = .ok (.invokevirtual 114, 3) := by decide +kernel
theorem dX5_counted_14 : decode cX5_counted 14 = .ok (.istore_n 1, 1) := by decide +kernel
theorem dX5_counted_15 : decode cX5_counted 15 = .ok (.iload_n 1, 1) := by decide +kernel
theorem dX5_counted_16 : decode cX5_counted 16 = .ok (.bipush 60, 2) := by decide +kernel
theorem dX5_counted_18 : decode cX5_counted 18 = .ok (.if_icmp .ne 8, 3) := by decide +kernel
theorem dX5_counted_21 : decode cX5_counted 21 = .ok (.bipush 100, 2) := by decide +kernel
theorem dX5_counted_23 : decode cX5_counted 23 = .ok (.goto 26, 3) := by decide +kernel
theorem dX5_counted_26 : decode cX5_counted 26 = .ok (.iload_n 1, 1) := by decide +kernel
theorem dX5_counted_27 : decode cX5_counted 27 = .ok (.bipush 61, 2) := by decide +kernel
theorem dX5_counted_29 : decode cX5_counted 29 = .ok (.if_icmp .ne 8, 3) := by decide +kernel
theorem dX5_counted_32 : decode cX5_counted 32 = .ok (.bipush 110, 2) := by decide +kernel
theorem dX5_counted_34 : decode cX5_counted 34 = .ok (.goto 15, 3) := by decide +kernel
theorem dX5_counted_37 : decode cX5_counted 37 = .ok (.iload_n 1, 1) := by decide +kernel
theorem dX5_counted_38 : decode cX5_counted 38 = .ok (.bipush 62, 2) := by decide +kernel
theorem dX5_counted_40 : decode cX5_counted 40 = .ok (.if_icmp .ne 8, 3) := by decide +kernel
theorem dX5_counted_43 : decode cX5_counted 43 = .ok (.bipush 120, 2) := by decide +kernel
theorem dX5_counted_45 : decode cX5_counted 45 = .ok (.goto 4, 3) := by decide +kernel
theorem dX5_counted_48 : decode cX5_counted 48 = .ok (.iconst (-1), 1) := by decide +kernel
theorem dX5_counted_49 : decode cX5_counted 49 = .ok (.istore_n 2, 1) := by decide +kernel
theorem dX5_counted_50 : decode cX5_counted 50 = .ok (.iload_n 2, 1) := by decide +kernel
theorem dX5_counted_51 : decode cX5_counted 51 = .ok (.ifCond .ge 8, 3) := by decide +kernel
theorem dX5_counted_54 : decode cX5_counted 54 = .ok (.aload_n 0, 1) := by decide +kernel
theorem dX5_counted_55 : decode cX5_counted 55 = .ok (.invokevirtual 111, 3) := by decide +kernel
theorem dX5_counted_58 : decode cX5_counted 58 = .ok (.return_, 1) := by decide +kernel
theorem dX5_counted_59 : decode cX5_counted 59 = .ok (.aload_n 0, 1) := by decide +kernel
theorem dX5_counted_60 : decode cX5_counted 60 = .ok (.dup, 1) := by decide +kernel
theorem dX5_counted_61 : decode cX5_counted 61 = .ok (.getfield 95, 3) := by decide +kernel
theorem dX5_counted_64 : decode cX5_counted 64 = .ok (.iconst 1, 1) := by decide +kernel
theorem dX5_counted_65 : decode cX5_counted 65 = .ok (.iadd, 1) := by decide +kernel
theorem dX5_counted_66 : decode cX5_counted 66 = .ok (.putfield 95, 3) := by decide +kernel
theorem dX5_counted_69 : decode cX5_counted 69 = .ok (.aload_n 0, 1) := by decide +kernel
theorem dX5_counted_70 : decode cX5_counted 70 = .ok (.invokevirtual 114, 3) := by decide +kernel
theorem dX5_counted_73 : decode cX5_counted 73 = .ok (.i2l, 1) := by decide +kernel
theorem dX5_counted_74 : decode cX5_counted 74 = .ok (.ldc2_w 117, 3) := by decide +kernel
theorem dX5_counted_77 : decode cX5_counted 77 = .ok (.ldc2_w 119, 3) := by decide +kernel
theorem dX5_counted_80 : decode cX5_counted 80 = .ok (.invokestatic 54, 3) := by decide +kernel
theorem dX5_counted_83 : decode cX5_counted 83 = .ok (.ifCond .ne 8, 3) := by decide +kernel
theorem dX5_counted_86 : decode cX5_counted 86 = .ok (.aload_n 0, 1) := by decide +kernel
theorem dX5_counted_87 : decode cX5_counted 87 = .ok (.invokevirtual 111, 3) := by decide +kernel
theorem dX5_counted_90 : decode cX5_counted 90 = .ok (.return_, 1) := by decide +kernel
theorem dX5_counted_91 : decode cX5_counted 91 = .ok (.aload_n 0, 1) := by decide +kernel
theorem dX5_counted_92 : decode cX5_counted 92 = .ok (.iload_n 2, 1) := by decide +kernel
theorem dX5_counted_93 : decode cX5_counted 93 = .ok (.aload_n 0, 1) := by decide +kernel
theorem dX5_counted_94 : decode cX5_counted 94 = .ok (.invokevirtual 114, 3) := by decide +kernel
theorem dX5_counted_97 : decode cX5_counted 97 = .ok (.iadd, 1) := by decide +kernel
theorem dX5_counted_98 : decode cX5_counted 98 = .ok (.bipush 48, 2) := by decide +kernel
theorem dX5_counted_100 : decode cX5_counted 100 = .ok (.isub, 1) := by decide +kernel
theorem dX5_counted_101 : decode cX5_counted 101 = .ok (.invokevirtual 121, 3) := by decide +kernel
theorem dX5_counted_104 : decode cX5_counted 104 = .ok (.return_, 1) := by decide +kernel
theorem dX5_unit_0 : decode cX5_unit 0 = .ok (.aload_n 0, 1) := by decide +kernel
theorem dX5_unit_1 : decode cX5_unit 1 = .ok (.invokevirtual 114, 3) := by decide +kernel
theorem dX5_unit_4 : decode cX5_unit 4 = .ok (.istore_n 1, 1) := by decide +kernel
theorem dX5_unit_5 : decode cX5_unit 5 = .ok (.iload_n 1, 1) := by decide +kernel
theorem dX5_unit_6 : decode cX5_unit 6 = .ok (.i2l, 1) := by decide +kernel
theorem dX5_unit_7 : decode cX5_unit 7 = .ok (.ldc2_w 125, 3) := by decide +kernel
theorem dX5_unit_10 : decode cX5_unit 10 = .ok (.ldc2_w 127, 3) := by decide +kernel
theorem dX5_unit_13 : decode cX5_unit 13 = .ok (.invokestatic 54, 3) := by decide +kernel
theorem dX5_unit_16 : decode cX5_unit 16 = .ok (.ifCond .eq 14, 3) := by decide +kernel
theorem dX5_unit_19 : decode cX5_unit 19 = .ok (.aload_n 0, 1) := by decide +kernel
theorem dX5_unit_20 : decode cX5_unit 20 = .ok (.iload_n 1, 1) := by decide +kernel
theorem dX5_unit_21 : decode cX5_unit 21 = .ok (.bipush 97, 2) := by decide +kernel
theorem dX5_unit_23 : decode cX5_unit 23 = .ok (.isub, 1) := by decide +kernel
theorem dX5_unit_24 : decode cX5_unit 24 = .ok (.invokevirtual 121, 3) := by decide +kernel
theorem dX5_unit_27 : decode cX5_unit 27 = .ok (.goto 166, 3) := by decide +kernel
theorem dX5_unit_30 : decode cX5_unit 30 = .ok (.iload_n 1, 1) := by decide +kernel
theorem dX5_unit_31 : decode cX5_unit 31 = .ok (.bipush 48, 2) := by decide +kernel
theorem dX5_unit_33 : decode cX5_unit 33 = .ok (.if_icmp .eq 9, 3) := by decide +kernel
theorem dX5_unit_36 : decode cX5_unit 36 = .ok (.iload_n 1, 1) := by decide +kernel
theorem dX5_unit_37 : decode cX5_unit 37 = .ok (.bipush 49, 2) := by decide +kernel
theorem dX5_unit_39 : decode cX5_unit 39 = .ok (.if_icmp .ne 25, 3) := by decide +kernel
theorem dX5_unit_42 : decode cX5_unit 42 = .ok (.aload_n 0, 1) := by decide +kernel
theorem dX5_unit_43 : decode cX5_unit 43 = .ok (.iload_n 1, 1) := by decide +kernel
theorem dX5_unit_44 : decode cX5_unit 44 = .ok (.bipush 49, 2) := by decide +kernel
theorem dX5_unit_46 : decode cX5_unit 46 = .ok (.if_icmp .ne 9, 3) := by decide +kernel
theorem dX5_unit_49 : decode cX5_unit 49 = .ok (.sipush 130, 3) := by decide +kernel
theorem dX5_unit_52 : decode cX5_unit 52 = .ok (.goto 6, 3) := by decide +kernel
theorem dX5_unit_55 : decode cX5_unit 55 = .ok (.sipush 131, 3) := by decide +kernel
theorem dX5_unit_58 : decode cX5_unit 58 = .ok (.invokevirtual 121, 3) := by decide +kernel
theorem dX5_unit_61 : decode cX5_unit 61 = .ok (.goto 132, 3) := by decide +kernel
theorem dX5_unit_64 : decode cX5_unit 64 = .ok (.iload_n 1, 1) := by decide +kernel
theorem dX5_unit_65 : decode cX5_unit 65 = .ok (.bipush 110, 2) := by decide +kernel
theorem dX5_unit_67 : decode cX5_unit 67 = .ok (.if_icmp .ne 10, 3) := by decide +kernel
theorem dX5_unit_70 : decode cX5_unit 70 = .ok (.aload_n 0, 1) := by decide +kernel
theorem dX5_unit_71 : decode cX5_unit 71 = .ok (.invokevirtual 129, 3) := by decide +kernel
theorem dX5_unit_74 : decode cX5_unit 74 = .ok (.goto 119, 3) := by decide +kernel
theorem dX5_unit_77 : decode cX5_unit 77 = .ok (.iload_n 1, 1) := by decide +kernel
theorem dX5_unit_78 : decode cX5_unit 78 = .ok (.bipush 33, 2) := by decide +kernel
theorem dX5_unit_80 : decode cX5_unit 80 = .ok (.if_icmp .ne 49, 3) := by decide +kernel
theorem dX5_unit_83 : decode cX5_unit 83 = .ok (.aload_n 0, 1) := by decide +kernel
theorem dX5_unit_84 : decode cX5_unit 84 = .ok (.invokevirtual 132, 3) := by decide +kernel
theorem dX5_unit_87 : decode cX5_unit 87 = .ok (.ifCond .eq 42, 3) := by decide +kernel
theorem dX5_unit_90 : decode cX5_unit 90 = .ok (.aload_n 0, 1) := by decide +kernel
theorem dX5_unit_91 : decode cX5_unit 91 = .ok (.invokevirtual 136, 3) := by decide +kernel
theorem dX5_unit_94 : decode cX5_unit 94 = .ok (.aload_n 0, 1) := by decide +kernel
theorem dX5_unit_95 : decode cX5_unit 95 = .ok (.dup, 1) := by decide +kernel
theorem dX5_unit_96 : decode cX5_unit 96 = .ok (.getfield 108, 3) := by decide +kernel
theorem dX5_unit_99 : decode cX5_unit 99 = .ok (.iconst 1, 1) := by decide +kernel
theorem dX5_unit_100 : decode cX5_unit 100 = .ok (.isub, 1) := by decide +kernel
theorem dX5_unit_101 : decode cX5_unit 101 = .ok (.putfield 108, 3) := by decide +kernel
theorem dX5_unit_104 : decode cX5_unit 104 = .ok (.aload_n 0, 1) := by decide +kernel
theorem dX5_unit_105 : decode cX5_unit 105 = .ok (.getfield 26, 3) := by decide +kernel
theorem dX5_unit_108 : decode cX5_unit 108 = .ok (.aload_n 0, 1) := by decide +kernel
theorem dX5_unit_109 : decode cX5_unit 109 = .ok (.getfield 105, 3) := by decide +kernel
theorem dX5_unit_112 : decode cX5_unit 112 = .ok (.sipush 140, 3) := by decide +kernel
theorem dX5_unit_115 : decode cX5_unit 115 = .ok (.iastore, 1) := by decide +kernel
theorem dX5_unit_116 : decode cX5_unit 116 = .ok (.aload_n 0, 1) := by decide +kernel
theorem dX5_unit_117 : decode cX5_unit 117 = .ok (.dup, 1) := by decide +kernel
theorem dX5_unit_118 : decode cX5_unit 118 = .ok (.getfield 105, 3) := by decide +kernel
theorem dX5_unit_121 : decode cX5_unit 121 = .ok (.iconst 1, 1) := by decide +kernel
theorem dX5_unit_122 : decode cX5_unit 122 = .ok (.iadd, 1) := by decide +kernel
theorem dX5_unit_123 : decode cX5_unit 123 = .ok (.putfield 105, 3) := by decide +kernel
theorem dX5_unit_126 : decode cX5_unit 126 = .ok (.goto 67, 3) := by decide +kernel
theorem dX5_unit_129 : decode cX5_unit 129 = .ok (.iload_n 1, 1) := by decide +kernel
theorem dX5_unit_130 : decode cX5_unit 130 = .ok (.bipush 40, 2) := by decide +kernel
theorem dX5_unit_132 : decode cX5_unit 132 = .ok (.if_icmp .ne 57, 3) := by decide +kernel
theorem dX5_unit_135 : decode cX5_unit 135 = .ok (.aload_n 0, 1) := by decide +kernel
theorem dX5_unit_136 : decode cX5_unit 136 = .ok (.invokevirtual 132, 3) := by decide +kernel
theorem dX5_unit_139 : decode cX5_unit 139 = .ok (.ifCond .eq 50, 3) := by decide +kernel
theorem dX5_unit_142 : decode cX5_unit 142 = .ok (.aload_n 0, 1) := by decide +kernel
theorem dX5_unit_143 : decode cX5_unit 143 = .ok (.invokevirtual 139, 3) := by decide +kernel
theorem dX5_unit_146 : decode cX5_unit 146 = .ok (.aload_n 0, 1) := by decide +kernel
theorem dX5_unit_147 : decode cX5_unit 147 = .ok (.getfield 102, 3) := by decide +kernel
theorem dX5_unit_150 : decode cX5_unit 150 = .ok (.ifCond .ge 16, 3) := by decide +kernel
theorem dX5_unit_153 : decode cX5_unit 153 = .ok (.aload_n 0, 1) := by decide +kernel
theorem dX5_unit_154 : decode cX5_unit 154 = .ok (.invokevirtual 114, 3) := by decide +kernel
theorem dX5_unit_157 : decode cX5_unit 157 = .ok (.bipush 41, 2) := by decide +kernel
theorem dX5_unit_159 : decode cX5_unit 159 = .ok (.if_icmp .eq 7, 3) := by decide +kernel
theorem dX5_unit_162 : decode cX5_unit 162 = .ok (.aload_n 0, 1) := by decide +kernel
theorem dX5_unit_163 : decode cX5_unit 163 = .ok (.invokevirtual 111, 3) := by decide +kernel
theorem dX5_unit_166 : decode cX5_unit 166 = .ok (.aload_n 0, 1) := by decide +kernel
theorem dX5_unit_167 : decode cX5_unit 167 = .ok (.dup, 1) := by decide +kernel
theorem dX5_unit_168 : decode cX5_unit 168 = .ok (.getfield 95, 3) := by decide +kernel
theorem dX5_unit_171 : decode cX5_unit 171 = .ok (.iconst 1, 1) := by decide +kernel
theorem dX5_unit_172 : decode cX5_unit 172 = .ok (.iadd, 1) := by decide +kernel
theorem dX5_unit_173 : decode cX5_unit 173 = .ok (.putfield 95, 3) := by decide +kernel
theorem dX5_unit_176 : decode cX5_unit 176 = .ok (.aload_n 0, 1) := by decide +kernel
theorem dX5_unit_177 : decode cX5_unit 177 = .ok (.dup, 1) := by decide +kernel
theorem dX5_unit_178 : decode cX5_unit 178 = .ok (.getfield 108, 3) := by decide +kernel
theorem dX5_unit_181 : decode cX5_unit 181 = .ok (.iconst 1, 1) := by decide +kernel
theorem dX5_unit_182 : decode cX5_unit 182 = .ok (.isub, 1) := by decide +kernel
theorem dX5_unit_183 : decode cX5_unit 183 = .ok (.putfield 108, 3) := by decide +kernel
theorem dX5_unit_186 : decode cX5_unit 186 = .ok (.goto 7, 3) := by decide +kernel
theorem dX5_unit_189 : decode cX5_unit 189 = .ok (.aload_n 0, 1) := by decide +kernel
theorem dX5_unit_190 : decode cX5_unit 190 = .ok (.invokevirtual 111, 3) := by decide +kernel
theorem dX5_unit_193 : decode cX5_unit 193 = .ok (.return_, 1) := by decide +kernel
theorem dX5_every_0 : decode cX5_every 0 = .ok (.aload_n 0, 1) := by decide +kernel
theorem dX5_every_1 : decode cX5_every 1 = .ok (.invokevirtual 136, 3) := by decide +kernel
theorem dX5_every_4 : decode cX5_every 4 = .ok (.aload_n 0, 1) := by decide +kernel
theorem dX5_every_5 : decode cX5_every 5 = .ok (.getfield 102, 3) := by decide +kernel
theorem dX5_every_8 : decode cX5_every 8 = .ok (.ifCond .ge 51, 3) := by decide +kernel
theorem dX5_every_11 : decode cX5_every 11 = .ok (.aload_n 0, 1) := by decide +kernel
theorem dX5_every_12 : decode cX5_every 12 = .ok (.invokevirtual 114, 3) := by decide +kernel
theorem dX5_every_15 : decode cX5_every 15 = .ok (.bipush 38, 2) := by decide +kernel
theorem dX5_every_17 : decode cX5_every 17 = .ok (.if_icmp .ne 42, 3) := by decide +kernel
theorem dX5_every_20 : decode cX5_every 20 = .ok (.aload_n 0, 1) := by decide +kernel
theorem dX5_every_21 : decode cX5_every 21 = .ok (.dup, 1) := by decide +kernel
theorem dX5_every_22 : decode cX5_every 22 = .ok (.getfield 95, 3) := by decide +kernel
theorem dX5_every_25 : decode cX5_every 25 = .ok (.iconst 1, 1) := by decide +kernel
theorem dX5_every_26 : decode cX5_every 26 = .ok (.iadd, 1) := by decide +kernel
theorem dX5_every_27 : decode cX5_every 27 = .ok (.putfield 95, 3) := by decide +kernel
theorem dX5_every_30 : decode cX5_every 30 = .ok (.aload_n 0, 1) := by decide +kernel
theorem dX5_every_31 : decode cX5_every 31 = .ok (.invokevirtual 136, 3) := by decide +kernel
theorem dX5_every_34 : decode cX5_every 34 = .ok (.aload_n 0, 1) := by decide +kernel
theorem dX5_every_35 : decode cX5_every 35 = .ok (.getfield 26, 3) := by decide +kernel
theorem dX5_every_38 : decode cX5_every 38 = .ok (.aload_n 0, 1) := by decide +kernel
theorem dX5_every_39 : decode cX5_every 39 = .ok (.getfield 105, 3) := by decide +kernel
theorem dX5_every_42 : decode cX5_every 42 = .ok (.sipush 141, 3) := by decide +kernel
theorem dX5_every_45 : decode cX5_every 45 = .ok (.iastore, 1) := by decide +kernel
theorem dX5_every_46 : decode cX5_every 46 = .ok (.aload_n 0, 1) := by decide +kernel
theorem dX5_every_47 : decode cX5_every 47 = .ok (.dup, 1) := by decide +kernel
theorem dX5_every_48 : decode cX5_every 48 = .ok (.getfield 105, 3) := by decide +kernel
theorem dX5_every_51 : decode cX5_every 51 = .ok (.iconst 1, 1) := by decide +kernel
