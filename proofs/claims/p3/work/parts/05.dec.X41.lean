theorem dX4_invites_59 : decode cX4_invites 59 = .ok (.iconst 0, 1) := by decide +kernel
theorem dX4_invites_60 : decode cX4_invites 60 = .ok (.istore 5, 2) := by decide +kernel
theorem dX4_invites_62 : decode cX4_invites 62 = .ok (.iload 5, 2) := by decide +kernel
theorem dX4_invites_64 : decode cX4_invites 64 = .ok (.ifCond .eq 17, 3) := by decide +kernel
theorem dX4_invites_67 : decode cX4_invites 67 = .ok (.aload_n 0, 1) := by decide +kernel
theorem dX4_invites_68 : decode cX4_invites 68 = .ok (.iload 4, 2) := by decide +kernel
theorem dX4_invites_70 : decode cX4_invites 70 = .ok (.iload_n 1, 1) := by decide +kernel
theorem dX4_invites_71 : decode cX4_invites 71 = .ok (.iload_n 2, 1) := by decide +kernel
theorem dX4_invites_72 : decode cX4_invites 72 = .ok (.invokevirtual 175, 3) := by decide +kernel
theorem dX4_invites_75 : decode cX4_invites 75 = .ok (.ifCond .eq 6, 3) := by decide +kernel
theorem dX4_invites_78 : decode cX4_invites 78 = .ok (.iload 4, 2) := by decide +kernel
theorem dX4_invites_80 : decode cX4_invites 80 = .ok (.istore_n 3, 1) := by decide +kernel
theorem dX4_invites_81 : decode cX4_invites 81 = .ok (.iinc 4 1, 3) := by decide +kernel
theorem dX4_invites_84 : decode cX4_invites 84 = .ok (.goto (-57), 3) := by decide +kernel
theorem dX4_invites_87 : decode cX4_invites 87 = .ok (.iload_n 3, 1) := by decide +kernel
theorem dX4_invites_88 : decode cX4_invites 88 = .ok (.ifCond .ge 12, 3) := by decide +kernel
theorem dX4_invites_91 : decode cX4_invites 91 = .ok (.aload_n 0, 1) := by decide +kernel
theorem dX4_invites_92 : decode cX4_invites 92 = .ok (.ldc 135, 2) := by decide +kernel
theorem dX4_invites_94 : decode cX4_invites 94 = .ok (.invokevirtual 52, 3) := by decide +kernel
theorem dX4_invites_97 : decode cX4_invites 97 = .ok (.goto 4, 3) := by decide +kernel
theorem dX4_invites_100 : decode cX4_invites 100 = .ok (.iload_n 3, 1) := by decide +kernel
theorem dX4_invites_101 : decode cX4_invites 101 = .ok (.ireturn, 1) := by decide +kernel
theorem dX4_against_0 : decode cX4_against 0 = .ok (.aload_n 0, 1) := by decide +kernel
theorem dX4_against_1 : decode cX4_against 1 = .ok (.getfield 12, 3) := by decide +kernel
theorem dX4_against_4 : decode cX4_against 4 = .ok (.iload_n 1, 1) := by decide +kernel
theorem dX4_against_5 : decode cX4_against 5 = .ok (.invokevirtual 65, 3) := by decide +kernel
theorem dX4_against_8 : decode cX4_against 8 = .ok (.ifCond .eq 19, 3) := by decide +kernel
theorem dX4_against_11 : decode cX4_against 11 = .ok (.aload_n 0, 1) := by decide +kernel
theorem dX4_against_12 : decode cX4_against 12 = .ok (.getfield 12, 3) := by decide +kernel
theorem dX4_against_15 : decode cX4_against 15 = .ok (.iload_n 2, 1) := by decide +kernel
theorem dX4_against_16 : decode cX4_against 16 = .ok (.invokevirtual 65, 3) := by decide +kernel
theorem dX4_against_19 : decode cX4_against 19 = .ok (.ifCond .eq 8, 3) := by decide +kernel
theorem dX4_against_22 : decode cX4_against 22 = .ok (.iload_n 1, 1) := by decide +kernel
theorem dX4_against_23 : decode cX4_against 23 = .ok (.iload_n 2, 1) := by decide +kernel
theorem dX4_against_24 : decode cX4_against 24 = .ok (.if_icmp .ne 10, 3) := by decide +kernel
theorem dX4_against_27 : decode cX4_against 27 = .ok (.aload_n 0, 1) := by decide +kernel
theorem dX4_against_28 : decode cX4_against 28 = .ok (.ldc 51, 2) := by decide +kernel
theorem dX4_against_30 : decode cX4_against 30 = .ok (.invokevirtual 52, 3) := by decide +kernel
theorem dX4_against_33 : decode cX4_against 33 = .ok (.ireturn, 1) := by decide +kernel
theorem dX4_against_34 : decode cX4_against 34 = .ok (.iconst 0, 1) := by decide +kernel
theorem dX4_against_35 : decode cX4_against 35 = .ok (.istore_n 3, 1) := by decide +kernel
theorem dX4_against_36 : decode cX4_against 36 = .ok (.iconst 0, 1) := by decide +kernel
theorem dX4_against_37 : decode cX4_against 37 = .ok (.istore 4, 2) := by decide +kernel
theorem dX4_against_39 : decode cX4_against 39 = .ok (.iconst 0, 1) := by decide +kernel
theorem dX4_against_40 : decode cX4_against 40 = .ok (.istore 5, 2) := by decide +kernel
theorem dX4_against_42 : decode cX4_against 42 = .ok (.iconst 0, 1) := by decide +kernel
theorem dX4_against_43 : decode cX4_against 43 = .ok (.istore 6, 2) := by decide +kernel
theorem dX4_against_45 : decode cX4_against 45 = .ok (.iload 6, 2) := by decide +kernel
theorem dX4_against_47 : decode cX4_against 47 = .ok (.aload_n 0, 1) := by decide +kernel
theorem dX4_against_48 : decode cX4_against 48 = .ok (.getfield 12, 3) := by decide +kernel
theorem dX4_against_51 : decode cX4_against 51 = .ok (.invokevirtual 153, 3) := by decide +kernel
theorem dX4_against_54 : decode cX4_against 54 = .ok (.if_icmp .ge 69, 3) := by decide +kernel
theorem dX4_against_57 : decode cX4_against 57 = .ok (.aload_n 0, 1) := by decide +kernel
theorem dX4_against_58 : decode cX4_against 58 = .ok (.getfield 12, 3) := by decide +kernel
theorem dX4_against_61 : decode cX4_against 61 = .ok (.iload 6, 2) := by decide +kernel
theorem dX4_against_63 : decode cX4_against 63 = .ok (.invokevirtual 123, 3) := by decide +kernel
theorem dX4_against_66 : decode cX4_against 66 = .ok (.ifCond .eq 51, 3) := by decide +kernel
theorem dX4_against_69 : decode cX4_against 69 = .ok (.iload_n 1, 1) := by decide +kernel
theorem dX4_against_70 : decode cX4_against 70 = .ok (.iload 6, 2) := by decide +kernel
theorem dX4_against_72 : decode cX4_against 72 = .ok (.invokestatic 179, 3) := by decide +kernel
theorem dX4_against_75 : decode cX4_against 75 = .ok (.istore 7, 2) := by decide +kernel
theorem dX4_against_77 : decode cX4_against 77 = .ok (.iload_n 2, 1) := by decide +kernel
theorem dX4_against_78 : decode cX4_against 78 = .ok (.iload 6, 2) := by decide +kernel
theorem dX4_against_80 : decode cX4_against 80 = .ok (.invokestatic 179, 3) := by decide +kernel
theorem dX4_against_83 : decode cX4_against 83 = .ok (.istore 8, 2) := by decide +kernel
theorem dX4_against_85 : decode cX4_against 85 = .ok (.iload_n 3, 1) := by decide +kernel
theorem dX4_against_86 : decode cX4_against 86 = .ok (.iload 7, 2) := by decide +kernel
theorem dX4_against_88 : decode cX4_against 88 = .ok (.ior, 1) := by decide +kernel
theorem dX4_against_89 : decode cX4_against 89 = .ok (.istore_n 3, 1) := by decide +kernel
theorem dX4_against_90 : decode cX4_against 90 = .ok (.iload 4, 2) := by decide +kernel
theorem dX4_against_92 : decode cX4_against 92 = .ok (.iload 8, 2) := by decide +kernel
theorem dX4_against_94 : decode cX4_against 94 = .ok (.ior, 1) := by decide +kernel
theorem dX4_against_95 : decode cX4_against 95 = .ok (.istore 4, 2) := by decide +kernel
theorem dX4_against_97 : decode cX4_against 97 = .ok (.iload 5, 2) := by decide +kernel
theorem dX4_against_99 : decode cX4_against 99 = .ok (.iload 7, 2) := by decide +kernel
theorem dX4_against_101 : decode cX4_against 101 = .ok (.ifCond .eq 12, 3) := by decide +kernel
theorem dX4_against_104 : decode cX4_against 104 = .ok (.iload 8, 2) := by decide +kernel
theorem dX4_against_106 : decode cX4_against 106 = .ok (.ifCond .eq 7, 3) := by decide +kernel
theorem dX4_against_109 : decode cX4_against 109 = .ok (.iconst 1, 1) := by decide +kernel
theorem dX4_against_110 : decode cX4_against 110 = .ok (.goto 4, 3) := by decide +kernel
theorem dX4_against_113 : decode cX4_against 113 = .ok (.iconst 0, 1) := by decide +kernel
theorem dX4_against_114 : decode cX4_against 114 = .ok (.ior, 1) := by decide +kernel
theorem dX4_against_115 : decode cX4_against 115 = .ok (.istore 5, 2) := by decide +kernel
theorem dX4_against_117 : decode cX4_against 117 = .ok (.iinc 6 1, 3) := by decide +kernel
theorem dX4_against_120 : decode cX4_against 120 = .ok (.goto (-75), 3) := by decide +kernel
theorem dX4_against_123 : decode cX4_against 123 = .ok (.iload_n 3, 1) := by decide +kernel
theorem dX4_against_124 : decode cX4_against 124 = .ok (.ifCond .eq 17, 3) := by decide +kernel
theorem dX4_against_127 : decode cX4_against 127 = .ok (.iload 4, 2) := by decide +kernel
theorem dX4_against_129 : decode cX4_against 129 = .ok (.ifCond .eq 12, 3) := by decide +kernel
theorem dX4_against_132 : decode cX4_against 132 = .ok (.iload 5, 2) := by decide +kernel
theorem dX4_against_134 : decode cX4_against 134 = .ok (.ifCond .ne 7, 3) := by decide +kernel
theorem dX4_against_137 : decode cX4_against 137 = .ok (.iconst 1, 1) := by decide +kernel
theorem dX4_against_138 : decode cX4_against 138 = .ok (.goto 4, 3) := by decide +kernel
theorem dX4_against_141 : decode cX4_against 141 = .ok (.iconst 0, 1) := by decide +kernel
theorem dX4_against_142 : decode cX4_against 142 = .ok (.invokestatic 84, 3) := by decide +kernel
theorem dX4_against_145 : decode cX4_against 145 = .ok (.ireturn, 1) := by decide +kernel
theorem dX4_minds_0 : decode cX4_minds 0 = .ok (.aload_n 0, 1) := by decide +kernel
theorem dX4_minds_1 : decode cX4_minds 1 = .ok (.getfield 12, 3) := by decide +kernel
theorem dX4_minds_4 : decode cX4_minds 4 = .ok (.iload_n 1, 1) := by decide +kernel
theorem dX4_minds_5 : decode cX4_minds 5 = .ok (.invokevirtual 65, 3) := by decide +kernel
theorem dX4_minds_8 : decode cX4_minds 8 = .ok (.ifCond .ne 10, 3) := by decide +kernel
theorem dX4_minds_11 : decode cX4_minds 11 = .ok (.aload_n 0, 1) := by decide +kernel
theorem dX4_minds_12 : decode cX4_minds 12 = .ok (.ldc 51, 2) := by decide +kernel
theorem dX4_minds_14 : decode cX4_minds 14 = .ok (.invokevirtual 52, 3) := by decide +kernel
theorem dX4_minds_17 : decode cX4_minds 17 = .ok (.ireturn, 1) := by decide +kernel
theorem dX4_minds_18 : decode cX4_minds 18 = .ok (.iconst 1, 1) := by decide +kernel
theorem dX4_minds_19 : decode cX4_minds 19 = .ok (.iload_n 1, 1) := by decide +kernel
theorem dX4_minds_20 : decode cX4_minds 20 = .ok (.ishl, 1) := by decide +kernel
theorem dX4_minds_21 : decode cX4_minds 21 = .ok (.istore_n 2, 1) := by decide +kernel
theorem dX4_minds_22 : decode cX4_minds 22 = .ok (.iconst 0, 1) := by decide +kernel
theorem dX4_minds_23 : decode cX4_minds 23 = .ok (.istore_n 3, 1) := by decide +kernel
theorem dX4_minds_24 : decode cX4_minds 24 = .ok (.iconst 0, 1) := by decide +kernel
theorem dX4_minds_25 : decode cX4_minds 25 = .ok (.istore 4, 2) := by decide +kernel
theorem dX4_minds_27 : decode cX4_minds 27 = .ok (.iload 4, 2) := by decide +kernel
theorem dX4_minds_29 : decode cX4_minds 29 = .ok (.aload_n 0, 1) := by decide +kernel
theorem dX4_minds_30 : decode cX4_minds 30 = .ok (.getfield 12, 3) := by decide +kernel
theorem dX4_minds_33 : decode cX4_minds 33 = .ok (.invokevirtual 153, 3) := by decide +kernel
theorem dX4_minds_36 : decode cX4_minds 36 = .ok (.if_icmp .ge 37, 3) := by decide +kernel
theorem dX4_minds_39 : decode cX4_minds 39 = .ok (.iload_n 3, 1) := by decide +kernel
theorem dX4_minds_40 : decode cX4_minds 40 = .ok (.aload_n 0, 1) := by decide +kernel
theorem dX4_minds_41 : decode cX4_minds 41 = .ok (.getfield 12, 3) := by decide +kernel
theorem dX4_minds_44 : decode cX4_minds 44 = .ok (.iload 4, 2) := by decide +kernel
theorem dX4_minds_46 : decode cX4_minds 46 = .ok (.iload_n 2, 1) := by decide +kernel
theorem dX4_minds_47 : decode cX4_minds 47 = .ok (.ior, 1) := by decide +kernel
theorem dX4_minds_48 : decode cX4_minds 48 = .ok (.invokevirtual 77, 3) := by decide +kernel
theorem dX4_minds_51 : decode cX4_minds 51 = .ok (.aload_n 0, 1) := by decide +kernel
theorem dX4_minds_52 : decode cX4_minds 52 = .ok (.getfield 12, 3) := by decide +kernel
theorem dX4_minds_55 : decode cX4_minds 55 = .ok (.iload 4, 2) := by decide +kernel
theorem dX4_minds_57 : decode cX4_minds 57 = .ok (.iload_n 2, 1) := by decide +kernel
theorem dX4_minds_58 : decode cX4_minds 58 = .ok (.iconst (-1), 1) := by decide +kernel
theorem dX4_minds_59 : decode cX4_minds 59 = .ok (.ixor, 1) := by decide +kernel
theorem dX4_minds_60 : decode cX4_minds 60 = .ok (.iand, 1) := by decide +kernel
theorem dX4_minds_61 : decode cX4_minds 61 = .ok (.invokevirtual 77, 3) := by decide +kernel
theorem dX4_minds_64 : decode cX4_minds 64 = .ok (.ixor, 1) := by decide +kernel
theorem dX4_minds_65 : decode cX4_minds 65 = .ok (.ior, 1) := by decide +kernel
theorem dX4_minds_66 : decode cX4_minds 66 = .ok (.istore_n 3, 1) := by decide +kernel
theorem dX4_minds_67 : decode cX4_minds 67 = .ok (.iinc 4 1, 3) := by decide +kernel
theorem dX4_minds_70 : decode cX4_minds 70 = .ok (.goto (-43), 3) := by decide +kernel
theorem dX4_minds_73 : decode cX4_minds 73 = .ok (.iload_n 3, 1) := by decide +kernel
theorem dX4_minds_74 : decode cX4_minds 74 = .ok (.iload_n 2, 1) := by decide +kernel
theorem dX4_minds_75 : decode cX4_minds 75 = .ok (.iconst (-1), 1) := by decide +kernel
theorem dX4_minds_76 : decode cX4_minds 76 = .ok (.ixor, 1) := by decide +kernel
theorem dX4_minds_77 : decode cX4_minds 77 = .ok (.iand, 1) := by decide +kernel
theorem dX4_minds_78 : decode cX4_minds 78 = .ok (.ireturn, 1) := by decide +kernel
theorem dX4_kind_0 : decode cX4_kind 0 = .ok (.aload_n 0, 1) := by decide +kernel
theorem dX4_kind_1 : decode cX4_kind 1 = .ok (.getfield 12, 3) := by decide +kernel
theorem dX4_kind_4 : decode cX4_kind 4 = .ok (.iload_n 1, 1) := by decide +kernel
theorem dX4_kind_5 : decode cX4_kind 5 = .ok (.invokevirtual 65, 3) := by decide +kernel
theorem dX4_kind_8 : decode cX4_kind 8 = .ok (.ifCond .ne 10, 3) := by decide +kernel
theorem dX4_kind_11 : decode cX4_kind 11 = .ok (.aload_n 0, 1) := by decide +kernel
theorem dX4_kind_12 : decode cX4_kind 12 = .ok (.ldc 51, 2) := by decide +kernel
theorem dX4_kind_14 : decode cX4_kind 14 = .ok (.invokevirtual 52, 3) := by decide +kernel
theorem dX4_kind_17 : decode cX4_kind 17 = .ok (.ireturn, 1) := by decide +kernel
theorem dX4_kind_18 : decode cX4_kind 18 = .ok (.iconst 0, 1) := by decide +kernel
theorem dX4_kind_19 : decode cX4_kind 19 = .ok (.istore_n 2, 1) := by decide +kernel
theorem dX4_kind_20 : decode cX4_kind 20 = .ok (.iconst (-1), 1) := by decide +kernel
theorem dX4_kind_21 : decode cX4_kind 21 = .ok (.istore_n 3, 1) := by decide +kernel
theorem dX4_kind_22 : decode cX4_kind 22 = .ok (.iconst 0, 1) := by decide +kernel
theorem dX4_kind_23 : decode cX4_kind 23 = .ok (.istore 4, 2) := by decide +kernel
theorem dX4_kind_25 : decode cX4_kind 25 = .ok (.iload 4, 2) := by decide +kernel
theorem dX4_kind_27 : decode cX4_kind 27 = .ok (.bipush 6, 2) := by decide +kernel
theorem dX4_kind_29 : decode cX4_kind 29 = .ok (.if_icmp .ge 33, 3) := by decide +kernel
theorem dX4_kind_32 : decode cX4_kind 32 = .ok (.aload_n 0, 1) := by decide +kernel
theorem dX4_kind_33 : decode cX4_kind 33 = .ok (.getfield 12, 3) := by decide +kernel
theorem dX4_kind_36 : decode cX4_kind 36 = .ok (.iload_n 1, 1) := by decide +kernel
theorem dX4_kind_37 : decode cX4_kind 37 = .ok (.iload 4, 2) := by decide +kernel
theorem dX4_kind_39 : decode cX4_kind 39 = .ok (.invokevirtual 182, 3) := by decide +kernel
theorem dX4_kind_42 : decode cX4_kind 42 = .ok (.istore 5, 2) := by decide +kernel
theorem dX4_kind_44 : decode cX4_kind 44 = .ok (.iload 5, 2) := by decide +kernel
theorem dX4_kind_46 : decode cX4_kind 46 = .ok (.iload_n 3, 1) := by decide +kernel
theorem dX4_kind_47 : decode cX4_kind 47 = .ok (.if_icmp .le 9, 3) := by decide +kernel
theorem dX4_kind_50 : decode cX4_kind 50 = .ok (.iload 5, 2) := by decide +kernel
theorem dX4_kind_52 : decode cX4_kind 52 = .ok (.istore_n 3, 1) := by decide +kernel
theorem dX4_kind_53 : decode cX4_kind 53 = .ok (.iload 4, 2) := by decide +kernel
theorem dX4_kind_55 : decode cX4_kind 55 = .ok (.istore_n 2, 1) := by decide +kernel
theorem dX4_kind_56 : decode cX4_kind 56 = .ok (.iinc 4 1, 3) := by decide +kernel
theorem dX4_kind_59 : decode cX4_kind 59 = .ok (.goto (-34), 3) := by decide +kernel
theorem dX4_kind_62 : decode cX4_kind 62 = .ok (.iload_n 2, 1) := by decide +kernel
theorem dX4_kind_63 : decode cX4_kind 63 = .ok (.ireturn, 1) := by decide +kernel
theorem dX4_sheet_0 : decode cX4_sheet 0 = .ok (.iload_n 1, 1) := by decide +kernel
theorem dX4_sheet_1 : decode cX4_sheet 1 = .ok (.invokestatic 185, 3) := by decide +kernel
theorem dX4_sheet_4 : decode cX4_sheet 4 = .ok (.ifCond .eq 25, 3) := by decide +kernel
theorem dX4_sheet_7 : decode cX4_sheet 7 = .ok (.iload_n 2, 1) := by decide +kernel
theorem dX4_sheet_8 : decode cX4_sheet 8 = .ok (.ifCond .eq 28, 3) := by decide +kernel
theorem dX4_sheet_11 : decode cX4_sheet 11 = .ok (.iload_n 2, 1) := by decide +kernel
theorem dX4_sheet_12 : decode cX4_sheet 12 = .ok (.bipush 8, 2) := by decide +kernel
theorem dX4_sheet_14 : decode cX4_sheet 14 = .ok (.if_icmp .eq 22, 3) := by decide +kernel
theorem dX4_sheet_17 : decode cX4_sheet 17 = .ok (.iload_n 2, 1) := by decide +kernel
theorem dX4_sheet_18 : decode cX4_sheet 18 = .ok (.bipush 16, 2) := by decide +kernel
theorem dX4_sheet_20 : decode cX4_sheet 20 = .ok (.if_icmp .eq 16, 3) := by decide +kernel
theorem dX4_sheet_23 : decode cX4_sheet 23 = .ok (.iload_n 2, 1) := by decide +kernel
theorem dX4_sheet_24 : decode cX4_sheet 24 = .ok (.bipush 64, 2) := by decide +kernel
theorem dX4_sheet_26 : decode cX4_sheet 26 = .ok (.if_icmp .eq 10, 3) := by decide +kernel
theorem dX4_sheet_29 : decode cX4_sheet 29 = .ok (.aload_n 0, 1) := by decide +kernel
theorem dX4_sheet_30 : decode cX4_sheet 30 = .ok (.ldc 51, 2) := by decide +kernel
theorem dX4_sheet_32 : decode cX4_sheet 32 = .ok (.invokevirtual 52, 3) := by decide +kernel
theorem dX4_sheet_35 : decode cX4_sheet 35 = .ok (.ireturn, 1) := by decide +kernel
theorem dX4_sheet_36 : decode cX4_sheet 36 = .ok (.iload_n 3, 1) := by decide +kernel
theorem dX4_sheet_37 : decode cX4_sheet 37 = .ok (.ifCond .ge 10, 3) := by decide +kernel
theorem dX4_sheet_40 : decode cX4_sheet 40 = .ok (.aload_n 0, 1) := by decide +kernel
theorem dX4_sheet_41 : decode cX4_sheet 41 = .ok (.ldc 188, 2) := by decide +kernel
theorem dX4_sheet_43 : decode cX4_sheet 43 = .ok (.invokevirtual 52, 3) := by decide +kernel
theorem dX4_sheet_46 : decode cX4_sheet 46 = .ok (.ireturn, 1) := by decide +kernel
theorem dX4_sheet_47 : decode cX4_sheet 47 = .ok (.iload_n 3, 1) := by decide +kernel
theorem dX4_sheet_48 : decode cX4_sheet 48 = .ok (.bipush 40, 2) := by decide +kernel
theorem dX4_sheet_50 : decode cX4_sheet 50 = .ok (.if_icmp .le 12, 3) := by decide +kernel
theorem dX4_sheet_53 : decode cX4_sheet 53 = .ok (.aload_n 0, 1) := by decide +kernel
theorem dX4_sheet_54 : decode cX4_sheet 54 = .ok (.ldc 51, 2) := by decide +kernel
theorem dX4_sheet_56 : decode cX4_sheet 56 = .ok (.invokevirtual 52, 3) := by decide +kernel
theorem dX4_sheet_59 : decode cX4_sheet 59 = .ok (.goto 14, 3) := by decide +kernel
theorem dX4_sheet_62 : decode cX4_sheet 62 = .ok (.aload_n 0, 1) := by decide +kernel
theorem dX4_sheet_63 : decode cX4_sheet 63 = .ok (.getfield 35, 3) := by decide +kernel
theorem dX4_sheet_66 : decode cX4_sheet 66 = .ok (.iload_n 1, 1) := by decide +kernel
theorem dX4_sheet_67 : decode cX4_sheet 67 = .ok (.aaload, 1) := by decide +kernel
theorem dX4_sheet_68 : decode cX4_sheet 68 = .ok (.iload_n 2, 1) := by decide +kernel
theorem dX4_sheet_69 : decode cX4_sheet 69 = .ok (.iload_n 3, 1) := by decide +kernel
theorem dX4_sheet_70 : decode cX4_sheet 70 = .ok (.invokevirtual 189, 3) := by decide +kernel
theorem dX4_sheet_73 : decode cX4_sheet 73 = .ok (.ireturn, 1) := by decide +kernel
theorem dX4_write_0 : decode cX4_write 0 = .ok (.aload_n 0, 1) := by decide +kernel
theorem dX4_write_1 : decode cX4_write 1 = .ok (.iload_n 1, 1) := by decide +kernel
theorem dX4_write_2 : decode cX4_write 2 = .ok (.invokevirtual 192, 3) := by decide +kernel
theorem dX4_write_5 : decode cX4_write 5 = .ok (.istore 5, 2) := by decide +kernel
theorem dX4_write_7 : decode cX4_write 7 = .ok (.iload 5, 2) := by decide +kernel
theorem dX4_write_9 : decode cX4_write 9 = .ok (.ifCond .eq 11, 3) := by decide +kernel
theorem dX4_write_12 : decode cX4_write 12 = .ok (.aload_n 0, 1) := by decide +kernel
theorem dX4_write_13 : decode cX4_write 13 = .ok (.iload 5, 2) := by decide +kernel
theorem dX4_write_15 : decode cX4_write 15 = .ok (.invokevirtual 52, 3) := by decide +kernel
theorem dX4_write_18 : decode cX4_write 18 = .ok (.i2l, 1) := by decide +kernel
theorem dX4_write_19 : decode cX4_write 19 = .ok (.lreturn, 1) := by decide +kernel
theorem dX4_write_20 : decode cX4_write 20 = .ok (.iload_n 2, 1) := by decide +kernel
theorem dX4_write_21 : decode cX4_write 21 = .ok (.ifCond .lt 16, 3) := by decide +kernel
theorem dX4_write_24 : decode cX4_write 24 = .ok (.iload_n 2, 1) := by decide +kernel
theorem dX4_write_25 : decode cX4_write 25 = .ok (.aload_n 0, 1) := by decide +kernel
theorem dX4_write_26 : decode cX4_write 26 = .ok (.getfield 35, 3) := by decide +kernel
theorem dX4_write_29 : decode cX4_write 29 = .ok (.iload_n 1, 1) := by decide +kernel
theorem dX4_write_30 : decode cX4_write 30 = .ok (.aaload, 1) := by decide +kernel
theorem dX4_write_31 : decode cX4_write 31 = .ok (.getfield 195, 3) := by decide +kernel
theorem dX4_write_34 : decode cX4_write 34 = .ok (.if_icmp .lt 11, 3) := by decide +kernel
theorem dX4_write_37 : decode cX4_write 37 = .ok (.aload_n 0, 1) := by decide +kernel
theorem dX4_write_38 : decode cX4_write 38 = .ok (.ldc 51, 2) := by decide +kernel
theorem dX4_write_40 : decode cX4_write 40 = .ok (.invokevirtual 52, 3) := by decide +kernel
theorem dX4_write_43 : decode cX4_write 43 = .ok (.i2l, 1) := by decide +kernel
theorem dX4_write_44 : decode cX4_write 44 = .ok (.lreturn, 1) := by decide +kernel
theorem dX4_write_45 : decode cX4_write 45 = .ok (.aload_n 0, 1) := by decide +kernel
theorem dX4_write_46 : decode cX4_write 46 = .ok (.getfield 35, 3) := by decide +kernel
theorem dX4_write_49 : decode cX4_write 49 = .ok (.iload_n 1, 1) := by decide +kernel
theorem dX4_write_50 : decode cX4_write 50 = .ok (.aaload, 1) := by decide +kernel
theorem dX4_write_51 : decode cX4_write 51 = .ok (.iload_n 2, 1) := by decide +kernel
theorem dX4_write_52 : decode cX4_write 52 = .ok (.lload_n 3, 1) := by decide +kernel
theorem dX4_write_53 : decode cX4_write 53 = .ok (.invokevirtual 196, 3) := by decide +kernel
theorem dX4_write_56 : decode cX4_write 56 = .ok (.lreturn, 1) := by decide +kernel
theorem dX4_copy_0 : decode cX4_copy 0 = .ok (.iload_n 1, 1) := by decide +kernel
theorem dX4_copy_1 : decode cX4_copy 1 = .ok (.invokestatic 185, 3) := by decide +kernel
theorem dX4_copy_4 : decode cX4_copy 4 = .ok (.ifCond .eq 10, 3) := by decide +kernel
theorem dX4_copy_7 : decode cX4_copy 7 = .ok (.iload_n 3, 1) := by decide +kernel
theorem dX4_copy_8 : decode cX4_copy 8 = .ok (.invokestatic 185, 3) := by decide +kernel
theorem dX4_copy_11 : decode cX4_copy 11 = .ok (.ifCond .ne 10, 3) := by decide +kernel
theorem dX4_copy_14 : decode cX4_copy 14 = .ok (.aload_n 0, 1) := by decide +kernel
theorem dX4_copy_15 : decode cX4_copy 15 = .ok (.ldc 51, 2) := by decide +kernel
theorem dX4_copy_17 : decode cX4_copy 17 = .ok (.invokevirtual 52, 3) := by decide +kernel
theorem dX4_copy_20 : decode cX4_copy 20 = .ok (.ireturn, 1) := by decide +kernel
theorem dX4_copy_21 : decode cX4_copy 21 = .ok (.aload_n 0, 1) := by decide +kernel
theorem dX4_copy_22 : decode cX4_copy 22 = .ok (.getfield 35, 3) := by decide +kernel
theorem dX4_copy_25 : decode cX4_copy 25 = .ok (.iload_n 1, 1) := by decide +kernel
theorem dX4_copy_26 : decode cX4_copy 26 = .ok (.aaload, 1) := by decide +kernel
theorem dX4_copy_27 : decode cX4_copy 27 = .ok (.invokevirtual 200, 3) := by decide +kernel
theorem dX4_copy_30 : decode cX4_copy 30 = .ok (.ifCond .ne 15, 3) := by decide +kernel
theorem dX4_copy_33 : decode cX4_copy 33 = .ok (.aload_n 0, 1) := by decide +kernel
theorem dX4_copy_34 : decode cX4_copy 34 = .ok (.getfield 35, 3) := by decide +kernel
theorem dX4_copy_37 : decode cX4_copy 37 = .ok (.iload_n 3, 1) := by decide +kernel
theorem dX4_copy_38 : decode cX4_copy 38 = .ok (.aaload, 1) := by decide +kernel
theorem dX4_copy_39 : decode cX4_copy 39 = .ok (.invokevirtual 200, 3) := by decide +kernel
theorem dX4_copy_42 : decode cX4_copy 42 = .ok (.ifCond .eq 10, 3) := by decide +kernel
theorem dX4_copy_45 : decode cX4_copy 45 = .ok (.aload_n 0, 1) := by decide +kernel
theorem dX4_copy_46 : decode cX4_copy 46 = .ok (.ldc 204, 2) := by decide +kernel
theorem dX4_copy_48 : decode cX4_copy 48 = .ok (.invokevirtual 52, 3) := by decide +kernel
theorem dX4_copy_51 : decode cX4_copy 51 = .ok (.ireturn, 1) := by decide +kernel
theorem dX4_copy_52 : decode cX4_copy 52 = .ok (.aload_n 0, 1) := by decide +kernel
theorem dX4_copy_53 : decode cX4_copy 53 = .ok (.getfield 35, 3) := by decide +kernel
theorem dX4_copy_56 : decode cX4_copy 56 = .ok (.iload_n 1, 1) := by decide +kernel
theorem dX4_copy_57 : decode cX4_copy 57 = .ok (.aaload, 1) := by decide +kernel
theorem dX4_copy_58 : decode cX4_copy 58 = .ok (.getfield 205, 3) := by decide +kernel
theorem dX4_copy_61 : decode cX4_copy 61 = .ok (.aload_n 0, 1) := by decide +kernel
theorem dX4_copy_62 : decode cX4_copy 62 = .ok (.getfield 35, 3) := by decide +kernel
theorem dX4_copy_65 : decode cX4_copy 65 = .ok (.iload_n 3, 1) := by decide +kernel
theorem dX4_copy_66 : decode cX4_copy 66 = .ok (.aaload, 1) := by decide +kernel
theorem dX4_copy_67 : decode cX4_copy 67 = .ok (.getfield 205, 3) := by decide +kernel
theorem dX4_copy_70 : decode cX4_copy 70 = .ok (.if_icmp .eq 10, 3) := by decide +kernel
theorem dX4_copy_73 : decode cX4_copy 73 = .ok (.aload_n 0, 1) := by decide +kernel
theorem dX4_copy_74 : decode cX4_copy 74 = .ok (.ldc 97, 2) := by decide +kernel
theorem dX4_copy_76 : decode cX4_copy 76 = .ok (.invokevirtual 52, 3) := by decide +kernel
theorem dX4_copy_79 : decode cX4_copy 79 = .ok (.ireturn, 1) := by decide +kernel
theorem dX4_copy_80 : decode cX4_copy 80 = .ok (.aload_n 0, 1) := by decide +kernel
theorem dX4_copy_81 : decode cX4_copy 81 = .ok (.getfield 35, 3) := by decide +kernel
theorem dX4_copy_84 : decode cX4_copy 84 = .ok (.iload_n 1, 1) := by decide +kernel
theorem dX4_copy_85 : decode cX4_copy 85 = .ok (.aaload, 1) := by decide +kernel
theorem dX4_copy_86 : decode cX4_copy 86 = .ok (.iload_n 2, 1) := by decide +kernel
theorem dX4_copy_87 : decode cX4_copy 87 = .ok (.iload 5, 2) := by decide +kernel
theorem dX4_copy_89 : decode cX4_copy 89 = .ok (.invokevirtual 208, 3) := by decide +kernel
theorem dX4_copy_92 : decode cX4_copy 92 = .ok (.ifCond .eq 19, 3) := by decide +kernel
theorem dX4_copy_95 : decode cX4_copy 95 = .ok (.aload_n 0, 1) := by decide +kernel
theorem dX4_copy_96 : decode cX4_copy 96 = .ok (.getfield 35, 3) := by decide +kernel
theorem dX4_copy_99 : decode cX4_copy 99 = .ok (.iload_n 3, 1) := by decide +kernel
theorem dX4_copy_100 : decode cX4_copy 100 = .ok (.aaload, 1) := by decide +kernel
theorem dX4_copy_101 : decode cX4_copy 101 = .ok (.iload 4, 2) := by decide +kernel
theorem dX4_copy_103 : decode cX4_copy 103 = .ok (.iload 5, 2) := by decide +kernel
theorem dX4_copy_105 : decode cX4_copy 105 = .ok (.invokevirtual 208, 3) := by decide +kernel
theorem dX4_copy_108 : decode cX4_copy 108 = .ok (.ifCond .ne 10, 3) := by decide +kernel
theorem dX4_copy_111 : decode cX4_copy 111 = .ok (.aload_n 0, 1) := by decide +kernel
theorem dX4_copy_112 : decode cX4_copy 112 = .ok (.ldc 51, 2) := by decide +kernel
theorem dX4_copy_114 : decode cX4_copy 114 = .ok (.invokevirtual 52, 3) := by decide +kernel
theorem dX4_copy_117 : decode cX4_copy 117 = .ok (.ireturn, 1) := by decide +kernel
theorem dX4_copy_118 : decode cX4_copy 118 = .ok (.aload_n 0, 1) := by decide +kernel
theorem dX4_copy_119 : decode cX4_copy 119 = .ok (.getfield 35, 3) := by decide +kernel
theorem dX4_copy_122 : decode cX4_copy 122 = .ok (.iload_n 1, 1) := by decide +kernel
theorem dX4_copy_123 : decode cX4_copy 123 = .ok (.aaload, 1) := by decide +kernel
theorem dX4_copy_124 : decode cX4_copy 124 = .ok (.getfield 211, 3) := by decide +kernel
theorem dX4_copy_127 : decode cX4_copy 127 = .ok (.iload_n 2, 1) := by decide +kernel
theorem dX4_copy_128 : decode cX4_copy 128 = .ok (.aload_n 0, 1) := by decide +kernel
theorem dX4_copy_129 : decode cX4_copy 129 = .ok (.getfield 35, 3) := by decide +kernel
theorem dX4_copy_132 : decode cX4_copy 132 = .ok (.iload_n 3, 1) := by decide +kernel
theorem dX4_copy_133 : decode cX4_copy 133 = .ok (.aaload, 1) := by decide +kernel
theorem dX4_copy_134 : decode cX4_copy 134 = .ok (.getfield 211, 3) := by decide +kernel
theorem dX4_copy_137 : decode cX4_copy 137 = .ok (.iload 4, 2) := by decide +kernel
theorem dX4_copy_139 : decode cX4_copy 139 = .ok (.iload 5, 2) := by decide +kernel
theorem dX4_copy_141 : decode cX4_copy 141 = .ok (.invokestatic 215, 3) := by decide +kernel
theorem dX4_copy_144 : decode cX4_copy 144 = .ok (.iload 5, 2) := by decide +kernel
theorem dX4_copy_146 : decode cX4_copy 146 = .ok (.ireturn, 1) := by decide +kernel
theorem dX4_lays_0 : decode cX4_lays 0 = .ok (.aload_n 0, 1) := by decide +kernel
theorem dX4_lays_1 : decode cX4_lays 1 = .ok (.iload_n 1, 1) := by decide +kernel
theorem dX4_lays_2 : decode cX4_lays 2 = .ok (.invokevirtual 192, 3) := by decide +kernel
theorem dX4_lays_5 : decode cX4_lays 5 = .ok (.istore_n 2, 1) := by decide +kernel
theorem dX4_lays_6 : decode cX4_lays 6 = .ok (.iload_n 2, 1) := by decide +kernel
theorem dX4_lays_7 : decode cX4_lays 7 = .ok (.ifCond .eq 9, 3) := by decide +kernel
theorem dX4_lays_10 : decode cX4_lays 10 = .ok (.aload_n 0, 1) := by decide +kernel
theorem dX4_lays_11 : decode cX4_lays 11 = .ok (.iload_n 2, 1) := by decide +kernel
theorem dX4_lays_12 : decode cX4_lays 12 = .ok (.invokevirtual 52, 3) := by decide +kernel
theorem dX4_lays_15 : decode cX4_lays 15 = .ok (.ireturn, 1) := by decide +kernel
theorem dX4_lays_16 : decode cX4_lays 16 = .ok (.iconst 0, 1) := by decide +kernel
theorem dX4_lays_17 : decode cX4_lays 17 = .ok (.istore_n 3, 1) := by decide +kernel
theorem dX4_lays_18 : decode cX4_lays 18 = .ok (.iconst 0, 1) := by decide +kernel
theorem dX4_lays_19 : decode cX4_lays 19 = .ok (.istore 4, 2) := by decide +kernel
theorem dX4_lays_21 : decode cX4_lays 21 = .ok (.iload 4, 2) := by decide +kernel
theorem dX4_lays_23 : decode cX4_lays 23 = .ok (.aload_n 0, 1) := by decide +kernel
theorem dX4_lays_24 : decode cX4_lays 24 = .ok (.getfield 12, 3) := by decide +kernel
theorem dX4_lays_27 : decode cX4_lays 27 = .ok (.getfield 56, 3) := by decide +kernel
theorem dX4_lays_30 : decode cX4_lays 30 = .ok (.if_icmp .ge 47, 3) := by decide +kernel
theorem dX4_lays_33 : decode cX4_lays 33 = .ok (.iload 4, 2) := by decide +kernel
theorem dX4_lays_35 : decode cX4_lays 35 = .ok (.aload_n 0, 1) := by decide +kernel
theorem dX4_lays_36 : decode cX4_lays 36 = .ok (.getfield 35, 3) := by decide +kernel
theorem dX4_lays_39 : decode cX4_lays 39 = .ok (.iload_n 1, 1) := by decide +kernel
theorem dX4_lays_40 : decode cX4_lays 40 = .ok (.aaload, 1) := by decide +kernel
theorem dX4_lays_41 : decode cX4_lays 41 = .ok (.getfield 195, 3) := by decide +kernel
theorem dX4_lays_44 : decode cX4_lays 44 = .ok (.if_icmp .ge 33, 3) := by decide +kernel
theorem dX4_lays_47 : decode cX4_lays 47 = .ok (.aload_n 0, 1) := by decide +kernel
theorem dX4_lays_48 : decode cX4_lays 48 = .ok (.getfield 35, 3) := by decide +kernel
theorem dX4_lays_51 : decode cX4_lays 51 = .ok (.iload_n 1, 1) := by decide +kernel
theorem dX4_lays_52 : decode cX4_lays 52 = .ok (.aaload, 1) := by decide +kernel
theorem dX4_lays_53 : decode cX4_lays 53 = .ok (.getfield 211, 3) := by decide +kernel
theorem dX4_lays_56 : decode cX4_lays 56 = .ok (.iload 4, 2) := by decide +kernel
theorem dX4_lays_58 : decode cX4_lays 58 = .ok (.laload, 1) := by decide +kernel
theorem dX4_lays_59 : decode cX4_lays 59 = .ok (.lconst 0, 1) := by decide +kernel
theorem dX4_lays_60 : decode cX4_lays 60 = .ok (.lcmp, 1) := by decide +kernel
theorem dX4_lays_61 : decode cX4_lays 61 = .ok (.ifCond .eq 10, 3) := by decide +kernel
theorem dX4_lays_64 : decode cX4_lays 64 = .ok (.iload_n 3, 1) := by decide +kernel
theorem dX4_lays_65 : decode cX4_lays 65 = .ok (.iconst 1, 1) := by decide +kernel
theorem dX4_lays_66 : decode cX4_lays 66 = .ok (.iload 4, 2) := by decide +kernel
theorem dX4_lays_68 : decode cX4_lays 68 = .ok (.ishl, 1) := by decide +kernel
theorem dX4_lays_69 : decode cX4_lays 69 = .ok (.ior, 1) := by decide +kernel
theorem dX4_lays_70 : decode cX4_lays 70 = .ok (.istore_n 3, 1) := by decide +kernel
theorem dX4_lays_71 : decode cX4_lays 71 = .ok (.iinc 4 1, 3) := by decide +kernel
theorem dX4_lays_74 : decode cX4_lays 74 = .ok (.goto (-53), 3) := by decide +kernel
theorem dX4_lays_77 : decode cX4_lays 77 = .ok (.aload_n 0, 1) := by decide +kernel
theorem dX4_lays_78 : decode cX4_lays 78 = .ok (.getfield 12, 3) := by decide +kernel
theorem dX4_lays_81 : decode cX4_lays 81 = .ok (.iload_n 3, 1) := by decide +kernel
theorem dX4_lays_82 : decode cX4_lays 82 = .ok (.putfield 74, 3) := by decide +kernel
theorem dX4_lays_85 : decode cX4_lays 85 = .ok (.iload_n 3, 1) := by decide +kernel
theorem dX4_lays_86 : decode cX4_lays 86 = .ok (.ireturn, 1) := by decide +kernel
theorem dX4_book_0 : decode cX4_book 0 = .ok (.aload_n 0, 1) := by decide +kernel
theorem dX4_book_1 : decode cX4_book 1 = .ok (.iload_n 1, 1) := by decide +kernel
theorem dX4_book_2 : decode cX4_book 2 = .ok (.invokevirtual 192, 3) := by decide +kernel
theorem dX4_book_5 : decode cX4_book 5 = .ok (.istore_n 2, 1) := by decide +kernel
theorem dX4_book_6 : decode cX4_book 6 = .ok (.iload_n 2, 1) := by decide +kernel
theorem dX4_book_7 : decode cX4_book 7 = .ok (.ifCond .eq 9, 3) := by decide +kernel
theorem dX4_book_10 : decode cX4_book 10 = .ok (.aload_n 0, 1) := by decide +kernel
theorem dX4_book_11 : decode cX4_book 11 = .ok (.iload_n 2, 1) := by decide +kernel
theorem dX4_book_12 : decode cX4_book 12 = .ok (.invokevirtual 52, 3) := by decide +kernel
theorem dX4_book_15 : decode cX4_book 15 = .ok (.ireturn, 1) := by decide +kernel
theorem dX4_book_16 : decode cX4_book 16 = .ok (.aload_n 0, 1) := by decide +kernel
theorem dX4_book_17 : decode cX4_book 17 = .ok (.getfield 12, 3) := by decide +kernel
theorem dX4_book_20 : decode cX4_book 20 = .ok (.getfield 74, 3) := by decide +kernel
theorem dX4_book_23 : decode cX4_book 23 = .ok (.istore_n 3, 1) := by decide +kernel
theorem dX4_book_24 : decode cX4_book 24 = .ok (.iconst 0, 1) := by decide +kernel
theorem dX4_book_25 : decode cX4_book 25 = .ok (.istore 4, 2) := by decide +kernel
theorem dX4_book_27 : decode cX4_book 27 = .ok (.iload 4, 2) := by decide +kernel
theorem dX4_book_29 : decode cX4_book 29 = .ok (.aload_n 0, 1) := by decide +kernel
theorem dX4_book_30 : decode cX4_book 30 = .ok (.getfield 35, 3) := by decide +kernel
theorem dX4_book_33 : decode cX4_book 33 = .ok (.iload_n 1, 1) := by decide +kernel
theorem dX4_book_34 : decode cX4_book 34 = .ok (.aaload, 1) := by decide +kernel
theorem dX4_book_35 : decode cX4_book 35 = .ok (.getfield 195, 3) := by decide +kernel
theorem dX4_book_38 : decode cX4_book 38 = .ok (.if_icmp .ge 32, 3) := by decide +kernel
theorem dX4_book_41 : decode cX4_book 41 = .ok (.aload_n 0, 1) := by decide +kernel
theorem dX4_book_42 : decode cX4_book 42 = .ok (.getfield 35, 3) := by decide +kernel
theorem dX4_book_45 : decode cX4_book 45 = .ok (.iload_n 1, 1) := by decide +kernel
theorem dX4_book_46 : decode cX4_book 46 = .ok (.aaload, 1) := by decide +kernel
theorem dX4_book_47 : decode cX4_book 47 = .ok (.iload 4, 2) := by decide +kernel
theorem dX4_book_49 : decode cX4_book 49 = .ok (.iload_n 3, 1) := by decide +kernel
theorem dX4_book_50 : decode cX4_book 50 = .ok (.i2l, 1) := by decide +kernel
theorem dX4_book_51 : decode cX4_book 51 = .ok (.invokevirtual 196, 3) := by decide +kernel
theorem dX4_book_54 : decode cX4_book 54 = .ok (.pop2, 1) := by decide +kernel
theorem dX4_book_55 : decode cX4_book 55 = .ok (.aload_n 0, 1) := by decide +kernel
theorem dX4_book_56 : decode cX4_book 56 = .ok (.getfield 12, 3) := by decide +kernel
theorem dX4_book_59 : decode cX4_book 59 = .ok (.iload_n 3, 1) := by decide +kernel
theorem dX4_book_60 : decode cX4_book 60 = .ok (.invokevirtual 77, 3) := by decide +kernel
theorem dX4_book_63 : decode cX4_book 63 = .ok (.istore_n 3, 1) := by decide +kernel
theorem dX4_book_64 : decode cX4_book 64 = .ok (.iinc 4 1, 3) := by decide +kernel
theorem dX4_book_67 : decode cX4_book 67 = .ok (.goto (-40), 3) := by decide +kernel
theorem dX4_book_70 : decode cX4_book 70 = .ok (.aload_n 0, 1) := by decide +kernel
theorem dX4_book_71 : decode cX4_book 71 = .ok (.getfield 35, 3) := by decide +kernel
theorem dX4_book_74 : decode cX4_book 74 = .ok (.iload_n 1, 1) := by decide +kernel
theorem dX4_book_75 : decode cX4_book 75 = .ok (.aaload, 1) := by decide +kernel
theorem dX4_book_76 : decode cX4_book 76 = .ok (.getfield 195, 3) := by decide +kernel
theorem dX4_book_79 : decode cX4_book 79 = .ok (.ireturn, 1) := by decide +kernel
theorem dX4_read_0 : decode cX4_read 0 = .ok (.aload_n 0, 1) := by decide +kernel
theorem dX4_read_1 : decode cX4_read 1 = .ok (.iload_n 1, 1) := by decide +kernel
theorem dX4_read_2 : decode cX4_read 2 = .ok (.invokevirtual 192, 3) := by decide +kernel
theorem dX4_read_5 : decode cX4_read 5 = .ok (.istore_n 2, 1) := by decide +kernel
theorem dX4_read_6 : decode cX4_read 6 = .ok (.iload_n 2, 1) := by decide +kernel
theorem dX4_read_7 : decode cX4_read 7 = .ok (.ifCond .eq 9, 3) := by decide +kernel
theorem dX4_read_10 : decode cX4_read 10 = .ok (.aload_n 0, 1) := by decide +kernel
theorem dX4_read_11 : decode cX4_read 11 = .ok (.iload_n 2, 1) := by decide +kernel
theorem dX4_read_12 : decode cX4_read 12 = .ok (.invokevirtual 52, 3) := by decide +kernel
theorem dX4_read_15 : decode cX4_read 15 = .ok (.ireturn, 1) := by decide +kernel
theorem dX4_read_16 : decode cX4_read 16 = .ok (.aload_n 0, 1) := by decide +kernel
theorem dX4_read_17 : decode cX4_read 17 = .ok (.getfield 35, 3) := by decide +kernel
theorem dX4_read_20 : decode cX4_read 20 = .ok (.iload_n 1, 1) := by decide +kernel
theorem dX4_read_21 : decode cX4_read 21 = .ok (.aaload, 1) := by decide +kernel
theorem dX4_read_22 : decode cX4_read 22 = .ok (.aload_n 0, 1) := by decide +kernel
theorem dX4_read_23 : decode cX4_read 23 = .ok (.getfield 12, 3) := by decide +kernel
theorem dX4_read_26 : decode cX4_read 26 = .ok (.invokevirtual 156, 3) := by decide +kernel
theorem dX4_read_29 : decode cX4_read 29 = .ok (.invokevirtual 221, 3) := by decide +kernel
theorem dX4_read_32 : decode cX4_read 32 = .ok (.ifCond .ne 5, 3) := by decide +kernel
theorem dX4_read_35 : decode cX4_read 35 = .ok (.iconst 0, 1) := by decide +kernel
theorem dX4_read_36 : decode cX4_read 36 = .ok (.ireturn, 1) := by decide +kernel
theorem dX4_read_37 : decode cX4_read 37 = .ok (.iconst 0, 1) := by decide +kernel
theorem dX4_read_38 : decode cX4_read 38 = .ok (.istore_n 3, 1) := by decide +kernel
theorem dX4_read_39 : decode cX4_read 39 = .ok (.iconst 0, 1) := by decide +kernel
theorem dX4_read_40 : decode cX4_read 40 = .ok (.istore 4, 2) := by decide +kernel
theorem dX4_read_42 : decode cX4_read 42 = .ok (.iload 4, 2) := by decide +kernel
theorem dX4_read_44 : decode cX4_read 44 = .ok (.aload_n 0, 1) := by decide +kernel
theorem dX4_read_45 : decode cX4_read 45 = .ok (.getfield 12, 3) := by decide +kernel
theorem dX4_read_48 : decode cX4_read 48 = .ok (.getfield 56, 3) := by decide +kernel
theorem dX4_read_51 : decode cX4_read 51 = .ok (.if_icmp .ge 45, 3) := by decide +kernel
theorem dX4_read_54 : decode cX4_read 54 = .ok (.iconst 0, 1) := by decide +kernel
theorem dX4_read_55 : decode cX4_read 55 = .ok (.istore 5, 2) := by decide +kernel
theorem dX4_read_57 : decode cX4_read 57 = .ok (.iload 5, 2) := by decide +kernel
theorem dX4_read_59 : decode cX4_read 59 = .ok (.bipush 6, 2) := by decide +kernel
theorem dX4_read_61 : decode cX4_read 61 = .ok (.if_icmp .ge 29, 3) := by decide +kernel
theorem dX4_read_64 : decode cX4_read 64 = .ok (.iload_n 3, 1) := by decide +kernel
theorem dX4_read_65 : decode cX4_read 65 = .ok (.aload_n 0, 1) := by decide +kernel
theorem dX4_read_66 : decode cX4_read 66 = .ok (.aload_n 0, 1) := by decide +kernel
theorem dX4_read_67 : decode cX4_read 67 = .ok (.getfield 35, 3) := by decide +kernel
theorem dX4_read_70 : decode cX4_read 70 = .ok (.iload_n 1, 1) := by decide +kernel
theorem dX4_read_71 : decode cX4_read 71 = .ok (.aaload, 1) := by decide +kernel
theorem dX4_read_72 : decode cX4_read 72 = .ok (.iload 4, 2) := by decide +kernel
theorem dX4_read_74 : decode cX4_read 74 = .ok (.iload 5, 2) := by decide +kernel
theorem dX4_read_76 : decode cX4_read 76 = .ok (.invokevirtual 224, 3) := by decide +kernel
theorem dX4_read_79 : decode cX4_read 79 = .ok (.invokestatic 84, 3) := by decide +kernel
theorem dX4_read_82 : decode cX4_read 82 = .ok (.iadd, 1) := by decide +kernel
theorem dX4_read_83 : decode cX4_read 83 = .ok (.istore_n 3, 1) := by decide +kernel
theorem dX4_read_84 : decode cX4_read 84 = .ok (.iinc 5 1, 3) := by decide +kernel
theorem dX4_read_87 : decode cX4_read 87 = .ok (.goto (-30), 3) := by decide +kernel
theorem dX4_read_90 : decode cX4_read 90 = .ok (.iinc 4 1, 3) := by decide +kernel
theorem dX4_read_93 : decode cX4_read 93 = .ok (.goto (-51), 3) := by decide +kernel
theorem dX4_read_96 : decode cX4_read 96 = .ok (.iload_n 3, 1) := by decide +kernel
theorem dX4_read_97 : decode cX4_read 97 = .ok (.ireturn, 1) := by decide +kernel
theorem dX4_image_0 : decode cX4_image 0 = .ok (.aload_n 0, 1) := by decide +kernel
theorem dX4_image_1 : decode cX4_image 1 = .ok (.getfield 16, 3) := by decide +kernel
theorem dX4_image_4 : decode cX4_image 4 = .ok (.aload_n 0, 1) := by decide +kernel
theorem dX4_image_5 : decode cX4_image 5 = .ok (.getfield 12, 3) := by decide +kernel
theorem dX4_image_8 : decode cX4_image 8 = .ok (.invokevirtual 228, 3) := by decide +kernel
theorem dX4_image_11 : decode cX4_image 11 = .ok (.aload_n 0, 1) := by decide +kernel
theorem dX4_image_12 : decode cX4_image 12 = .ok (.iconst 1, 1) := by decide +kernel
theorem dX4_image_13 : decode cX4_image 13 = .ok (.putfield 232, 3) := by decide +kernel
theorem dX4_image_16 : decode cX4_image 16 = .ok (.iconst 1, 1) := by decide +kernel
theorem dX4_image_17 : decode cX4_image 17 = .ok (.ireturn, 1) := by decide +kernel
theorem dX4_undo_0 : decode cX4_undo 0 = .ok (.aload_n 0, 1) := by decide +kernel
theorem dX4_undo_1 : decode cX4_undo 1 = .ok (.getfield 232, 3) := by decide +kernel
theorem dX4_undo_4 : decode cX4_undo 4 = .ok (.ifCond .ne 10, 3) := by decide +kernel
theorem dX4_undo_7 : decode cX4_undo 7 = .ok (.aload_n 0, 1) := by decide +kernel
theorem dX4_undo_8 : decode cX4_undo 8 = .ok (.ldc 135, 2) := by decide +kernel
theorem dX4_undo_10 : decode cX4_undo 10 = .ok (.invokevirtual 52, 3) := by decide +kernel
theorem dX4_undo_13 : decode cX4_undo 13 = .ok (.ireturn, 1) := by decide +kernel
theorem dX4_undo_14 : decode cX4_undo 14 = .ok (.aload_n 0, 1) := by decide +kernel
theorem dX4_undo_15 : decode cX4_undo 15 = .ok (.getfield 12, 3) := by decide +kernel
theorem dX4_undo_18 : decode cX4_undo 18 = .ok (.aload_n 0, 1) := by decide +kernel
theorem dX4_undo_19 : decode cX4_undo 19 = .ok (.getfield 16, 3) := by decide +kernel
theorem dX4_undo_22 : decode cX4_undo 22 = .ok (.invokevirtual 228, 3) := by decide +kernel
theorem dX4_undo_25 : decode cX4_undo 25 = .ok (.aload_n 0, 1) := by decide +kernel
theorem dX4_undo_26 : decode cX4_undo 26 = .ok (.getfield 12, 3) := by decide +kernel
theorem dX4_undo_29 : decode cX4_undo 29 = .ok (.getfield 56, 3) := by decide +kernel
theorem dX4_undo_32 : decode cX4_undo 32 = .ok (.ireturn, 1) := by decide +kernel
theorem dX4_tear_0 : decode cX4_tear 0 = .ok (.aload_n 0, 1) := by decide +kernel
theorem dX4_tear_1 : decode cX4_tear 1 = .ok (.getfield 232, 3) := by decide +kernel
theorem dX4_tear_4 : decode cX4_tear 4 = .ok (.invokestatic 84, 3) := by decide +kernel
theorem dX4_tear_7 : decode cX4_tear 7 = .ok (.istore_n 1, 1) := by decide +kernel
theorem dX4_tear_8 : decode cX4_tear 8 = .ok (.aload_n 0, 1) := by decide +kernel
theorem dX4_tear_9 : decode cX4_tear 9 = .ok (.iconst 0, 1) := by decide +kernel
theorem dX4_tear_10 : decode cX4_tear 10 = .ok (.putfield 232, 3) := by decide +kernel
theorem dX4_tear_13 : decode cX4_tear 13 = .ok (.iload_n 1, 1) := by decide +kernel
theorem dX4_tear_14 : decode cX4_tear 14 = .ok (.ireturn, 1) := by decide +kernel
theorem dX4_count_0 : decode cX4_count 0 = .ok (.iload_n 1, 1) := by decide +kernel
theorem dX4_count_1 : decode cX4_count 1 = .ok (.tableswitch 70 0 3 #[31, 39, 47, 62], 31) := by decide +kernel
theorem dX4_count_32 : decode cX4_count 32 = .ok (.aload_n 0, 1) := by decide +kernel
theorem dX4_count_33 : decode cX4_count 33 = .ok (.getfield 12, 3) := by decide +kernel
theorem dX4_count_36 : decode cX4_count 36 = .ok (.getfield 56, 3) := by decide +kernel
theorem dX4_count_39 : decode cX4_count 39 = .ok (.ireturn, 1) := by decide +kernel
theorem dX4_count_40 : decode cX4_count 40 = .ok (.aload_n 0, 1) := by decide +kernel
theorem dX4_count_41 : decode cX4_count 41 = .ok (.getfield 22, 3) := by decide +kernel
theorem dX4_count_44 : decode cX4_count 44 = .ok (.getfield 109, 3) := by decide +kernel
theorem dX4_count_47 : decode cX4_count 47 = .ok (.ireturn, 1) := by decide +kernel
theorem dX4_count_48 : decode cX4_count 48 = .ok (.aload_n 0, 1) := by decide +kernel
theorem dX4_count_49 : decode cX4_count 49 = .ok (.getfield 12, 3) := by decide +kernel
theorem dX4_count_52 : decode cX4_count 52 = .ok (.aload_n 0, 1) := by decide +kernel
theorem dX4_count_53 : decode cX4_count 53 = .ok (.getfield 12, 3) := by decide +kernel
theorem dX4_count_56 : decode cX4_count 56 = .ok (.invokevirtual 156, 3) := by decide +kernel
theorem dX4_count_59 : decode cX4_count 59 = .ok (.invokevirtual 126, 3) := by decide +kernel
theorem dX4_count_62 : decode cX4_count 62 = .ok (.ireturn, 1) := by decide +kernel
theorem dX4_count_63 : decode cX4_count 63 = .ok (.aload_n 0, 1) := by decide +kernel
theorem dX4_count_64 : decode cX4_count 64 = .ok (.getfield 12, 3) := by decide +kernel
theorem dX4_count_67 : decode cX4_count 67 = .ok (.getfield 236, 3) := by decide +kernel
theorem dX4_count_70 : decode cX4_count 70 = .ok (.ireturn, 1) := by decide +kernel
theorem dX4_count_71 : decode cX4_count 71 = .ok (.aload_n 0, 1) := by decide +kernel
theorem dX4_count_72 : decode cX4_count 72 = .ok (.ldc 51, 2) := by decide +kernel
theorem dX4_count_74 : decode cX4_count 74 = .ok (.invokevirtual 52, 3) := by decide +kernel
theorem dX4_count_77 : decode cX4_count 77 = .ok (.ireturn, 1) := by decide +kernel
theorem dX4_status_0 : decode cX4_status 0 = .ok (.iload_n 1, 1) := by decide +kernel
theorem dX4_status_1 : decode cX4_status 1 = .ok (.iconst (-1), 1) := by decide +kernel
theorem dX4_status_2 : decode cX4_status 2 = .ok (.if_icmp .lt 9, 3) := by decide +kernel
theorem dX4_status_5 : decode cX4_status 5 = .ok (.iload_n 1, 1) := by decide +kernel
theorem dX4_status_6 : decode cX4_status 6 = .ok (.bipush 7, 2) := by decide +kernel
theorem dX4_status_8 : decode cX4_status 8 = .ok (.if_icmp .lt 10, 3) := by decide +kernel
theorem dX4_status_11 : decode cX4_status 11 = .ok (.aload_n 0, 1) := by decide +kernel
theorem dX4_status_12 : decode cX4_status 12 = .ok (.ldc 51, 2) := by decide +kernel
theorem dX4_status_14 : decode cX4_status 14 = .ok (.invokevirtual 52, 3) := by decide +kernel
theorem dX4_status_17 : decode cX4_status 17 = .ok (.ireturn, 1) := by decide +kernel
theorem dX4_status_18 : decode cX4_status 18 = .ok (.iload_n 1, 1) := by decide +kernel
theorem dX4_status_19 : decode cX4_status 19 = .ok (.ifCond .lt 10, 3) := by decide +kernel
theorem dX4_status_22 : decode cX4_status 22 = .ok (.aload_n 0, 1) := by decide +kernel
theorem dX4_status_23 : decode cX4_status 23 = .ok (.getfield 40, 3) := by decide +kernel
theorem dX4_status_26 : decode cX4_status 26 = .ok (.iload_n 1, 1) := by decide +kernel
theorem dX4_status_27 : decode cX4_status 27 = .ok (.iaload, 1) := by decide +kernel
theorem dX4_status_28 : decode cX4_status 28 = .ok (.ireturn, 1) := by decide +kernel
theorem dX4_status_29 : decode cX4_status 29 = .ok (.iconst 0, 1) := by decide +kernel
theorem dX4_status_30 : decode cX4_status 30 = .ok (.istore_n 2, 1) := by decide +kernel
theorem dX4_status_31 : decode cX4_status 31 = .ok (.iconst 0, 1) := by decide +kernel
theorem dX4_status_32 : decode cX4_status 32 = .ok (.istore_n 3, 1) := by decide +kernel
theorem dX4_status_33 : decode cX4_status 33 = .ok (.iload_n 3, 1) := by decide +kernel
theorem dX4_status_34 : decode cX4_status 34 = .ok (.bipush 7, 2) := by decide +kernel
theorem dX4_status_36 : decode cX4_status 36 = .ok (.if_icmp .ge 18, 3) := by decide +kernel
theorem dX4_status_39 : decode cX4_status 39 = .ok (.iload_n 2, 1) := by decide +kernel
theorem dX4_status_40 : decode cX4_status 40 = .ok (.aload_n 0, 1) := by decide +kernel
theorem dX4_status_41 : decode cX4_status 41 = .ok (.getfield 40, 3) := by decide +kernel
theorem dX4_status_44 : decode cX4_status 44 = .ok (.iload_n 3, 1) := by decide +kernel
theorem dX4_status_45 : decode cX4_status 45 = .ok (.iaload, 1) := by decide +kernel
theorem dX4_status_46 : decode cX4_status 46 = .ok (.iadd, 1) := by decide +kernel
theorem dX4_status_47 : decode cX4_status 47 = .ok (.istore_n 2, 1) := by decide +kernel
theorem dX4_status_48 : decode cX4_status 48 = .ok (.iinc 3 1, 3) := by decide +kernel
theorem dX4_status_51 : decode cX4_status 51 = .ok (.goto (-18), 3) := by decide +kernel
theorem dX4_status_54 : decode cX4_status 54 = .ok (.iload_n 2, 1) := by decide +kernel
theorem dX4_status_55 : decode cX4_status 55 = .ok (.ireturn, 1) := by decide +kernel
theorem dX4_found_0 : decode cX4_found 0 = .ok (.ldc 51, 2) := by decide +kernel
theorem dX4_found_2 : decode cX4_found 2 = .ok (.iload_n 1, 1) := by decide +kernel
theorem dX4_found_3 : decode cX4_found 3 = .ok (.isub, 1) := by decide +kernel
theorem dX4_found_4 : decode cX4_found 4 = .ok (.istore_n 2, 1) := by decide +kernel
theorem dX4_found_5 : decode cX4_found 5 = .ok (.iload_n 2, 1) := by decide +kernel
theorem dX4_found_6 : decode cX4_found 6 = .ok (.ifCond .lt 19, 3) := by decide +kernel
theorem dX4_found_9 : decode cX4_found 9 = .ok (.iload_n 2, 1) := by decide +kernel
theorem dX4_found_10 : decode cX4_found 10 = .ok (.bipush 7, 2) := by decide +kernel
theorem dX4_found_12 : decode cX4_found 12 = .ok (.if_icmp .ge 13, 3) := by decide +kernel
theorem dX4_found_15 : decode cX4_found 15 = .ok (.aload_n 0, 1) := by decide +kernel
theorem dX4_found_16 : decode cX4_found 16 = .ok (.getfield 40, 3) := by decide +kernel
theorem dX4_found_19 : decode cX4_found 19 = .ok (.iload_n 2, 1) := by decide +kernel
theorem dX4_found_20 : decode cX4_found 20 = .ok (.dup2, 1) := by decide +kernel
theorem dX4_found_21 : decode cX4_found 21 = .ok (.iaload, 1) := by decide +kernel
theorem dX4_found_22 : decode cX4_found 22 = .ok (.iconst 1, 1) := by decide +kernel
theorem dX4_found_23 : decode cX4_found 23 = .ok (.iadd, 1) := by decide +kernel
theorem dX4_found_24 : decode cX4_found 24 = .ok (.iastore, 1) := by decide +kernel
theorem dX4_found_25 : decode cX4_found 25 = .ok (.iload_n 1, 1) := by decide +kernel
theorem dX4_found_26 : decode cX4_found 26 = .ok (.ireturn, 1) := by decide +kernel
theorem dX4_sheetLack_0 : decode cX4_sheetLack 0 = .ok (.iload_n 1, 1) := by decide +kernel
theorem dX4_sheetLack_1 : decode cX4_sheetLack 1 = .ok (.invokestatic 185, 3) := by decide +kernel
theorem dX4_sheetLack_4 : decode cX4_sheetLack 4 = .ok (.ifCond .ne 6, 3) := by decide +kernel
theorem dX4_sheetLack_7 : decode cX4_sheetLack 7 = .ok (.ldc 51, 2) := by decide +kernel
theorem dX4_sheetLack_9 : decode cX4_sheetLack 9 = .ok (.ireturn, 1) := by decide +kernel
theorem dX4_sheetLack_10 : decode cX4_sheetLack 10 = .ok (.aload_n 0, 1) := by decide +kernel
theorem dX4_sheetLack_11 : decode cX4_sheetLack 11 = .ok (.getfield 35, 3) := by decide +kernel
theorem dX4_sheetLack_14 : decode cX4_sheetLack 14 = .ok (.iload_n 1, 1) := by decide +kernel
theorem dX4_sheetLack_15 : decode cX4_sheetLack 15 = .ok (.aaload, 1) := by decide +kernel
theorem dX4_sheetLack_16 : decode cX4_sheetLack 16 = .ok (.invokevirtual 200, 3) := by decide +kernel
theorem dX4_sheetLack_19 : decode cX4_sheetLack 19 = .ok (.ifCond .eq 8, 3) := by decide +kernel
theorem dX4_sheetLack_22 : decode cX4_sheetLack 22 = .ok (.ldc 204, 2) := by decide +kernel
theorem dX4_sheetLack_24 : decode cX4_sheetLack 24 = .ok (.goto 4, 3) := by decide +kernel
theorem dX4_sheetLack_27 : decode cX4_sheetLack 27 = .ok (.iconst 0, 1) := by decide +kernel
theorem dX4_sheetLack_28 : decode cX4_sheetLack 28 = .ok (.ireturn, 1) := by decide +kernel
theorem dX4_cheapestFor_0 : decode cX4_cheapestFor 0 = .ok (.iconst (-1), 1) := by decide +kernel
theorem dX4_cheapestFor_1 : decode cX4_cheapestFor 1 = .ok (.istore_n 2, 1) := by decide +kernel
theorem dX4_cheapestFor_2 : decode cX4_cheapestFor 2 = .ok (.iconst 0, 1) := by decide +kernel
theorem dX4_cheapestFor_3 : decode cX4_cheapestFor 3 = .ok (.istore_n 3, 1) := by decide +kernel
theorem dX4_cheapestFor_4 : decode cX4_cheapestFor 4 = .ok (.iload_n 3, 1) := by decide +kernel
theorem dX4_cheapestFor_5 : decode cX4_cheapestFor 5 = .ok (.aload_n 0, 1) := by decide +kernel
theorem dX4_cheapestFor_6 : decode cX4_cheapestFor 6 = .ok (.getfield 12, 3) := by decide +kernel
theorem dX4_cheapestFor_9 : decode cX4_cheapestFor 9 = .ok (.invokevirtual 153, 3) := by decide +kernel
theorem dX4_cheapestFor_12 : decode cX4_cheapestFor 12 = .ok (.if_icmp .ge 58, 3) := by decide +kernel
theorem dX4_cheapestFor_15 : decode cX4_cheapestFor 15 = .ok (.iload_n 2, 1) := by decide +kernel
theorem dX4_cheapestFor_16 : decode cX4_cheapestFor 16 = .ok (.ifCond .lt 12, 3) := by decide +kernel
theorem dX4_cheapestFor_19 : decode cX4_cheapestFor 19 = .ok (.aload_n 0, 1) := by decide +kernel
theorem dX4_cheapestFor_20 : decode cX4_cheapestFor 20 = .ok (.iload_n 3, 1) := by decide +kernel
theorem dX4_cheapestFor_21 : decode cX4_cheapestFor 21 = .ok (.iload_n 2, 1) := by decide +kernel
theorem dX4_cheapestFor_22 : decode cX4_cheapestFor 22 = .ok (.invokevirtual 239, 3) := by decide +kernel
theorem dX4_cheapestFor_25 : decode cX4_cheapestFor 25 = .ok (.ifCond .eq 7, 3) := by decide +kernel
theorem dX4_cheapestFor_28 : decode cX4_cheapestFor 28 = .ok (.iconst 1, 1) := by decide +kernel
theorem dX4_cheapestFor_29 : decode cX4_cheapestFor 29 = .ok (.goto 4, 3) := by decide +kernel
theorem dX4_cheapestFor_32 : decode cX4_cheapestFor 32 = .ok (.iconst 0, 1) := by decide +kernel
theorem dX4_cheapestFor_33 : decode cX4_cheapestFor 33 = .ok (.istore 4, 2) := by decide +kernel
theorem dX4_cheapestFor_35 : decode cX4_cheapestFor 35 = .ok (.iload 4, 2) := by decide +kernel
theorem dX4_cheapestFor_37 : decode cX4_cheapestFor 37 = .ok (.ifCond .eq 27, 3) := by decide +kernel
theorem dX4_cheapestFor_40 : decode cX4_cheapestFor 40 = .ok (.aload_n 0, 1) := by decide +kernel
theorem dX4_cheapestFor_41 : decode cX4_cheapestFor 41 = .ok (.getfield 12, 3) := by decide +kernel
theorem dX4_cheapestFor_44 : decode cX4_cheapestFor 44 = .ok (.iload_n 3, 1) := by decide +kernel
theorem dX4_cheapestFor_45 : decode cX4_cheapestFor 45 = .ok (.aload_n 0, 1) := by decide +kernel
theorem dX4_cheapestFor_46 : decode cX4_cheapestFor 46 = .ok (.getfield 12, 3) := by decide +kernel
theorem dX4_cheapestFor_49 : decode cX4_cheapestFor 49 = .ok (.invokevirtual 156, 3) := by decide +kernel
theorem dX4_cheapestFor_52 : decode cX4_cheapestFor 52 = .ok (.invokevirtual 169, 3) := by decide +kernel
theorem dX4_cheapestFor_55 : decode cX4_cheapestFor 55 = .ok (.invokestatic 118, 3) := by decide +kernel
theorem dX4_cheapestFor_58 : decode cX4_cheapestFor 58 = .ok (.iload_n 1, 1) := by decide +kernel
theorem dX4_cheapestFor_59 : decode cX4_cheapestFor 59 = .ok (.if_icmp .lt 5, 3) := by decide +kernel
theorem dX4_cheapestFor_62 : decode cX4_cheapestFor 62 = .ok (.iload_n 3, 1) := by decide +kernel
theorem dX4_cheapestFor_63 : decode cX4_cheapestFor 63 = .ok (.istore_n 2, 1) := by decide +kernel
theorem dX4_cheapestFor_64 : decode cX4_cheapestFor 64 = .ok (.iinc 3 1, 3) := by decide +kernel
theorem dX4_cheapestFor_67 : decode cX4_cheapestFor 67 = .ok (.goto (-63), 3) := by decide +kernel
theorem dX4_cheapestFor_70 : decode cX4_cheapestFor 70 = .ok (.iload_n 2, 1) := by decide +kernel
theorem dX4_cheapestFor_71 : decode cX4_cheapestFor 71 = .ok (.ireturn, 1) := by decide +kernel
theorem dX4_isCheaper_0 : decode cX4_isCheaper 0 = .ok (.aload_n 0, 1) := by decide +kernel
theorem dX4_isCheaper_1 : decode cX4_isCheaper 1 = .ok (.getfield 12, 3) := by decide +kernel
theorem dX4_isCheaper_4 : decode cX4_isCheaper 4 = .ok (.iload_n 1, 1) := by decide +kernel
theorem dX4_isCheaper_5 : decode cX4_isCheaper 5 = .ok (.invokevirtual 126, 3) := by decide +kernel
theorem dX4_isCheaper_8 : decode cX4_isCheaper 8 = .ok (.istore_n 3, 1) := by decide +kernel
theorem dX4_isCheaper_9 : decode cX4_isCheaper 9 = .ok (.aload_n 0, 1) := by decide +kernel
theorem dX4_isCheaper_10 : decode cX4_isCheaper 10 = .ok (.getfield 12, 3) := by decide +kernel
theorem dX4_isCheaper_13 : decode cX4_isCheaper 13 = .ok (.iload_n 2, 1) := by decide +kernel
theorem dX4_isCheaper_14 : decode cX4_isCheaper 14 = .ok (.invokevirtual 126, 3) := by decide +kernel
theorem dX4_isCheaper_17 : decode cX4_isCheaper 17 = .ok (.istore 4, 2) := by decide +kernel
theorem dX4_isCheaper_19 : decode cX4_isCheaper 19 = .ok (.iload_n 3, 1) := by decide +kernel
theorem dX4_isCheaper_20 : decode cX4_isCheaper 20 = .ok (.iload 4, 2) := by decide +kernel
theorem dX4_isCheaper_22 : decode cX4_isCheaper 22 = .ok (.if_icmp .lt 20, 3) := by decide +kernel
theorem dX4_isCheaper_25 : decode cX4_isCheaper 25 = .ok (.iload_n 3, 1) := by decide +kernel
theorem dX4_isCheaper_26 : decode cX4_isCheaper 26 = .ok (.iload 4, 2) := by decide +kernel
theorem dX4_isCheaper_28 : decode cX4_isCheaper 28 = .ok (.if_icmp .ne 18, 3) := by decide +kernel
theorem dX4_isCheaper_31 : decode cX4_isCheaper 31 = .ok (.iload_n 1, 1) := by decide +kernel
theorem dX4_isCheaper_32 : decode cX4_isCheaper 32 = .ok (.invokestatic 118, 3) := by decide +kernel
theorem dX4_isCheaper_35 : decode cX4_isCheaper 35 = .ok (.iload_n 2, 1) := by decide +kernel
theorem dX4_isCheaper_36 : decode cX4_isCheaper 36 = .ok (.invokestatic 118, 3) := by decide +kernel
theorem dX4_isCheaper_39 : decode cX4_isCheaper 39 = .ok (.if_icmp .ge 7, 3) := by decide +kernel
theorem dX4_isCheaper_42 : decode cX4_isCheaper 42 = .ok (.iconst 1, 1) := by decide +kernel
theorem dX4_isCheaper_43 : decode cX4_isCheaper 43 = .ok (.goto 4, 3) := by decide +kernel
theorem dX4_isCheaper_46 : decode cX4_isCheaper 46 = .ok (.iconst 0, 1) := by decide +kernel
theorem dX4_isCheaper_47 : decode cX4_isCheaper 47 = .ok (.ireturn, 1) := by decide +kernel
theorem dX4_isWellAsked_0 : decode cX4_isWellAsked 0 = .ok (.aload_n 0, 1) := by decide +kernel
theorem dX4_isWellAsked_1 : decode cX4_isWellAsked 1 = .ok (.getfield 12, 3) := by decide +kernel
theorem dX4_isWellAsked_4 : decode cX4_isWellAsked 4 = .ok (.iconst 0, 1) := by decide +kernel
theorem dX4_isWellAsked_5 : decode cX4_isWellAsked 5 = .ok (.iload_n 1, 1) := by decide +kernel
theorem dX4_isWellAsked_6 : decode cX4_isWellAsked 6 = .ok (.invokevirtual 169, 3) := by decide +kernel
theorem dX4_isWellAsked_9 : decode cX4_isWellAsked 9 = .ok (.istore 4, 2) := by decide +kernel
theorem dX4_isWellAsked_11 : decode cX4_isWellAsked 11 = .ok (.iload 4, 2) := by decide +kernel
theorem dX4_isWellAsked_13 : decode cX4_isWellAsked 13 = .ok (.invokestatic 118, 3) := by decide +kernel
theorem dX4_isWellAsked_16 : decode cX4_isWellAsked 16 = .ok (.istore 5, 2) := by decide +kernel
theorem dX4_isWellAsked_18 : decode cX4_isWellAsked 18 = .ok (.iload 5, 2) := by decide +kernel
theorem dX4_isWellAsked_20 : decode cX4_isWellAsked 20 = .ok (.iload_n 2, 1) := by decide +kernel
theorem dX4_isWellAsked_21 : decode cX4_isWellAsked 21 = .ok (.if_icmp .lt 29, 3) := by decide +kernel
theorem dX4_isWellAsked_24 : decode cX4_isWellAsked 24 = .ok (.iload 5, 2) := by decide +kernel
theorem dX4_isWellAsked_26 : decode cX4_isWellAsked 26 = .ok (.iload_n 3, 1) := by decide +kernel
theorem dX4_isWellAsked_27 : decode cX4_isWellAsked 27 = .ok (.if_icmp .gt 23, 3) := by decide +kernel
theorem dX4_isWellAsked_30 : decode cX4_isWellAsked 30 = .ok (.aload_n 0, 1) := by decide +kernel
theorem dX4_isWellAsked_31 : decode cX4_isWellAsked 31 = .ok (.getfield 12, 3) := by decide +kernel
theorem dX4_isWellAsked_34 : decode cX4_isWellAsked 34 = .ok (.iload 4, 2) := by decide +kernel
theorem dX4_isWellAsked_36 : decode cX4_isWellAsked 36 = .ok (.invokevirtual 77, 3) := by decide +kernel
theorem dX4_isWellAsked_39 : decode cX4_isWellAsked 39 = .ok (.iload_n 1, 1) := by decide +kernel
theorem dX4_isWellAsked_40 : decode cX4_isWellAsked 40 = .ok (.iand, 1) := by decide +kernel
theorem dX4_isWellAsked_41 : decode cX4_isWellAsked 41 = .ok (.iload 4, 2) := by decide +kernel
theorem dX4_isWellAsked_43 : decode cX4_isWellAsked 43 = .ok (.if_icmp .ne 7, 3) := by decide +kernel
theorem dX4_isWellAsked_46 : decode cX4_isWellAsked 46 = .ok (.iconst 1, 1) := by decide +kernel
theorem dX4_isWellAsked_47 : decode cX4_isWellAsked 47 = .ok (.goto 4, 3) := by decide +kernel
theorem dX4_isWellAsked_50 : decode cX4_isWellAsked 50 = .ok (.iconst 0, 1) := by decide +kernel
theorem dX4_isWellAsked_51 : decode cX4_isWellAsked 51 = .ok (.ireturn, 1) := by decide +kernel
theorem dX4_explains_0 : decode cX4_explains 0 = .ok (.iconst 1, 1) := by decide +kernel
theorem dX4_explains_1 : decode cX4_explains 1 = .ok (.istore 4, 2) := by decide +kernel
theorem dX4_explains_3 : decode cX4_explains 3 = .ok (.iload 4, 2) := by decide +kernel
theorem dX4_explains_5 : decode cX4_explains 5 = .ok (.aload_n 1, 1) := by decide +kernel
theorem dX4_explains_6 : decode cX4_explains 6 = .ok (.getfield 195, 3) := by decide +kernel
theorem dX4_explains_9 : decode cX4_explains 9 = .ok (.if_icmp .ge 37, 3) := by decide +kernel
theorem dX4_explains_12 : decode cX4_explains 12 = .ok (.aload_n 0, 1) := by decide +kernel
theorem dX4_explains_13 : decode cX4_explains 13 = .ok (.getfield 12, 3) := by decide +kernel
theorem dX4_explains_16 : decode cX4_explains 16 = .ok (.iload_n 2, 1) := by decide +kernel
theorem dX4_explains_17 : decode cX4_explains 17 = .ok (.iload_n 3, 1) := by decide +kernel
theorem dX4_explains_18 : decode cX4_explains 18 = .ok (.aload_n 1, 1) := by decide +kernel
theorem dX4_explains_19 : decode cX4_explains 19 = .ok (.iload 4, 2) := by decide +kernel
theorem dX4_explains_21 : decode cX4_explains 21 = .ok (.iconst 1, 1) := by decide +kernel
theorem dX4_explains_22 : decode cX4_explains 22 = .ok (.isub, 1) := by decide +kernel
theorem dX4_explains_23 : decode cX4_explains 23 = .ok (.invokevirtual 242, 3) := by decide +kernel
theorem dX4_explains_26 : decode cX4_explains 26 = .ok (.invokevirtual 245, 3) := by decide +kernel
theorem dX4_explains_29 : decode cX4_explains 29 = .ok (.aload_n 1, 1) := by decide +kernel
theorem dX4_explains_30 : decode cX4_explains 30 = .ok (.iload 4, 2) := by decide +kernel
theorem dX4_explains_32 : decode cX4_explains 32 = .ok (.invokevirtual 242, 3) := by decide +kernel
theorem dX4_explains_35 : decode cX4_explains 35 = .ok (.if_icmp .eq 5, 3) := by decide +kernel
theorem dX4_explains_38 : decode cX4_explains 38 = .ok (.iconst 0, 1) := by decide +kernel
theorem dX4_explains_39 : decode cX4_explains 39 = .ok (.ireturn, 1) := by decide +kernel
theorem dX4_explains_40 : decode cX4_explains 40 = .ok (.iinc 4 1, 3) := by decide +kernel
theorem dX4_explains_43 : decode cX4_explains 43 = .ok (.goto (-40), 3) := by decide +kernel
theorem dX4_explains_46 : decode cX4_explains 46 = .ok (.iconst 1, 1) := by decide +kernel
theorem dX4_explains_47 : decode cX4_explains 47 = .ok (.ireturn, 1) := by decide +kernel
theorem dX4_isKind_0 : decode cX4_isKind 0 = .ok (.iload_n 0, 1) := by decide +kernel
theorem dX4_isKind_1 : decode cX4_isKind 1 = .ok (.ifCond .lt 13, 3) := by decide +kernel
theorem dX4_isKind_4 : decode cX4_isKind 4 = .ok (.iload_n 0, 1) := by decide +kernel
theorem dX4_isKind_5 : decode cX4_isKind 5 = .ok (.bipush 6, 2) := by decide +kernel
theorem dX4_isKind_7 : decode cX4_isKind 7 = .ok (.if_icmp .ge 7, 3) := by decide +kernel
theorem dX4_isKind_10 : decode cX4_isKind 10 = .ok (.iconst 1, 1) := by decide +kernel
theorem dX4_isKind_11 : decode cX4_isKind 11 = .ok (.goto 4, 3) := by decide +kernel
theorem dX4_isKind_14 : decode cX4_isKind 14 = .ok (.iconst 0, 1) := by decide +kernel
theorem dX4_isKind_15 : decode cX4_isKind 15 = .ok (.ireturn, 1) := by decide +kernel
theorem dX4_isCost_0 : decode cX4_isCost 0 = .ok (.iload_n 0, 1) := by decide +kernel
theorem dX4_isCost_1 : decode cX4_isCost 1 = .ok (.ifCond .lt 13, 3) := by decide +kernel
theorem dX4_isCost_4 : decode cX4_isCost 4 = .ok (.iload_n 0, 1) := by decide +kernel
theorem dX4_isCost_5 : decode cX4_isCost 5 = .ok (.bipush 99, 2) := by decide +kernel
theorem dX4_isCost_7 : decode cX4_isCost 7 = .ok (.if_icmp .gt 7, 3) := by decide +kernel
theorem dX4_isCost_10 : decode cX4_isCost 10 = .ok (.iconst 1, 1) := by decide +kernel
theorem dX4_isCost_11 : decode cX4_isCost 11 = .ok (.goto 4, 3) := by decide +kernel
theorem dX4_isCost_14 : decode cX4_isCost 14 = .ok (.iconst 0, 1) := by decide +kernel
theorem dX4_isCost_15 : decode cX4_isCost 15 = .ok (.ireturn, 1) := by decide +kernel
theorem dX4_isSheet_0 : decode cX4_isSheet 0 = .ok (.iload_n 0, 1) := by decide +kernel
theorem dX4_isSheet_1 : decode cX4_isSheet 1 = .ok (.ifCond .lt 12, 3) := by decide +kernel
theorem dX4_isSheet_4 : decode cX4_isSheet 4 = .ok (.iload_n 0, 1) := by decide +kernel
theorem dX4_isSheet_5 : decode cX4_isSheet 5 = .ok (.iconst 4, 1) := by decide +kernel
theorem dX4_isSheet_6 : decode cX4_isSheet 6 = .ok (.if_icmp .ge 7, 3) := by decide +kernel
theorem dX4_isSheet_9 : decode cX4_isSheet 9 = .ok (.iconst 1, 1) := by decide +kernel
theorem dX4_isSheet_10 : decode cX4_isSheet 10 = .ok (.goto 4, 3) := by decide +kernel
theorem dX4_isSheet_13 : decode cX4_isSheet 13 = .ok (.iconst 0, 1) := by decide +kernel
theorem dX4_isSheet_14 : decode cX4_isSheet 14 = .ok (.ireturn, 1) := by decide +kernel
theorem dX4_isUnder_0 : decode cX4_isUnder 0 = .ok (.iload_n 0, 1) := by decide +kernel
theorem dX4_isUnder_1 : decode cX4_isUnder 1 = .ok (.iload_n 1, 1) := by decide +kernel
theorem dX4_isUnder_2 : decode cX4_isUnder 2 = .ok (.if_icmp .eq 27, 3) := by decide +kernel
theorem dX4_isUnder_5 : decode cX4_isUnder 5 = .ok (.iload_n 1, 1) := by decide +kernel
theorem dX4_isUnder_6 : decode cX4_isUnder 6 = .ok (.ifCond .eq 23, 3) := by decide +kernel
theorem dX4_isUnder_9 : decode cX4_isUnder 9 = .ok (.iload_n 0, 1) := by decide +kernel
theorem dX4_isUnder_10 : decode cX4_isUnder 10 = .ok (.iconst 4, 1) := by decide +kernel
theorem dX4_isUnder_11 : decode cX4_isUnder 11 = .ok (.if_icmp .ne 8, 3) := by decide +kernel
theorem dX4_isUnder_14 : decode cX4_isUnder 14 = .ok (.iload_n 1, 1) := by decide +kernel
theorem dX4_isUnder_15 : decode cX4_isUnder 15 = .ok (.iconst 1, 1) := by decide +kernel
theorem dX4_isUnder_16 : decode cX4_isUnder 16 = .ok (.if_icmp .eq 13, 3) := by decide +kernel
theorem dX4_isUnder_19 : decode cX4_isUnder 19 = .ok (.iload_n 0, 1) := by decide +kernel
theorem dX4_isUnder_20 : decode cX4_isUnder 20 = .ok (.iconst 5, 1) := by decide +kernel
theorem dX4_isUnder_21 : decode cX4_isUnder 21 = .ok (.if_icmp .ne 12, 3) := by decide +kernel
theorem dX4_isUnder_24 : decode cX4_isUnder 24 = .ok (.iload_n 1, 1) := by decide +kernel
theorem dX4_isUnder_25 : decode cX4_isUnder 25 = .ok (.iconst 2, 1) := by decide +kernel
theorem dX4_isUnder_26 : decode cX4_isUnder 26 = .ok (.if_icmp .ne 7, 3) := by decide +kernel
theorem dX4_isUnder_29 : decode cX4_isUnder 29 = .ok (.iconst 1, 1) := by decide +kernel
theorem dX4_isUnder_30 : decode cX4_isUnder 30 = .ok (.goto 4, 3) := by decide +kernel
theorem dX4_isUnder_33 : decode cX4_isUnder 33 = .ok (.iconst 0, 1) := by decide +kernel
theorem dX4_isUnder_34 : decode cX4_isUnder 34 = .ok (.ireturn, 1) := by decide +kernel
theorem dX4_isOn_0 : decode cX4_isOn 0 = .ok (.iload_n 1, 1) := by decide +kernel
theorem dX4_isOn_1 : decode cX4_isOn 1 = .ok (.iload_n 0, 1) := by decide +kernel
theorem dX4_isOn_2 : decode cX4_isOn 2 = .ok (.ishr, 1) := by decide +kernel
theorem dX4_isOn_3 : decode cX4_isOn 3 = .ok (.iconst 1, 1) := by decide +kernel
theorem dX4_isOn_4 : decode cX4_isOn 4 = .ok (.iand, 1) := by decide +kernel
theorem dX4_isOn_5 : decode cX4_isOn 5 = .ok (.ifCond .eq 7, 3) := by decide +kernel
theorem dX4_isOn_8 : decode cX4_isOn 8 = .ok (.iconst 1, 1) := by decide +kernel
theorem dX4_isOn_9 : decode cX4_isOn 9 = .ok (.goto 4, 3) := by decide +kernel
theorem dX4_isOn_12 : decode cX4_isOn 12 = .ok (.iconst 0, 1) := by decide +kernel
theorem dX4_isOn_13 : decode cX4_isOn 13 = .ok (.ireturn, 1) := by decide +kernel
theorem dX4_othersOn_0 : decode cX4_othersOn 0 = .ok (.iload_n 1, 1) := by decide +kernel
theorem dX4_othersOn_1 : decode cX4_othersOn 1 = .ok (.iconst 1, 1) := by decide +kernel
theorem dX4_othersOn_2 : decode cX4_othersOn 2 = .ok (.iload_n 0, 1) := by decide +kernel
theorem dX4_othersOn_3 : decode cX4_othersOn 3 = .ok (.ishl, 1) := by decide +kernel
theorem dX4_othersOn_4 : decode cX4_othersOn 4 = .ok (.iconst (-1), 1) := by decide +kernel
theorem dX4_othersOn_5 : decode cX4_othersOn 5 = .ok (.ixor, 1) := by decide +kernel
theorem dX4_othersOn_6 : decode cX4_othersOn 6 = .ok (.iand, 1) := by decide +kernel
theorem dX4_othersOn_7 : decode cX4_othersOn 7 = .ok (.invokestatic 118, 3) := by decide +kernel
theorem dX4_othersOn_10 : decode cX4_othersOn 10 = .ok (.ireturn, 1) := by decide +kernel
theorem dX4_oneIf_0 : decode cX4_oneIf 0 = .ok (.iload_n 0, 1) := by decide +kernel
theorem dX4_oneIf_1 : decode cX4_oneIf 1 = .ok (.ifCond .eq 7, 3) := by decide +kernel
theorem dX4_oneIf_4 : decode cX4_oneIf 4 = .ok (.iconst 1, 1) := by decide +kernel
theorem dX4_oneIf_5 : decode cX4_oneIf 5 = .ok (.goto 4, 3) := by decide +kernel
theorem dX4_oneIf_8 : decode cX4_oneIf 8 = .ok (.iconst 0, 1) := by decide +kernel
theorem dX4_oneIf_9 : decode cX4_oneIf 9 = .ok (.ireturn, 1) := by decide +kernel
