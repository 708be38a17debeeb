theorem dX5_odds_55 : decode cX5_odds 55 = .ok (.aload_n 0, 1) := by decide +kernel
theorem dX5_odds_56 : decode cX5_odds 56 = .ok (.getfield 32, 3) := by decide +kernel
theorem dX5_odds_59 : decode cX5_odds 59 = .ok (.iload 4, 2) := by decide +kernel
theorem dX5_odds_61 : decode cX5_odds 61 = .ok (.iaload, 1) := by decide +kernel
theorem dX5_odds_62 : decode cX5_odds 62 = .ok (.iload_n 1, 1) := by decide +kernel
theorem dX5_odds_63 : decode cX5_odds 63 = .ok (.invokestatic 74, 3) := by decide +kernel
theorem dX5_odds_66 : decode cX5_odds 66 = .ok (.ifCond .eq 7, 3) := by decide +kernel
theorem dX5_odds_69 : decode cX5_odds 69 = .ok (.iconst 1, 1) := by decide +kernel
theorem dX5_odds_70 : decode cX5_odds 70 = .ok (.goto 4, 3) := by decide +kernel
theorem dX5_odds_73 : decode cX5_odds 73 = .ok (.iconst 0, 1) := by decide +kernel
theorem dX5_odds_74 : decode cX5_odds 74 = .ok (.iadd, 1) := by decide +kernel
theorem dX5_odds_75 : decode cX5_odds 75 = .ok (.istore_n 3, 1) := by decide +kernel
theorem dX5_odds_76 : decode cX5_odds 76 = .ok (.iinc 4 1, 3) := by decide +kernel
theorem dX5_odds_79 : decode cX5_odds 79 = .ok (.goto (-44), 3) := by decide +kernel
theorem dX5_odds_82 : decode cX5_odds 82 = .ok (.aload_n 0, 1) := by decide +kernel
theorem dX5_odds_83 : decode cX5_odds 83 = .ok (.invokevirtual 58, 3) := by decide +kernel
theorem dX5_odds_86 : decode cX5_odds 86 = .ok (.istore 4, 2) := by decide +kernel
theorem dX5_odds_88 : decode cX5_odds 88 = .ok (.iload_n 3, 1) := by decide +kernel
theorem dX5_odds_89 : decode cX5_odds 89 = .ok (.iconst 2, 1) := by decide +kernel
theorem dX5_odds_90 : decode cX5_odds 90 = .ok (.irem, 1) := by decide +kernel
theorem dX5_odds_91 : decode cX5_odds 91 = .ok (.ifCond .ne 22, 3) := by decide +kernel
theorem dX5_odds_94 : decode cX5_odds 94 = .ok (.iload 4, 2) := by decide +kernel
theorem dX5_odds_96 : decode cX5_odds 96 = .ok (.iconst 1, 1) := by decide +kernel
theorem dX5_odds_97 : decode cX5_odds 97 = .ok (.if_icmp .le 16, 3) := by decide +kernel
theorem dX5_odds_100 : decode cX5_odds 100 = .ok (.iload_n 3, 1) := by decide +kernel
theorem dX5_odds_101 : decode cX5_odds 101 = .ok (.iconst 2, 1) := by decide +kernel
theorem dX5_odds_102 : decode cX5_odds 102 = .ok (.idiv, 1) := by decide +kernel
theorem dX5_odds_103 : decode cX5_odds 103 = .ok (.istore_n 3, 1) := by decide +kernel
theorem dX5_odds_104 : decode cX5_odds 104 = .ok (.iload 4, 2) := by decide +kernel
theorem dX5_odds_106 : decode cX5_odds 106 = .ok (.iconst 2, 1) := by decide +kernel
theorem dX5_odds_107 : decode cX5_odds 107 = .ok (.idiv, 1) := by decide +kernel
theorem dX5_odds_108 : decode cX5_odds 108 = .ok (.istore 4, 2) := by decide +kernel
theorem dX5_odds_110 : decode cX5_odds 110 = .ok (.goto (-22), 3) := by decide +kernel
theorem dX5_odds_113 : decode cX5_odds 113 = .ok (.iload_n 2, 1) := by decide +kernel
theorem dX5_odds_114 : decode cX5_odds 114 = .ok (.ifCond .ne 8, 3) := by decide +kernel
theorem dX5_odds_117 : decode cX5_odds 117 = .ok (.iload_n 3, 1) := by decide +kernel
theorem dX5_odds_118 : decode cX5_odds 118 = .ok (.i2l, 1) := by decide +kernel
theorem dX5_odds_119 : decode cX5_odds 119 = .ok (.goto 6, 3) := by decide +kernel
theorem dX5_odds_122 : decode cX5_odds 122 = .ok (.iload 4, 2) := by decide +kernel
theorem dX5_odds_124 : decode cX5_odds 124 = .ok (.i2l, 1) := by decide +kernel
theorem dX5_odds_125 : decode cX5_odds 125 = .ok (.lreturn, 1) := by decide +kernel
theorem dX5_lastOf_0 : decode cX5_lastOf 0 = .ok (.iload_n 1, 1) := by decide +kernel
theorem dX5_lastOf_1 : decode cX5_lastOf 1 = .ok (.istore_n 3, 1) := by decide +kernel
theorem dX5_lastOf_2 : decode cX5_lastOf 2 = .ok (.iconst 0, 1) := by decide +kernel
theorem dX5_lastOf_3 : decode cX5_lastOf 3 = .ok (.istore 4, 2) := by decide +kernel
theorem dX5_lastOf_5 : decode cX5_lastOf 5 = .ok (.iload 4, 2) := by decide +kernel
theorem dX5_lastOf_7 : decode cX5_lastOf 7 = .ok (.bipush 64, 2) := by decide +kernel
theorem dX5_lastOf_9 : decode cX5_lastOf 9 = .ok (.if_icmp .ge 20, 3) := by decide +kernel
theorem dX5_lastOf_12 : decode cX5_lastOf 12 = .ok (.aload_n 0, 1) := by decide +kernel
theorem dX5_lastOf_13 : decode cX5_lastOf 13 = .ok (.getfield 29, 3) := by decide +kernel
theorem dX5_lastOf_16 : decode cX5_lastOf 16 = .ok (.iload_n 3, 1) := by decide +kernel
theorem dX5_lastOf_17 : decode cX5_lastOf 17 = .ok (.iaload, 1) := by decide +kernel
theorem dX5_lastOf_18 : decode cX5_lastOf 18 = .ok (.iload_n 2, 1) := by decide +kernel
theorem dX5_lastOf_19 : decode cX5_lastOf 19 = .ok (.iand, 1) := by decide +kernel
theorem dX5_lastOf_20 : decode cX5_lastOf 20 = .ok (.iload_n 1, 1) := by decide +kernel
theorem dX5_lastOf_21 : decode cX5_lastOf 21 = .ok (.ior, 1) := by decide +kernel
theorem dX5_lastOf_22 : decode cX5_lastOf 22 = .ok (.istore_n 3, 1) := by decide +kernel
theorem dX5_lastOf_23 : decode cX5_lastOf 23 = .ok (.iinc 4 1, 3) := by decide +kernel
theorem dX5_lastOf_26 : decode cX5_lastOf 26 = .ok (.goto (-21), 3) := by decide +kernel
theorem dX5_lastOf_29 : decode cX5_lastOf 29 = .ok (.iload_n 3, 1) := by decide +kernel
theorem dX5_lastOf_30 : decode cX5_lastOf 30 = .ok (.ireturn, 1) := by decide +kernel
theorem dX5_last_0 : decode cX5_last 0 = .ok (.aload_n 0, 1) := by decide +kernel
theorem dX5_last_1 : decode cX5_last 1 = .ok (.iload_n 1, 1) := by decide +kernel
theorem dX5_last_2 : decode cX5_last 2 = .ok (.i2l, 1) := by decide +kernel
theorem dX5_last_3 : decode cX5_last 3 = .ok (.invokevirtual 147, 3) := by decide +kernel
theorem dX5_last_6 : decode cX5_last 6 = .ok (.ifCond .ne 10, 3) := by decide +kernel
theorem dX5_last_9 : decode cX5_last 9 = .ok (.aload_n 0, 1) := by decide +kernel
theorem dX5_last_10 : decode cX5_last 10 = .ok (.ldc 48, 2) := by decide +kernel
theorem dX5_last_12 : decode cX5_last 12 = .ok (.invokevirtual 50, 3) := by decide +kernel
theorem dX5_last_15 : decode cX5_last 15 = .ok (.ireturn, 1) := by decide +kernel
theorem dX5_last_16 : decode cX5_last 16 = .ok (.aload_n 0, 1) := by decide +kernel
theorem dX5_last_17 : decode cX5_last 17 = .ok (.invokevirtual 170, 3) := by decide +kernel
theorem dX5_last_20 : decode cX5_last 20 = .ok (.aload_n 0, 1) := by decide +kernel
theorem dX5_last_21 : decode cX5_last 21 = .ok (.iload_n 1, 1) := by decide +kernel
theorem dX5_last_22 : decode cX5_last 22 = .ok (.sipush 255, 3) := by decide +kernel
theorem dX5_last_25 : decode cX5_last 25 = .ok (.invokevirtual 187, 3) := by decide +kernel
theorem dX5_last_28 : decode cX5_last 28 = .ok (.ireturn, 1) := by decide +kernel
theorem dX5_bestBuy_0 : decode cX5_bestBuy 0 = .ok (.aload_n 0, 1) := by decide +kernel
theorem dX5_bestBuy_1 : decode cX5_bestBuy 1 = .ok (.invokevirtual 170, 3) := by decide +kernel
theorem dX5_bestBuy_4 : decode cX5_bestBuy 4 = .ok (.iconst (-1), 1) := by decide +kernel
theorem dX5_bestBuy_5 : decode cX5_bestBuy 5 = .ok (.istore_n 2, 1) := by decide +kernel
theorem dX5_bestBuy_6 : decode cX5_bestBuy 6 = .ok (.iconst 0, 1) := by decide +kernel
theorem dX5_bestBuy_7 : decode cX5_bestBuy 7 = .ok (.istore_n 3, 1) := by decide +kernel
theorem dX5_bestBuy_8 : decode cX5_bestBuy 8 = .ok (.iload_n 3, 1) := by decide +kernel
theorem dX5_bestBuy_9 : decode cX5_bestBuy 9 = .ok (.aload_n 0, 1) := by decide +kernel
theorem dX5_bestBuy_10 : decode cX5_bestBuy 10 = .ok (.invokevirtual 58, 3) := by decide +kernel
theorem dX5_bestBuy_13 : decode cX5_bestBuy 13 = .ok (.if_icmp .ge 72, 3) := by decide +kernel
theorem dX5_bestBuy_16 : decode cX5_bestBuy 16 = .ok (.aload_n 0, 1) := by decide +kernel
theorem dX5_bestBuy_17 : decode cX5_bestBuy 17 = .ok (.iload_n 3, 1) := by decide +kernel
theorem dX5_bestBuy_18 : decode cX5_bestBuy 18 = .ok (.sipush 255, 3) := by decide +kernel
theorem dX5_bestBuy_21 : decode cX5_bestBuy 21 = .ok (.invokevirtual 187, 3) := by decide +kernel
theorem dX5_bestBuy_24 : decode cX5_bestBuy 24 = .ok (.invokestatic 67, 3) := by decide +kernel
theorem dX5_bestBuy_27 : decode cX5_bestBuy 27 = .ok (.iload_n 1, 1) := by decide +kernel
theorem dX5_bestBuy_28 : decode cX5_bestBuy 28 = .ok (.if_icmp .lt 51, 3) := by decide +kernel
theorem dX5_bestBuy_31 : decode cX5_bestBuy 31 = .ok (.iload_n 2, 1) := by decide +kernel
theorem dX5_bestBuy_32 : decode cX5_bestBuy 32 = .ok (.ifCond .ge 7, 3) := by decide +kernel
theorem dX5_bestBuy_35 : decode cX5_bestBuy 35 = .ok (.iconst (-1), 1) := by decide +kernel
theorem dX5_bestBuy_36 : decode cX5_bestBuy 36 = .ok (.goto 14, 3) := by decide +kernel
theorem dX5_bestBuy_39 : decode cX5_bestBuy 39 = .ok (.aload_n 0, 1) := by decide +kernel
theorem dX5_bestBuy_40 : decode cX5_bestBuy 40 = .ok (.iload_n 3, 1) := by decide +kernel
theorem dX5_bestBuy_41 : decode cX5_bestBuy 41 = .ok (.invokevirtual 154, 3) := by decide +kernel
theorem dX5_bestBuy_44 : decode cX5_bestBuy 44 = .ok (.aload_n 0, 1) := by decide +kernel
theorem dX5_bestBuy_45 : decode cX5_bestBuy 45 = .ok (.iload_n 2, 1) := by decide +kernel
theorem dX5_bestBuy_46 : decode cX5_bestBuy 46 = .ok (.invokevirtual 154, 3) := by decide +kernel
theorem dX5_bestBuy_49 : decode cX5_bestBuy 49 = .ok (.isub, 1) := by decide +kernel
theorem dX5_bestBuy_50 : decode cX5_bestBuy 50 = .ok (.istore 4, 2) := by decide +kernel
theorem dX5_bestBuy_52 : decode cX5_bestBuy 52 = .ok (.iload 4, 2) := by decide +kernel
theorem dX5_bestBuy_54 : decode cX5_bestBuy 54 = .ok (.ifCond .lt 19, 3) := by decide +kernel
theorem dX5_bestBuy_57 : decode cX5_bestBuy 57 = .ok (.iload 4, 2) := by decide +kernel
theorem dX5_bestBuy_59 : decode cX5_bestBuy 59 = .ok (.ifCond .ne 18, 3) := by decide +kernel
theorem dX5_bestBuy_62 : decode cX5_bestBuy 62 = .ok (.iload_n 3, 1) := by decide +kernel
theorem dX5_bestBuy_63 : decode cX5_bestBuy 63 = .ok (.invokestatic 67, 3) := by decide +kernel
theorem dX5_bestBuy_66 : decode cX5_bestBuy 66 = .ok (.iload_n 2, 1) := by decide +kernel
theorem dX5_bestBuy_67 : decode cX5_bestBuy 67 = .ok (.invokestatic 67, 3) := by decide +kernel
theorem dX5_bestBuy_70 : decode cX5_bestBuy 70 = .ok (.if_icmp .ge 7, 3) := by decide +kernel
theorem dX5_bestBuy_73 : decode cX5_bestBuy 73 = .ok (.iload_n 3, 1) := by decide +kernel
theorem dX5_bestBuy_74 : decode cX5_bestBuy 74 = .ok (.goto 4, 3) := by decide +kernel
theorem dX5_bestBuy_77 : decode cX5_bestBuy 77 = .ok (.iload_n 2, 1) := by decide +kernel
theorem dX5_bestBuy_78 : decode cX5_bestBuy 78 = .ok (.istore_n 2, 1) := by decide +kernel
theorem dX5_bestBuy_79 : decode cX5_bestBuy 79 = .ok (.iinc 3 1, 3) := by decide +kernel
theorem dX5_bestBuy_82 : decode cX5_bestBuy 82 = .ok (.goto (-74), 3) := by decide +kernel
theorem dX5_bestBuy_85 : decode cX5_bestBuy 85 = .ok (.iload_n 2, 1) := by decide +kernel
theorem dX5_bestBuy_86 : decode cX5_bestBuy 86 = .ok (.ireturn, 1) := by decide +kernel
theorem dX5_buys_0 : decode cX5_buys 0 = .ok (.iload_n 1, 1) := by decide +kernel
theorem dX5_buys_1 : decode cX5_buys 1 = .ok (.i2l, 1) := by decide +kernel
theorem dX5_buys_2 : decode cX5_buys 2 = .ok (.lconst 0, 1) := by decide +kernel
theorem dX5_buys_3 : decode cX5_buys 3 = .ok (.ldc2_w 190, 3) := by decide +kernel
theorem dX5_buys_6 : decode cX5_buys 6 = .ok (.invokestatic 54, 3) := by decide +kernel
theorem dX5_buys_9 : decode cX5_buys 9 = .ok (.ifCond .eq 15, 3) := by decide +kernel
theorem dX5_buys_12 : decode cX5_buys 12 = .ok (.aload_n 0, 1) := by decide +kernel
theorem dX5_buys_13 : decode cX5_buys 13 = .ok (.aload_n 0, 1) := by decide +kernel
theorem dX5_buys_14 : decode cX5_buys 14 = .ok (.iload_n 1, 1) := by decide +kernel
theorem dX5_buys_15 : decode cX5_buys 15 = .ok (.invokevirtual 192, 3) := by decide +kernel
theorem dX5_buys_18 : decode cX5_buys 18 = .ok (.invokevirtual 176, 3) := by decide +kernel
theorem dX5_buys_21 : decode cX5_buys 21 = .ok (.goto 9, 3) := by decide +kernel
theorem dX5_buys_24 : decode cX5_buys 24 = .ok (.aload_n 0, 1) := by decide +kernel
theorem dX5_buys_25 : decode cX5_buys 25 = .ok (.ldc 48, 2) := by decide +kernel
theorem dX5_buys_27 : decode cX5_buys 27 = .ok (.invokevirtual 50, 3) := by decide +kernel
theorem dX5_buys_30 : decode cX5_buys 30 = .ok (.ireturn, 1) := by decide +kernel
theorem dX5_price_0 : decode cX5_price 0 = .ok (.iload_n 1, 1) := by decide +kernel
theorem dX5_price_1 : decode cX5_price 1 = .ok (.i2l, 1) := by decide +kernel
theorem dX5_price_2 : decode cX5_price 2 = .ok (.lconst 0, 1) := by decide +kernel
theorem dX5_price_3 : decode cX5_price 3 = .ok (.ldc2_w 190, 3) := by decide +kernel
theorem dX5_price_6 : decode cX5_price 6 = .ok (.invokestatic 54, 3) := by decide +kernel
theorem dX5_price_9 : decode cX5_price 9 = .ok (.ifCond .ne 10, 3) := by decide +kernel
theorem dX5_price_12 : decode cX5_price 12 = .ok (.aload_n 0, 1) := by decide +kernel
theorem dX5_price_13 : decode cX5_price 13 = .ok (.ldc 48, 2) := by decide +kernel
theorem dX5_price_15 : decode cX5_price 15 = .ok (.invokevirtual 50, 3) := by decide +kernel
theorem dX5_price_18 : decode cX5_price 18 = .ok (.ireturn, 1) := by decide +kernel
theorem dX5_price_19 : decode cX5_price 19 = .ok (.aload_n 0, 1) := by decide +kernel
theorem dX5_price_20 : decode cX5_price 20 = .ok (.iload_n 1, 1) := by decide +kernel
theorem dX5_price_21 : decode cX5_price 21 = .ok (.invokevirtual 192, 3) := by decide +kernel
theorem dX5_price_24 : decode cX5_price 24 = .ok (.istore_n 2, 1) := by decide +kernel
theorem dX5_price_25 : decode cX5_price 25 = .ok (.iload_n 2, 1) := by decide +kernel
theorem dX5_price_26 : decode cX5_price 26 = .ok (.ifCond .ge 12, 3) := by decide +kernel
theorem dX5_price_29 : decode cX5_price 29 = .ok (.aload_n 0, 1) := by decide +kernel
theorem dX5_price_30 : decode cX5_price 30 = .ok (.ldc 49, 2) := by decide +kernel
theorem dX5_price_32 : decode cX5_price 32 = .ok (.invokevirtual 50, 3) := by decide +kernel
theorem dX5_price_35 : decode cX5_price 35 = .ok (.goto 8, 3) := by decide +kernel
theorem dX5_price_38 : decode cX5_price 38 = .ok (.aload_n 0, 1) := by decide +kernel
theorem dX5_price_39 : decode cX5_price 39 = .ok (.iload_n 2, 1) := by decide +kernel
theorem dX5_price_40 : decode cX5_price 40 = .ok (.invokevirtual 154, 3) := by decide +kernel
theorem dX5_price_43 : decode cX5_price 43 = .ok (.ireturn, 1) := by decide +kernel
theorem dX5_spoils_0 : decode cX5_spoils 0 = .ok (.aload_n 0, 1) := by decide +kernel
theorem dX5_spoils_1 : decode cX5_spoils 1 = .ok (.invokevirtual 170, 3) := by decide +kernel
theorem dX5_spoils_4 : decode cX5_spoils 4 = .ok (.iconst (-1), 1) := by decide +kernel
theorem dX5_spoils_5 : decode cX5_spoils 5 = .ok (.istore_n 1, 1) := by decide +kernel
theorem dX5_spoils_6 : decode cX5_spoils 6 = .ok (.bipush 9, 2) := by decide +kernel
theorem dX5_spoils_8 : decode cX5_spoils 8 = .ok (.istore_n 2, 1) := by decide +kernel
theorem dX5_spoils_9 : decode cX5_spoils 9 = .ok (.iconst 0, 1) := by decide +kernel
theorem dX5_spoils_10 : decode cX5_spoils 10 = .ok (.istore_n 3, 1) := by decide +kernel
theorem dX5_spoils_11 : decode cX5_spoils 11 = .ok (.iload_n 3, 1) := by decide +kernel
theorem dX5_spoils_12 : decode cX5_spoils 12 = .ok (.aload_n 0, 1) := by decide +kernel
theorem dX5_spoils_13 : decode cX5_spoils 13 = .ok (.getfield 7, 3) := by decide +kernel
theorem dX5_spoils_16 : decode cX5_spoils 16 = .ok (.iconst 0, 1) := by decide +kernel
theorem dX5_spoils_17 : decode cX5_spoils 17 = .ok (.iaload, 1) := by decide +kernel
theorem dX5_spoils_18 : decode cX5_spoils 18 = .ok (.if_icmp .ge 53, 3) := by decide +kernel
theorem dX5_spoils_21 : decode cX5_spoils 21 = .ok (.aload_n 0, 1) := by decide +kernel
theorem dX5_spoils_22 : decode cX5_spoils 22 = .ok (.iconst 0, 1) := by decide +kernel
theorem dX5_spoils_23 : decode cX5_spoils 23 = .ok (.sipush 255, 3) := by decide +kernel
theorem dX5_spoils_26 : decode cX5_spoils 26 = .ok (.iconst 1, 1) := by decide +kernel
theorem dX5_spoils_27 : decode cX5_spoils 27 = .ok (.iload_n 3, 1) := by decide +kernel
theorem dX5_spoils_28 : decode cX5_spoils 28 = .ok (.ishl, 1) := by decide +kernel
theorem dX5_spoils_29 : decode cX5_spoils 29 = .ok (.iconst (-1), 1) := by decide +kernel
theorem dX5_spoils_30 : decode cX5_spoils 30 = .ok (.ixor, 1) := by decide +kernel
theorem dX5_spoils_31 : decode cX5_spoils 31 = .ok (.iand, 1) := by decide +kernel
theorem dX5_spoils_32 : decode cX5_spoils 32 = .ok (.invokevirtual 187, 3) := by decide +kernel
theorem dX5_spoils_35 : decode cX5_spoils 35 = .ok (.invokestatic 67, 3) := by decide +kernel
theorem dX5_spoils_38 : decode cX5_spoils 38 = .ok (.istore 4, 2) := by decide +kernel
theorem dX5_spoils_40 : decode cX5_spoils 40 = .ok (.iload 4, 2) := by decide +kernel
theorem dX5_spoils_42 : decode cX5_spoils 42 = .ok (.iload_n 2, 1) := by decide +kernel
theorem dX5_spoils_43 : decode cX5_spoils 43 = .ok (.if_icmp .ge 7, 3) := by decide +kernel
theorem dX5_spoils_46 : decode cX5_spoils 46 = .ok (.iload_n 3, 1) := by decide +kernel
theorem dX5_spoils_47 : decode cX5_spoils 47 = .ok (.goto 4, 3) := by decide +kernel
theorem dX5_spoils_50 : decode cX5_spoils 50 = .ok (.iload_n 1, 1) := by decide +kernel
theorem dX5_spoils_51 : decode cX5_spoils 51 = .ok (.istore_n 1, 1) := by decide +kernel
theorem dX5_spoils_52 : decode cX5_spoils 52 = .ok (.iload 4, 2) := by decide +kernel
theorem dX5_spoils_54 : decode cX5_spoils 54 = .ok (.iload_n 2, 1) := by decide +kernel
theorem dX5_spoils_55 : decode cX5_spoils 55 = .ok (.if_icmp .ge 8, 3) := by decide +kernel
theorem dX5_spoils_58 : decode cX5_spoils 58 = .ok (.iload 4, 2) := by decide +kernel
theorem dX5_spoils_60 : decode cX5_spoils 60 = .ok (.goto 4, 3) := by decide +kernel
theorem dX5_spoils_63 : decode cX5_spoils 63 = .ok (.iload_n 2, 1) := by decide +kernel
theorem dX5_spoils_64 : decode cX5_spoils 64 = .ok (.istore_n 2, 1) := by decide +kernel
theorem dX5_spoils_65 : decode cX5_spoils 65 = .ok (.iinc 3 1, 3) := by decide +kernel
theorem dX5_spoils_68 : decode cX5_spoils 68 = .ok (.goto (-57), 3) := by decide +kernel
theorem dX5_spoils_71 : decode cX5_spoils 71 = .ok (.aload_n 0, 1) := by decide +kernel
theorem dX5_spoils_72 : decode cX5_spoils 72 = .ok (.iload_n 1, 1) := by decide +kernel
theorem dX5_spoils_73 : decode cX5_spoils 73 = .ok (.invokevirtual 176, 3) := by decide +kernel
theorem dX5_spoils_76 : decode cX5_spoils 76 = .ok (.ireturn, 1) := by decide +kernel
theorem dX5_invites_0 : decode cX5_invites 0 = .ok (.iload_n 1, 1) := by decide +kernel
theorem dX5_invites_1 : decode cX5_invites 1 = .ok (.i2l, 1) := by decide +kernel
theorem dX5_invites_2 : decode cX5_invites 2 = .ok (.lconst 0, 1) := by decide +kernel
theorem dX5_invites_3 : decode cX5_invites 3 = .ok (.ldc2_w 190, 3) := by decide +kernel
theorem dX5_invites_6 : decode cX5_invites 6 = .ok (.invokestatic 54, 3) := by decide +kernel
theorem dX5_invites_9 : decode cX5_invites 9 = .ok (.ifCond .eq 20, 3) := by decide +kernel
theorem dX5_invites_12 : decode cX5_invites 12 = .ok (.iload_n 2, 1) := by decide +kernel
theorem dX5_invites_13 : decode cX5_invites 13 = .ok (.i2l, 1) := by decide +kernel
theorem dX5_invites_14 : decode cX5_invites 14 = .ok (.lconst 0, 1) := by decide +kernel
theorem dX5_invites_15 : decode cX5_invites 15 = .ok (.ldc2_w 190, 3) := by decide +kernel
theorem dX5_invites_18 : decode cX5_invites 18 = .ok (.invokestatic 54, 3) := by decide +kernel
theorem dX5_invites_21 : decode cX5_invites 21 = .ok (.ifCond .eq 8, 3) := by decide +kernel
theorem dX5_invites_24 : decode cX5_invites 24 = .ok (.iload_n 1, 1) := by decide +kernel
theorem dX5_invites_25 : decode cX5_invites 25 = .ok (.iload_n 2, 1) := by decide +kernel
theorem dX5_invites_26 : decode cX5_invites 26 = .ok (.if_icmp .le 10, 3) := by decide +kernel
theorem dX5_invites_29 : decode cX5_invites 29 = .ok (.aload_n 0, 1) := by decide +kernel
theorem dX5_invites_30 : decode cX5_invites 30 = .ok (.ldc 48, 2) := by decide +kernel
theorem dX5_invites_32 : decode cX5_invites 32 = .ok (.invokevirtual 50, 3) := by decide +kernel
theorem dX5_invites_35 : decode cX5_invites 35 = .ok (.ireturn, 1) := by decide +kernel
theorem dX5_invites_36 : decode cX5_invites 36 = .ok (.aload_n 0, 1) := by decide +kernel
theorem dX5_invites_37 : decode cX5_invites 37 = .ok (.invokevirtual 170, 3) := by decide +kernel
theorem dX5_invites_40 : decode cX5_invites 40 = .ok (.iconst (-1), 1) := by decide +kernel
theorem dX5_invites_41 : decode cX5_invites 41 = .ok (.istore_n 3, 1) := by decide +kernel
theorem dX5_invites_42 : decode cX5_invites 42 = .ok (.iconst 0, 1) := by decide +kernel
theorem dX5_invites_43 : decode cX5_invites 43 = .ok (.istore 4, 2) := by decide +kernel
theorem dX5_invites_45 : decode cX5_invites 45 = .ok (.iload 4, 2) := by decide +kernel
theorem dX5_invites_47 : decode cX5_invites 47 = .ok (.aload_n 0, 1) := by decide +kernel
theorem dX5_invites_48 : decode cX5_invites 48 = .ok (.invokevirtual 58, 3) := by decide +kernel
theorem dX5_invites_51 : decode cX5_invites 51 = .ok (.if_icmp .ge 84, 3) := by decide +kernel
theorem dX5_invites_54 : decode cX5_invites 54 = .ok (.aload_n 0, 1) := by decide +kernel
theorem dX5_invites_55 : decode cX5_invites 55 = .ok (.iconst 0, 1) := by decide +kernel
theorem dX5_invites_56 : decode cX5_invites 56 = .ok (.iload 4, 2) := by decide +kernel
theorem dX5_invites_58 : decode cX5_invites 58 = .ok (.invokevirtual 187, 3) := by decide +kernel
theorem dX5_invites_61 : decode cX5_invites 61 = .ok (.istore 5, 2) := by decide +kernel
theorem dX5_invites_63 : decode cX5_invites 63 = .ok (.iload 5, 2) := by decide +kernel
theorem dX5_invites_65 : decode cX5_invites 65 = .ok (.invokestatic 67, 3) := by decide +kernel
theorem dX5_invites_68 : decode cX5_invites 68 = .ok (.i2l, 1) := by decide +kernel
theorem dX5_invites_69 : decode cX5_invites 69 = .ok (.iload_n 1, 1) := by decide +kernel
theorem dX5_invites_70 : decode cX5_invites 70 = .ok (.i2l, 1) := by decide +kernel
theorem dX5_invites_71 : decode cX5_invites 71 = .ok (.iload_n 2, 1) := by decide +kernel
theorem dX5_invites_72 : decode cX5_invites 72 = .ok (.i2l, 1) := by decide +kernel
theorem dX5_invites_73 : decode cX5_invites 73 = .ok (.invokestatic 54, 3) := by decide +kernel
theorem dX5_invites_76 : decode cX5_invites 76 = .ok (.ifCond .eq 22, 3) := by decide +kernel
theorem dX5_invites_79 : decode cX5_invites 79 = .ok (.aload_n 0, 1) := by decide +kernel
theorem dX5_invites_80 : decode cX5_invites 80 = .ok (.getfield 29, 3) := by decide +kernel
theorem dX5_invites_83 : decode cX5_invites 83 = .ok (.iload 5, 2) := by decide +kernel
theorem dX5_invites_85 : decode cX5_invites 85 = .ok (.iaload, 1) := by decide +kernel
theorem dX5_invites_86 : decode cX5_invites 86 = .ok (.iload 4, 2) := by decide +kernel
theorem dX5_invites_88 : decode cX5_invites 88 = .ok (.iand, 1) := by decide +kernel
theorem dX5_invites_89 : decode cX5_invites 89 = .ok (.iload 5, 2) := by decide +kernel
theorem dX5_invites_91 : decode cX5_invites 91 = .ok (.if_icmp .ne 7, 3) := by decide +kernel
theorem dX5_invites_94 : decode cX5_invites 94 = .ok (.iconst 1, 1) := by decide +kernel
theorem dX5_invites_95 : decode cX5_invites 95 = .ok (.goto 4, 3) := by decide +kernel
theorem dX5_invites_98 : decode cX5_invites 98 = .ok (.iconst 0, 1) := by decide +kernel
theorem dX5_invites_99 : decode cX5_invites 99 = .ok (.istore 6, 2) := by decide +kernel
theorem dX5_invites_101 : decode cX5_invites 101 = .ok (.iload 6, 2) := by decide +kernel
theorem dX5_invites_103 : decode cX5_invites 103 = .ok (.ifCond .eq 24, 3) := by decide +kernel
theorem dX5_invites_106 : decode cX5_invites 106 = .ok (.iload_n 3, 1) := by decide +kernel
theorem dX5_invites_107 : decode cX5_invites 107 = .ok (.ifCond .lt 15, 3) := by decide +kernel
theorem dX5_invites_110 : decode cX5_invites 110 = .ok (.iload 4, 2) := by decide +kernel
theorem dX5_invites_112 : decode cX5_invites 112 = .ok (.invokestatic 67, 3) := by decide +kernel
theorem dX5_invites_115 : decode cX5_invites 115 = .ok (.iload_n 3, 1) := by decide +kernel
theorem dX5_invites_116 : decode cX5_invites 116 = .ok (.invokestatic 67, 3) := by decide +kernel
theorem dX5_invites_119 : decode cX5_invites 119 = .ok (.if_icmp .ge 8, 3) := by decide +kernel
theorem dX5_invites_122 : decode cX5_invites 122 = .ok (.iload 4, 2) := by decide +kernel
theorem dX5_invites_124 : decode cX5_invites 124 = .ok (.goto 4, 3) := by decide +kernel
theorem dX5_invites_127 : decode cX5_invites 127 = .ok (.iload_n 3, 1) := by decide +kernel
theorem dX5_invites_128 : decode cX5_invites 128 = .ok (.istore_n 3, 1) := by decide +kernel
theorem dX5_invites_129 : decode cX5_invites 129 = .ok (.iinc 4 1, 3) := by decide +kernel
theorem dX5_invites_132 : decode cX5_invites 132 = .ok (.goto (-87), 3) := by decide +kernel
theorem dX5_invites_135 : decode cX5_invites 135 = .ok (.aload_n 0, 1) := by decide +kernel
theorem dX5_invites_136 : decode cX5_invites 136 = .ok (.iload_n 3, 1) := by decide +kernel
theorem dX5_invites_137 : decode cX5_invites 137 = .ok (.invokevirtual 176, 3) := by decide +kernel
theorem dX5_invites_140 : decode cX5_invites 140 = .ok (.ireturn, 1) := by decide +kernel
theorem dX5_against_0 : decode cX5_against 0 = .ok (.aload_n 0, 1) := by decide +kernel
theorem dX5_against_1 : decode cX5_against 1 = .ok (.iload_n 1, 1) := by decide +kernel
theorem dX5_against_2 : decode cX5_against 2 = .ok (.invokevirtual 87, 3) := by decide +kernel
theorem dX5_against_5 : decode cX5_against 5 = .ok (.ifCond .eq 16, 3) := by decide +kernel
theorem dX5_against_8 : decode cX5_against 8 = .ok (.aload_n 0, 1) := by decide +kernel
theorem dX5_against_9 : decode cX5_against 9 = .ok (.iload_n 2, 1) := by decide +kernel
theorem dX5_against_10 : decode cX5_against 10 = .ok (.invokevirtual 87, 3) := by decide +kernel
theorem dX5_against_13 : decode cX5_against 13 = .ok (.ifCond .eq 8, 3) := by decide +kernel
theorem dX5_against_16 : decode cX5_against 16 = .ok (.iload_n 1, 1) := by decide +kernel
theorem dX5_against_17 : decode cX5_against 17 = .ok (.iload_n 2, 1) := by decide +kernel
theorem dX5_against_18 : decode cX5_against 18 = .ok (.if_icmp .ne 10, 3) := by decide +kernel
theorem dX5_against_21 : decode cX5_against 21 = .ok (.aload_n 0, 1) := by decide +kernel
theorem dX5_against_22 : decode cX5_against 22 = .ok (.ldc 48, 2) := by decide +kernel
theorem dX5_against_24 : decode cX5_against 24 = .ok (.invokevirtual 50, 3) := by decide +kernel
theorem dX5_against_27 : decode cX5_against 27 = .ok (.ireturn, 1) := by decide +kernel
theorem dX5_against_28 : decode cX5_against 28 = .ok (.aload_n 0, 1) := by decide +kernel
theorem dX5_against_29 : decode cX5_against 29 = .ok (.invokevirtual 170, 3) := by decide +kernel
theorem dX5_against_32 : decode cX5_against 32 = .ok (.iconst 0, 1) := by decide +kernel
theorem dX5_against_33 : decode cX5_against 33 = .ok (.istore_n 3, 1) := by decide +kernel
theorem dX5_against_34 : decode cX5_against 34 = .ok (.iconst 0, 1) := by decide +kernel
theorem dX5_against_35 : decode cX5_against 35 = .ok (.istore 4, 2) := by decide +kernel
theorem dX5_against_37 : decode cX5_against 37 = .ok (.iconst 0, 1) := by decide +kernel
theorem dX5_against_38 : decode cX5_against 38 = .ok (.istore 5, 2) := by decide +kernel
theorem dX5_against_40 : decode cX5_against 40 = .ok (.iconst 0, 1) := by decide +kernel
theorem dX5_against_41 : decode cX5_against 41 = .ok (.istore 6, 2) := by decide +kernel
theorem dX5_against_43 : decode cX5_against 43 = .ok (.iload 6, 2) := by decide +kernel
theorem dX5_against_45 : decode cX5_against 45 = .ok (.aload_n 0, 1) := by decide +kernel
theorem dX5_against_46 : decode cX5_against 46 = .ok (.invokevirtual 58, 3) := by decide +kernel
theorem dX5_against_49 : decode cX5_against 49 = .ok (.if_icmp .ge 113, 3) := by decide +kernel
theorem dX5_against_52 : decode cX5_against 52 = .ok (.aload_n 0, 1) := by decide +kernel
theorem dX5_against_53 : decode cX5_against 53 = .ok (.getfield 29, 3) := by decide +kernel
theorem dX5_against_56 : decode cX5_against 56 = .ok (.iload 6, 2) := by decide +kernel
theorem dX5_against_58 : decode cX5_against 58 = .ok (.iaload, 1) := by decide +kernel
theorem dX5_against_59 : decode cX5_against 59 = .ok (.iload 6, 2) := by decide +kernel
theorem dX5_against_61 : decode cX5_against 61 = .ok (.if_icmp .ne 7, 3) := by decide +kernel
theorem dX5_against_64 : decode cX5_against 64 = .ok (.iconst 1, 1) := by decide +kernel
theorem dX5_against_65 : decode cX5_against 65 = .ok (.goto 4, 3) := by decide +kernel
theorem dX5_against_68 : decode cX5_against 68 = .ok (.iconst 0, 1) := by decide +kernel
theorem dX5_against_69 : decode cX5_against 69 = .ok (.istore 7, 2) := by decide +kernel
theorem dX5_against_71 : decode cX5_against 71 = .ok (.iload_n 3, 1) := by decide +kernel
theorem dX5_against_72 : decode cX5_against 72 = .ok (.ifCond .ne 17, 3) := by decide +kernel
theorem dX5_against_75 : decode cX5_against 75 = .ok (.iload 7, 2) := by decide +kernel
theorem dX5_against_77 : decode cX5_against 77 = .ok (.ifCond .eq 16, 3) := by decide +kernel
theorem dX5_against_80 : decode cX5_against 80 = .ok (.iload 6, 2) := by decide +kernel
theorem dX5_against_82 : decode cX5_against 82 = .ok (.iload_n 1, 1) := by decide +kernel
theorem dX5_against_83 : decode cX5_against 83 = .ok (.invokestatic 74, 3) := by decide +kernel
theorem dX5_against_86 : decode cX5_against 86 = .ok (.ifCond .eq 7, 3) := by decide +kernel
theorem dX5_against_89 : decode cX5_against 89 = .ok (.iconst 1, 1) := by decide +kernel
theorem dX5_against_90 : decode cX5_against 90 = .ok (.goto 4, 3) := by decide +kernel
theorem dX5_against_93 : decode cX5_against 93 = .ok (.iconst 0, 1) := by decide +kernel
theorem dX5_against_94 : decode cX5_against 94 = .ok (.istore_n 3, 1) := by decide +kernel
theorem dX5_against_95 : decode cX5_against 95 = .ok (.iload 4, 2) := by decide +kernel
theorem dX5_against_97 : decode cX5_against 97 = .ok (.ifCond .ne 17, 3) := by decide +kernel
theorem dX5_against_100 : decode cX5_against 100 = .ok (.iload 7, 2) := by decide +kernel
theorem dX5_against_102 : decode cX5_against 102 = .ok (.ifCond .eq 16, 3) := by decide +kernel
theorem dX5_against_105 : decode cX5_against 105 = .ok (.iload 6, 2) := by decide +kernel
theorem dX5_against_107 : decode cX5_against 107 = .ok (.iload_n 2, 1) := by decide +kernel
theorem dX5_against_108 : decode cX5_against 108 = .ok (.invokestatic 74, 3) := by decide +kernel
theorem dX5_against_111 : decode cX5_against 111 = .ok (.ifCond .eq 7, 3) := by decide +kernel
theorem dX5_against_114 : decode cX5_against 114 = .ok (.iconst 1, 1) := by decide +kernel
theorem dX5_against_115 : decode cX5_against 115 = .ok (.goto 4, 3) := by decide +kernel
theorem dX5_against_118 : decode cX5_against 118 = .ok (.iconst 0, 1) := by decide +kernel
theorem dX5_against_119 : decode cX5_against 119 = .ok (.istore 4, 2) := by decide +kernel
theorem dX5_against_121 : decode cX5_against 121 = .ok (.iload 5, 2) := by decide +kernel
theorem dX5_against_123 : decode cX5_against 123 = .ok (.ifCond .ne 26, 3) := by decide +kernel
theorem dX5_against_126 : decode cX5_against 126 = .ok (.iload 7, 2) := by decide +kernel
theorem dX5_against_128 : decode cX5_against 128 = .ok (.ifCond .eq 25, 3) := by decide +kernel
theorem dX5_against_131 : decode cX5_against 131 = .ok (.iload 6, 2) := by decide +kernel
theorem dX5_against_133 : decode cX5_against 133 = .ok (.iload_n 1, 1) := by decide +kernel
theorem dX5_against_134 : decode cX5_against 134 = .ok (.invokestatic 74, 3) := by decide +kernel
theorem dX5_against_137 : decode cX5_against 137 = .ok (.ifCond .eq 16, 3) := by decide +kernel
theorem dX5_against_140 : decode cX5_against 140 = .ok (.iload 6, 2) := by decide +kernel
theorem dX5_against_142 : decode cX5_against 142 = .ok (.iload_n 2, 1) := by decide +kernel
theorem dX5_against_143 : decode cX5_against 143 = .ok (.invokestatic 74, 3) := by decide +kernel
theorem dX5_against_146 : decode cX5_against 146 = .ok (.ifCond .eq 7, 3) := by decide +kernel
theorem dX5_against_149 : decode cX5_against 149 = .ok (.iconst 1, 1) := by decide +kernel
theorem dX5_against_150 : decode cX5_against 150 = .ok (.goto 4, 3) := by decide +kernel
theorem dX5_against_153 : decode cX5_against 153 = .ok (.iconst 0, 1) := by decide +kernel
theorem dX5_against_154 : decode cX5_against 154 = .ok (.istore 5, 2) := by decide +kernel
theorem dX5_against_156 : decode cX5_against 156 = .ok (.iinc 6 1, 3) := by decide +kernel
theorem dX5_against_159 : decode cX5_against 159 = .ok (.goto (-116), 3) := by decide +kernel
theorem dX5_against_162 : decode cX5_against 162 = .ok (.iload_n 3, 1) := by decide +kernel
theorem dX5_against_163 : decode cX5_against 163 = .ok (.ifCond .eq 17, 3) := by decide +kernel
theorem dX5_against_166 : decode cX5_against 166 = .ok (.iload 4, 2) := by decide +kernel
theorem dX5_against_168 : decode cX5_against 168 = .ok (.ifCond .eq 12, 3) := by decide +kernel
theorem dX5_against_171 : decode cX5_against 171 = .ok (.iload 5, 2) := by decide +kernel
theorem dX5_against_173 : decode cX5_against 173 = .ok (.ifCond .ne 7, 3) := by decide +kernel
theorem dX5_against_176 : decode cX5_against 176 = .ok (.iconst 1, 1) := by decide +kernel
theorem dX5_against_177 : decode cX5_against 177 = .ok (.goto 4, 3) := by decide +kernel
theorem dX5_against_180 : decode cX5_against 180 = .ok (.iconst 0, 1) := by decide +kernel
theorem dX5_against_181 : decode cX5_against 181 = .ok (.ireturn, 1) := by decide +kernel
theorem dX5_minds_0 : decode cX5_minds 0 = .ok (.aload_n 0, 1) := by decide +kernel
theorem dX5_minds_1 : decode cX5_minds 1 = .ok (.iload_n 1, 1) := by decide +kernel
theorem dX5_minds_2 : decode cX5_minds 2 = .ok (.invokevirtual 87, 3) := by decide +kernel
theorem dX5_minds_5 : decode cX5_minds 5 = .ok (.ifCond .ne 10, 3) := by decide +kernel
theorem dX5_minds_8 : decode cX5_minds 8 = .ok (.aload_n 0, 1) := by decide +kernel
theorem dX5_minds_9 : decode cX5_minds 9 = .ok (.ldc 48, 2) := by decide +kernel
theorem dX5_minds_11 : decode cX5_minds 11 = .ok (.invokevirtual 50, 3) := by decide +kernel
theorem dX5_minds_14 : decode cX5_minds 14 = .ok (.ireturn, 1) := by decide +kernel
theorem dX5_minds_15 : decode cX5_minds 15 = .ok (.aload_n 0, 1) := by decide +kernel
theorem dX5_minds_16 : decode cX5_minds 16 = .ok (.invokevirtual 170, 3) := by decide +kernel
theorem dX5_minds_19 : decode cX5_minds 19 = .ok (.iconst 0, 1) := by decide +kernel
theorem dX5_minds_20 : decode cX5_minds 20 = .ok (.istore_n 2, 1) := by decide +kernel
theorem dX5_minds_21 : decode cX5_minds 21 = .ok (.iconst 0, 1) := by decide +kernel
theorem dX5_minds_22 : decode cX5_minds 22 = .ok (.istore_n 3, 1) := by decide +kernel
theorem dX5_minds_23 : decode cX5_minds 23 = .ok (.iload_n 3, 1) := by decide +kernel
theorem dX5_minds_24 : decode cX5_minds 24 = .ok (.aload_n 0, 1) := by decide +kernel
theorem dX5_minds_25 : decode cX5_minds 25 = .ok (.invokevirtual 58, 3) := by decide +kernel
theorem dX5_minds_28 : decode cX5_minds 28 = .ok (.if_icmp .ge 29, 3) := by decide +kernel
theorem dX5_minds_31 : decode cX5_minds 31 = .ok (.iload_n 2, 1) := by decide +kernel
theorem dX5_minds_32 : decode cX5_minds 32 = .ok (.aload_n 0, 1) := by decide +kernel
theorem dX5_minds_33 : decode cX5_minds 33 = .ok (.getfield 29, 3) := by decide +kernel
theorem dX5_minds_36 : decode cX5_minds 36 = .ok (.iload_n 3, 1) := by decide +kernel
theorem dX5_minds_37 : decode cX5_minds 37 = .ok (.iaload, 1) := by decide +kernel
theorem dX5_minds_38 : decode cX5_minds 38 = .ok (.aload_n 0, 1) := by decide +kernel
theorem dX5_minds_39 : decode cX5_minds 39 = .ok (.getfield 29, 3) := by decide +kernel
theorem dX5_minds_42 : decode cX5_minds 42 = .ok (.iload_n 3, 1) := by decide +kernel
theorem dX5_minds_43 : decode cX5_minds 43 = .ok (.iconst 1, 1) := by decide +kernel
theorem dX5_minds_44 : decode cX5_minds 44 = .ok (.iload_n 1, 1) := by decide +kernel
theorem dX5_minds_45 : decode cX5_minds 45 = .ok (.ishl, 1) := by decide +kernel
theorem dX5_minds_46 : decode cX5_minds 46 = .ok (.ior, 1) := by decide +kernel
theorem dX5_minds_47 : decode cX5_minds 47 = .ok (.iaload, 1) := by decide +kernel
theorem dX5_minds_48 : decode cX5_minds 48 = .ok (.ixor, 1) := by decide +kernel
theorem dX5_minds_49 : decode cX5_minds 49 = .ok (.ior, 1) := by decide +kernel
theorem dX5_minds_50 : decode cX5_minds 50 = .ok (.istore_n 2, 1) := by decide +kernel
theorem dX5_minds_51 : decode cX5_minds 51 = .ok (.iinc 3 1, 3) := by decide +kernel
theorem dX5_minds_54 : decode cX5_minds 54 = .ok (.goto (-31), 3) := by decide +kernel
theorem dX5_minds_57 : decode cX5_minds 57 = .ok (.iload_n 2, 1) := by decide +kernel
theorem dX5_minds_58 : decode cX5_minds 58 = .ok (.iconst 1, 1) := by decide +kernel
theorem dX5_minds_59 : decode cX5_minds 59 = .ok (.iload_n 1, 1) := by decide +kernel
theorem dX5_minds_60 : decode cX5_minds 60 = .ok (.ishl, 1) := by decide +kernel
theorem dX5_minds_61 : decode cX5_minds 61 = .ok (.iconst (-1), 1) := by decide +kernel
theorem dX5_minds_62 : decode cX5_minds 62 = .ok (.ixor, 1) := by decide +kernel
theorem dX5_minds_63 : decode cX5_minds 63 = .ok (.iand, 1) := by decide +kernel
theorem dX5_minds_64 : decode cX5_minds 64 = .ok (.ireturn, 1) := by decide +kernel
theorem dX5_kind_0 : decode cX5_kind 0 = .ok (.aload_n 0, 1) := by decide +kernel
theorem dX5_kind_1 : decode cX5_kind 1 = .ok (.iload_n 1, 1) := by decide +kernel
theorem dX5_kind_2 : decode cX5_kind 2 = .ok (.invokevirtual 87, 3) := by decide +kernel
theorem dX5_kind_5 : decode cX5_kind 5 = .ok (.ifCond .ne 10, 3) := by decide +kernel
theorem dX5_kind_8 : decode cX5_kind 8 = .ok (.aload_n 0, 1) := by decide +kernel
theorem dX5_kind_9 : decode cX5_kind 9 = .ok (.ldc 48, 2) := by decide +kernel
theorem dX5_kind_11 : decode cX5_kind 11 = .ok (.invokevirtual 50, 3) := by decide +kernel
theorem dX5_kind_14 : decode cX5_kind 14 = .ok (.ireturn, 1) := by decide +kernel
theorem dX5_kind_15 : decode cX5_kind 15 = .ok (.aload_n 0, 1) := by decide +kernel
theorem dX5_kind_16 : decode cX5_kind 16 = .ok (.iload_n 1, 1) := by decide +kernel
theorem dX5_kind_17 : decode cX5_kind 17 = .ok (.iconst 0, 1) := by decide +kernel
theorem dX5_kind_18 : decode cX5_kind 18 = .ok (.invokevirtual 70, 3) := by decide +kernel
theorem dX5_kind_21 : decode cX5_kind 21 = .ok (.istore_n 2, 1) := by decide +kernel
theorem dX5_kind_22 : decode cX5_kind 22 = .ok (.iconst (-1), 1) := by decide +kernel
theorem dX5_kind_23 : decode cX5_kind 23 = .ok (.istore_n 3, 1) := by decide +kernel
theorem dX5_kind_24 : decode cX5_kind 24 = .ok (.iconst (-1), 1) := by decide +kernel
theorem dX5_kind_25 : decode cX5_kind 25 = .ok (.istore 4, 2) := by decide +kernel
theorem dX5_kind_27 : decode cX5_kind 27 = .ok (.iconst 0, 1) := by decide +kernel
theorem dX5_kind_28 : decode cX5_kind 28 = .ok (.istore 5, 2) := by decide +kernel
theorem dX5_kind_30 : decode cX5_kind 30 = .ok (.iload 5, 2) := by decide +kernel
theorem dX5_kind_32 : decode cX5_kind 32 = .ok (.bipush 6, 2) := by decide +kernel
theorem dX5_kind_34 : decode cX5_kind 34 = .ok (.if_icmp .ge 57, 3) := by decide +kernel
theorem dX5_kind_37 : decode cX5_kind 37 = .ok (.aload_n 0, 1) := by decide +kernel
theorem dX5_kind_38 : decode cX5_kind 38 = .ok (.getfield 7, 3) := by decide +kernel
theorem dX5_kind_41 : decode cX5_kind 41 = .ok (.iconst 2, 1) := by decide +kernel
theorem dX5_kind_42 : decode cX5_kind 42 = .ok (.iconst 3, 1) := by decide +kernel
theorem dX5_kind_43 : decode cX5_kind 43 = .ok (.iload_n 1, 1) := by decide +kernel
theorem dX5_kind_44 : decode cX5_kind 44 = .ok (.imul, 1) := by decide +kernel
theorem dX5_kind_45 : decode cX5_kind 45 = .ok (.iadd, 1) := by decide +kernel
theorem dX5_kind_46 : decode cX5_kind 46 = .ok (.iload 5, 2) := by decide +kernel
theorem dX5_kind_48 : decode cX5_kind 48 = .ok (.iastore, 1) := by decide +kernel
theorem dX5_kind_49 : decode cX5_kind 49 = .ok (.aload_n 0, 1) := by decide +kernel
theorem dX5_kind_50 : decode cX5_kind 50 = .ok (.invokevirtual 179, 3) := by decide +kernel
theorem dX5_kind_53 : decode cX5_kind 53 = .ok (.istore 6, 2) := by decide +kernel
theorem dX5_kind_55 : decode cX5_kind 55 = .ok (.iload 6, 2) := by decide +kernel
theorem dX5_kind_57 : decode cX5_kind 57 = .ok (.iload 4, 2) := by decide +kernel
theorem dX5_kind_59 : decode cX5_kind 59 = .ok (.if_icmp .le 8, 3) := by decide +kernel
theorem dX5_kind_62 : decode cX5_kind 62 = .ok (.iload 5, 2) := by decide +kernel
theorem dX5_kind_64 : decode cX5_kind 64 = .ok (.goto 4, 3) := by decide +kernel
theorem dX5_kind_67 : decode cX5_kind 67 = .ok (.iload_n 3, 1) := by decide +kernel
theorem dX5_kind_68 : decode cX5_kind 68 = .ok (.istore_n 3, 1) := by decide +kernel
theorem dX5_kind_69 : decode cX5_kind 69 = .ok (.iload 6, 2) := by decide +kernel
theorem dX5_kind_71 : decode cX5_kind 71 = .ok (.iload 4, 2) := by decide +kernel
theorem dX5_kind_73 : decode cX5_kind 73 = .ok (.if_icmp .le 8, 3) := by decide +kernel
theorem dX5_kind_76 : decode cX5_kind 76 = .ok (.iload 6, 2) := by decide +kernel
theorem dX5_kind_78 : decode cX5_kind 78 = .ok (.goto 5, 3) := by decide +kernel
theorem dX5_kind_81 : decode cX5_kind 81 = .ok (.iload 4, 2) := by decide +kernel
theorem dX5_kind_83 : decode cX5_kind 83 = .ok (.istore 4, 2) := by decide +kernel
theorem dX5_kind_85 : decode cX5_kind 85 = .ok (.iinc 5 1, 3) := by decide +kernel
theorem dX5_kind_88 : decode cX5_kind 88 = .ok (.goto (-58), 3) := by decide +kernel
theorem dX5_kind_91 : decode cX5_kind 91 = .ok (.aload_n 0, 1) := by decide +kernel
theorem dX5_kind_92 : decode cX5_kind 92 = .ok (.getfield 7, 3) := by decide +kernel
theorem dX5_kind_95 : decode cX5_kind 95 = .ok (.iconst 2, 1) := by decide +kernel
theorem dX5_kind_96 : decode cX5_kind 96 = .ok (.iconst 3, 1) := by decide +kernel
theorem dX5_kind_97 : decode cX5_kind 97 = .ok (.iload_n 1, 1) := by decide +kernel
theorem dX5_kind_98 : decode cX5_kind 98 = .ok (.imul, 1) := by decide +kernel
theorem dX5_kind_99 : decode cX5_kind 99 = .ok (.iadd, 1) := by decide +kernel
theorem dX5_kind_100 : decode cX5_kind 100 = .ok (.iload_n 2, 1) := by decide +kernel
theorem dX5_kind_101 : decode cX5_kind 101 = .ok (.iastore, 1) := by decide +kernel
theorem dX5_kind_102 : decode cX5_kind 102 = .ok (.iload_n 3, 1) := by decide +kernel
theorem dX5_kind_103 : decode cX5_kind 103 = .ok (.ireturn, 1) := by decide +kernel
theorem dX5_isOne_0 : decode cX5_isOne 0 = .ok (.iload_n 0, 1) := by decide +kernel
theorem dX5_isOne_1 : decode cX5_isOne 1 = .ok (.i2l, 1) := by decide +kernel
theorem dX5_isOne_2 : decode cX5_isOne 2 = .ok (.lconst 0, 1) := by decide +kernel
theorem dX5_isOne_3 : decode cX5_isOne 3 = .ok (.ldc2_w 182, 3) := by decide +kernel
theorem dX5_isOne_6 : decode cX5_isOne 6 = .ok (.invokestatic 54, 3) := by decide +kernel
theorem dX5_isOne_9 : decode cX5_isOne 9 = .ok (.ireturn, 1) := by decide +kernel
theorem dX5_sheet_0 : decode cX5_sheet 0 = .ok (.iload_n 1, 1) := by decide +kernel
theorem dX5_sheet_1 : decode cX5_sheet 1 = .ok (.invokestatic 195, 3) := by decide +kernel
theorem dX5_sheet_4 : decode cX5_sheet 4 = .ok (.ifCond .eq 25, 3) := by decide +kernel
theorem dX5_sheet_7 : decode cX5_sheet 7 = .ok (.iload_n 2, 1) := by decide +kernel
theorem dX5_sheet_8 : decode cX5_sheet 8 = .ok (.ifCond .eq 28, 3) := by decide +kernel
theorem dX5_sheet_11 : decode cX5_sheet 11 = .ok (.iload_n 2, 1) := by decide +kernel
theorem dX5_sheet_12 : decode cX5_sheet 12 = .ok (.bipush 8, 2) := by decide +kernel
theorem dX5_sheet_14 : decode cX5_sheet 14 = .ok (.if_icmp .eq 22, 3) := by decide +kernel
theorem dX5_sheet_17 : decode cX5_sheet 17 = .ok (.iload_n 2, 1) := by decide +kernel
theorem dX5_sheet_18 : decode cX5_sheet 18 = .ok (.bipush 16, 2) := by decide +kernel
theorem dX5_sheet_20 : decode cX5_sheet 20 = .ok (.if_icmp .eq 16, 3) := by decide +kernel
theorem dX5_sheet_23 : decode cX5_sheet 23 = .ok (.iload_n 2, 1) := by decide +kernel
theorem dX5_sheet_24 : decode cX5_sheet 24 = .ok (.bipush 64, 2) := by decide +kernel
theorem dX5_sheet_26 : decode cX5_sheet 26 = .ok (.if_icmp .eq 10, 3) := by decide +kernel
theorem dX5_sheet_29 : decode cX5_sheet 29 = .ok (.aload_n 0, 1) := by decide +kernel
theorem dX5_sheet_30 : decode cX5_sheet 30 = .ok (.ldc 48, 2) := by decide +kernel
theorem dX5_sheet_32 : decode cX5_sheet 32 = .ok (.invokevirtual 50, 3) := by decide +kernel
theorem dX5_sheet_35 : decode cX5_sheet 35 = .ok (.ireturn, 1) := by decide +kernel
theorem dX5_sheet_36 : decode cX5_sheet 36 = .ok (.iload_n 3, 1) := by decide +kernel
theorem dX5_sheet_37 : decode cX5_sheet 37 = .ok (.ifCond .ge 10, 3) := by decide +kernel
theorem dX5_sheet_40 : decode cX5_sheet 40 = .ok (.aload_n 0, 1) := by decide +kernel
theorem dX5_sheet_41 : decode cX5_sheet 41 = .ok (.ldc 198, 2) := by decide +kernel
theorem dX5_sheet_43 : decode cX5_sheet 43 = .ok (.invokevirtual 50, 3) := by decide +kernel
theorem dX5_sheet_46 : decode cX5_sheet 46 = .ok (.ireturn, 1) := by decide +kernel
theorem dX5_sheet_47 : decode cX5_sheet 47 = .ok (.iload_n 3, 1) := by decide +kernel
theorem dX5_sheet_48 : decode cX5_sheet 48 = .ok (.bipush 40, 2) := by decide +kernel
theorem dX5_sheet_50 : decode cX5_sheet 50 = .ok (.if_icmp .le 10, 3) := by decide +kernel
theorem dX5_sheet_53 : decode cX5_sheet 53 = .ok (.aload_n 0, 1) := by decide +kernel
theorem dX5_sheet_54 : decode cX5_sheet 54 = .ok (.ldc 48, 2) := by decide +kernel
theorem dX5_sheet_56 : decode cX5_sheet 56 = .ok (.invokevirtual 50, 3) := by decide +kernel
theorem dX5_sheet_59 : decode cX5_sheet 59 = .ok (.ireturn, 1) := by decide +kernel
theorem dX5_sheet_60 : decode cX5_sheet 60 = .ok (.aload_n 0, 1) := by decide +kernel
theorem dX5_sheet_61 : decode cX5_sheet 61 = .ok (.getfield 35, 3) := by decide +kernel
theorem dX5_sheet_64 : decode cX5_sheet 64 = .ok (.iload_n 1, 1) := by decide +kernel
theorem dX5_sheet_65 : decode cX5_sheet 65 = .ok (.iload_n 2, 1) := by decide +kernel
theorem dX5_sheet_66 : decode cX5_sheet 66 = .ok (.iastore, 1) := by decide +kernel
theorem dX5_sheet_67 : decode cX5_sheet 67 = .ok (.aload_n 0, 1) := by decide +kernel
theorem dX5_sheet_68 : decode cX5_sheet 68 = .ok (.getfield 38, 3) := by decide +kernel
theorem dX5_sheet_71 : decode cX5_sheet 71 = .ok (.iload_n 1, 1) := by decide +kernel
theorem dX5_sheet_72 : decode cX5_sheet 72 = .ok (.iload_n 2, 1) := by decide +kernel
theorem dX5_sheet_73 : decode cX5_sheet 73 = .ok (.ifCond .ne 7, 3) := by decide +kernel
theorem dX5_sheet_76 : decode cX5_sheet 76 = .ok (.iconst 0, 1) := by decide +kernel
theorem dX5_sheet_77 : decode cX5_sheet 77 = .ok (.goto 4, 3) := by decide +kernel
theorem dX5_sheet_80 : decode cX5_sheet 80 = .ok (.iload_n 3, 1) := by decide +kernel
theorem dX5_sheet_81 : decode cX5_sheet 81 = .ok (.iastore, 1) := by decide +kernel
theorem dX5_sheet_82 : decode cX5_sheet 82 = .ok (.iconst 0, 1) := by decide +kernel
theorem dX5_sheet_83 : decode cX5_sheet 83 = .ok (.istore 4, 2) := by decide +kernel
theorem dX5_sheet_85 : decode cX5_sheet 85 = .ok (.iload 4, 2) := by decide +kernel
theorem dX5_sheet_87 : decode cX5_sheet 87 = .ok (.bipush 40, 2) := by decide +kernel
theorem dX5_sheet_89 : decode cX5_sheet 89 = .ok (.if_icmp .ge 22, 3) := by decide +kernel
theorem dX5_sheet_92 : decode cX5_sheet 92 = .ok (.aload_n 0, 1) := by decide +kernel
theorem dX5_sheet_93 : decode cX5_sheet 93 = .ok (.getfield 41, 3) := by decide +kernel
theorem dX5_sheet_96 : decode cX5_sheet 96 = .ok (.bipush 40, 2) := by decide +kernel
theorem dX5_sheet_98 : decode cX5_sheet 98 = .ok (.iload_n 1, 1) := by decide +kernel
theorem dX5_sheet_99 : decode cX5_sheet 99 = .ok (.imul, 1) := by decide +kernel
theorem dX5_sheet_100 : decode cX5_sheet 100 = .ok (.iload 4, 2) := by decide +kernel
theorem dX5_sheet_102 : decode cX5_sheet 102 = .ok (.iadd, 1) := by decide +kernel
theorem dX5_sheet_103 : decode cX5_sheet 103 = .ok (.lconst 0, 1) := by decide +kernel
theorem dX5_sheet_104 : decode cX5_sheet 104 = .ok (.lastore, 1) := by decide +kernel
theorem dX5_sheet_105 : decode cX5_sheet 105 = .ok (.iinc 4 1, 3) := by decide +kernel
theorem dX5_sheet_108 : decode cX5_sheet 108 = .ok (.goto (-23), 3) := by decide +kernel
theorem dX5_sheet_111 : decode cX5_sheet 111 = .ok (.aload_n 0, 1) := by decide +kernel
theorem dX5_sheet_112 : decode cX5_sheet 112 = .ok (.getfield 38, 3) := by decide +kernel
theorem dX5_sheet_115 : decode cX5_sheet 115 = .ok (.iload_n 1, 1) := by decide +kernel
theorem dX5_sheet_116 : decode cX5_sheet 116 = .ok (.iaload, 1) := by decide +kernel
theorem dX5_sheet_117 : decode cX5_sheet 117 = .ok (.ireturn, 1) := by decide +kernel
theorem dX5_narrowed_0 : decode cX5_narrowed 0 = .ok (.iload_n 0, 1) := by decide +kernel
theorem dX5_narrowed_1 : decode cX5_narrowed 1 = .ok (.bipush 8, 2) := by decide +kernel
theorem dX5_narrowed_3 : decode cX5_narrowed 3 = .ok (.if_icmp .ne 10, 3) := by decide +kernel
theorem dX5_narrowed_6 : decode cX5_narrowed 6 = .ok (.lload_n 1, 1) := by decide +kernel
theorem dX5_narrowed_7 : decode cX5_narrowed 7 = .ok (.l2i, 1) := by decide +kernel
theorem dX5_narrowed_8 : decode cX5_narrowed 8 = .ok (.i2b, 1) := by decide +kernel
theorem dX5_narrowed_9 : decode cX5_narrowed 9 = .ok (.i2l, 1) := by decide +kernel
theorem dX5_narrowed_10 : decode cX5_narrowed 10 = .ok (.goto 17, 3) := by decide +kernel
theorem dX5_narrowed_13 : decode cX5_narrowed 13 = .ok (.iload_n 0, 1) := by decide +kernel
theorem dX5_narrowed_14 : decode cX5_narrowed 14 = .ok (.bipush 16, 2) := by decide +kernel
theorem dX5_narrowed_16 : decode cX5_narrowed 16 = .ok (.if_icmp .ne 10, 3) := by decide +kernel
theorem dX5_narrowed_19 : decode cX5_narrowed 19 = .ok (.lload_n 1, 1) := by decide +kernel
theorem dX5_narrowed_20 : decode cX5_narrowed 20 = .ok (.l2i, 1) := by decide +kernel
theorem dX5_narrowed_21 : decode cX5_narrowed 21 = .ok (.i2s, 1) := by decide +kernel
theorem dX5_narrowed_22 : decode cX5_narrowed 22 = .ok (.i2l, 1) := by decide +kernel
theorem dX5_narrowed_23 : decode cX5_narrowed 23 = .ok (.goto 4, 3) := by decide +kernel
theorem dX5_narrowed_26 : decode cX5_narrowed 26 = .ok (.lload_n 1, 1) := by decide +kernel
theorem dX5_narrowed_27 : decode cX5_narrowed 27 = .ok (.lreturn, 1) := by decide +kernel
theorem dX5_wrong_0 : decode cX5_wrong 0 = .ok (.iload_n 1, 1) := by decide +kernel
theorem dX5_wrong_1 : decode cX5_wrong 1 = .ok (.invokestatic 195, 3) := by decide +kernel
theorem dX5_wrong_4 : decode cX5_wrong 4 = .ok (.ifCond .ne 8, 3) := by decide +kernel
theorem dX5_wrong_7 : decode cX5_wrong 7 = .ok (.ldc 48, 2) := by decide +kernel
theorem dX5_wrong_9 : decode cX5_wrong 9 = .ok (.goto 18, 3) := by decide +kernel
theorem dX5_wrong_12 : decode cX5_wrong 12 = .ok (.aload_n 0, 1) := by decide +kernel
theorem dX5_wrong_13 : decode cX5_wrong 13 = .ok (.getfield 35, 3) := by decide +kernel
theorem dX5_wrong_16 : decode cX5_wrong 16 = .ok (.iload_n 1, 1) := by decide +kernel
theorem dX5_wrong_17 : decode cX5_wrong 17 = .ok (.iaload, 1) := by decide +kernel
theorem dX5_wrong_18 : decode cX5_wrong 18 = .ok (.ifCond .ne 8, 3) := by decide +kernel
theorem dX5_wrong_21 : decode cX5_wrong 21 = .ok (.ldc 199, 2) := by decide +kernel
theorem dX5_wrong_23 : decode cX5_wrong 23 = .ok (.goto 4, 3) := by decide +kernel
theorem dX5_wrong_26 : decode cX5_wrong 26 = .ok (.iconst 0, 1) := by decide +kernel
theorem dX5_wrong_27 : decode cX5_wrong 27 = .ok (.ireturn, 1) := by decide +kernel
theorem dX5_write_0 : decode cX5_write 0 = .ok (.aload_n 0, 1) := by decide +kernel
theorem dX5_write_1 : decode cX5_write 1 = .ok (.iload_n 1, 1) := by decide +kernel
theorem dX5_write_2 : decode cX5_write 2 = .ok (.invokevirtual 200, 3) := by decide +kernel
theorem dX5_write_5 : decode cX5_write 5 = .ok (.istore 5, 2) := by decide +kernel
theorem dX5_write_7 : decode cX5_write 7 = .ok (.iload 5, 2) := by decide +kernel
theorem dX5_write_9 : decode cX5_write 9 = .ok (.ifCond .eq 11, 3) := by decide +kernel
theorem dX5_write_12 : decode cX5_write 12 = .ok (.aload_n 0, 1) := by decide +kernel
theorem dX5_write_13 : decode cX5_write 13 = .ok (.iload 5, 2) := by decide +kernel
theorem dX5_write_15 : decode cX5_write 15 = .ok (.invokevirtual 50, 3) := by decide +kernel
theorem dX5_write_18 : decode cX5_write 18 = .ok (.i2l, 1) := by decide +kernel
theorem dX5_write_19 : decode cX5_write 19 = .ok (.lreturn, 1) := by decide +kernel
theorem dX5_write_20 : decode cX5_write 20 = .ok (.iload_n 2, 1) := by decide +kernel
theorem dX5_write_21 : decode cX5_write 21 = .ok (.i2l, 1) := by decide +kernel
theorem dX5_write_22 : decode cX5_write 22 = .ok (.lconst 0, 1) := by decide +kernel
theorem dX5_write_23 : decode cX5_write 23 = .ok (.aload_n 0, 1) := by decide +kernel
theorem dX5_write_24 : decode cX5_write 24 = .ok (.getfield 38, 3) := by decide +kernel
theorem dX5_write_27 : decode cX5_write 27 = .ok (.iload_n 1, 1) := by decide +kernel
theorem dX5_write_28 : decode cX5_write 28 = .ok (.iaload, 1) := by decide +kernel
theorem dX5_write_29 : decode cX5_write 29 = .ok (.iconst 1, 1) := by decide +kernel
theorem dX5_write_30 : decode cX5_write 30 = .ok (.isub, 1) := by decide +kernel
theorem dX5_write_31 : decode cX5_write 31 = .ok (.i2l, 1) := by decide +kernel
theorem dX5_write_32 : decode cX5_write 32 = .ok (.invokestatic 54, 3) := by decide +kernel
theorem dX5_write_35 : decode cX5_write 35 = .ok (.ifCond .ne 11, 3) := by decide +kernel
theorem dX5_write_38 : decode cX5_write 38 = .ok (.aload_n 0, 1) := by decide +kernel
theorem dX5_write_39 : decode cX5_write 39 = .ok (.ldc 48, 2) := by decide +kernel
theorem dX5_write_41 : decode cX5_write 41 = .ok (.invokevirtual 50, 3) := by decide +kernel
theorem dX5_write_44 : decode cX5_write 44 = .ok (.i2l, 1) := by decide +kernel
theorem dX5_write_45 : decode cX5_write 45 = .ok (.lreturn, 1) := by decide +kernel
theorem dX5_write_46 : decode cX5_write 46 = .ok (.aload_n 0, 1) := by decide +kernel
theorem dX5_write_47 : decode cX5_write 47 = .ok (.getfield 41, 3) := by decide +kernel
theorem dX5_write_50 : decode cX5_write 50 = .ok (.bipush 40, 2) := by decide +kernel
theorem dX5_write_52 : decode cX5_write 52 = .ok (.iload_n 1, 1) := by decide +kernel
theorem dX5_write_53 : decode cX5_write 53 = .ok (.imul, 1) := by decide +kernel
theorem dX5_write_54 : decode cX5_write 54 = .ok (.iload_n 2, 1) := by decide +kernel
theorem dX5_write_55 : decode cX5_write 55 = .ok (.iadd, 1) := by decide +kernel
theorem dX5_write_56 : decode cX5_write 56 = .ok (.laload, 1) := by decide +kernel
theorem dX5_write_57 : decode cX5_write 57 = .ok (.lstore 6, 2) := by decide +kernel
theorem dX5_write_59 : decode cX5_write 59 = .ok (.aload_n 0, 1) := by decide +kernel
theorem dX5_write_60 : decode cX5_write 60 = .ok (.getfield 41, 3) := by decide +kernel
theorem dX5_write_63 : decode cX5_write 63 = .ok (.bipush 40, 2) := by decide +kernel
theorem dX5_write_65 : decode cX5_write 65 = .ok (.iload_n 1, 1) := by decide +kernel
theorem dX5_write_66 : decode cX5_write 66 = .ok (.imul, 1) := by decide +kernel
theorem dX5_write_67 : decode cX5_write 67 = .ok (.iload_n 2, 1) := by decide +kernel
theorem dX5_write_68 : decode cX5_write 68 = .ok (.iadd, 1) := by decide +kernel
theorem dX5_write_69 : decode cX5_write 69 = .ok (.aload_n 0, 1) := by decide +kernel
theorem dX5_write_70 : decode cX5_write 70 = .ok (.getfield 35, 3) := by decide +kernel
theorem dX5_write_73 : decode cX5_write 73 = .ok (.iload_n 1, 1) := by decide +kernel
theorem dX5_write_74 : decode cX5_write 74 = .ok (.iaload, 1) := by decide +kernel
theorem dX5_write_75 : decode cX5_write 75 = .ok (.lload_n 3, 1) := by decide +kernel
theorem dX5_write_76 : decode cX5_write 76 = .ok (.invokestatic 203, 3) := by decide +kernel
theorem dX5_write_79 : decode cX5_write 79 = .ok (.lastore, 1) := by decide +kernel
theorem dX5_write_80 : decode cX5_write 80 = .ok (.lload 6, 2) := by decide +kernel
theorem dX5_write_82 : decode cX5_write 82 = .ok (.lreturn, 1) := by decide +kernel
theorem dX5_copy_0 : decode cX5_copy 0 = .ok (.iload_n 1, 1) := by decide +kernel
theorem dX5_copy_1 : decode cX5_copy 1 = .ok (.invokestatic 195, 3) := by decide +kernel
theorem dX5_copy_4 : decode cX5_copy 4 = .ok (.ifCond .eq 10, 3) := by decide +kernel
theorem dX5_copy_7 : decode cX5_copy 7 = .ok (.iload_n 3, 1) := by decide +kernel
theorem dX5_copy_8 : decode cX5_copy 8 = .ok (.invokestatic 195, 3) := by decide +kernel
theorem dX5_copy_11 : decode cX5_copy 11 = .ok (.ifCond .ne 10, 3) := by decide +kernel
theorem dX5_copy_14 : decode cX5_copy 14 = .ok (.aload_n 0, 1) := by decide +kernel
theorem dX5_copy_15 : decode cX5_copy 15 = .ok (.ldc 48, 2) := by decide +kernel
theorem dX5_copy_17 : decode cX5_copy 17 = .ok (.invokevirtual 50, 3) := by decide +kernel
theorem dX5_copy_20 : decode cX5_copy 20 = .ok (.ireturn, 1) := by decide +kernel
theorem dX5_copy_21 : decode cX5_copy 21 = .ok (.aload_n 0, 1) := by decide +kernel
theorem dX5_copy_22 : decode cX5_copy 22 = .ok (.getfield 35, 3) := by decide +kernel
theorem dX5_copy_25 : decode cX5_copy 25 = .ok (.iload_n 1, 1) := by decide +kernel
theorem dX5_copy_26 : decode cX5_copy 26 = .ok (.iaload, 1) := by decide +kernel
theorem dX5_copy_27 : decode cX5_copy 27 = .ok (.ifCond .eq 12, 3) := by decide +kernel
theorem dX5_copy_30 : decode cX5_copy 30 = .ok (.aload_n 0, 1) := by decide +kernel
theorem dX5_copy_31 : decode cX5_copy 31 = .ok (.getfield 35, 3) := by decide +kernel
theorem dX5_copy_34 : decode cX5_copy 34 = .ok (.iload_n 3, 1) := by decide +kernel
theorem dX5_copy_35 : decode cX5_copy 35 = .ok (.iaload, 1) := by decide +kernel
theorem dX5_copy_36 : decode cX5_copy 36 = .ok (.ifCond .ne 10, 3) := by decide +kernel
theorem dX5_copy_39 : decode cX5_copy 39 = .ok (.aload_n 0, 1) := by decide +kernel
theorem dX5_copy_40 : decode cX5_copy 40 = .ok (.ldc 199, 2) := by decide +kernel
theorem dX5_copy_42 : decode cX5_copy 42 = .ok (.invokevirtual 50, 3) := by decide +kernel
theorem dX5_copy_45 : decode cX5_copy 45 = .ok (.ireturn, 1) := by decide +kernel
theorem dX5_copy_46 : decode cX5_copy 46 = .ok (.aload_n 0, 1) := by decide +kernel
theorem dX5_copy_47 : decode cX5_copy 47 = .ok (.getfield 35, 3) := by decide +kernel
theorem dX5_copy_50 : decode cX5_copy 50 = .ok (.iload_n 1, 1) := by decide +kernel
theorem dX5_copy_51 : decode cX5_copy 51 = .ok (.iaload, 1) := by decide +kernel
theorem dX5_copy_52 : decode cX5_copy 52 = .ok (.aload_n 0, 1) := by decide +kernel
theorem dX5_copy_53 : decode cX5_copy 53 = .ok (.getfield 35, 3) := by decide +kernel
theorem dX5_copy_56 : decode cX5_copy 56 = .ok (.iload_n 3, 1) := by decide +kernel
theorem dX5_copy_57 : decode cX5_copy 57 = .ok (.iaload, 1) := by decide +kernel
theorem dX5_copy_58 : decode cX5_copy 58 = .ok (.if_icmp .eq 10, 3) := by decide +kernel
theorem dX5_copy_61 : decode cX5_copy 61 = .ok (.aload_n 0, 1) := by decide +kernel
theorem dX5_copy_62 : decode cX5_copy 62 = .ok (.ldc 94, 2) := by decide +kernel
theorem dX5_copy_64 : decode cX5_copy 64 = .ok (.invokevirtual 50, 3) := by decide +kernel
theorem dX5_copy_67 : decode cX5_copy 67 = .ok (.ireturn, 1) := by decide +kernel
theorem dX5_copy_68 : decode cX5_copy 68 = .ok (.iload_n 2, 1) := by decide +kernel
theorem dX5_copy_69 : decode cX5_copy 69 = .ok (.ifCond .lt 40, 3) := by decide +kernel
theorem dX5_copy_72 : decode cX5_copy 72 = .ok (.iload 4, 2) := by decide +kernel
theorem dX5_copy_74 : decode cX5_copy 74 = .ok (.ifCond .lt 35, 3) := by decide +kernel
theorem dX5_copy_77 : decode cX5_copy 77 = .ok (.iload 5, 2) := by decide +kernel
theorem dX5_copy_79 : decode cX5_copy 79 = .ok (.ifCond .lt 30, 3) := by decide +kernel
theorem dX5_copy_82 : decode cX5_copy 82 = .ok (.iload 5, 2) := by decide +kernel
theorem dX5_copy_84 : decode cX5_copy 84 = .ok (.aload_n 0, 1) := by decide +kernel
theorem dX5_copy_85 : decode cX5_copy 85 = .ok (.getfield 38, 3) := by decide +kernel
theorem dX5_copy_88 : decode cX5_copy 88 = .ok (.iload_n 1, 1) := by decide +kernel
theorem dX5_copy_89 : decode cX5_copy 89 = .ok (.iaload, 1) := by decide +kernel
theorem dX5_copy_90 : decode cX5_copy 90 = .ok (.iload_n 2, 1) := by decide +kernel
theorem dX5_copy_91 : decode cX5_copy 91 = .ok (.isub, 1) := by decide +kernel
theorem dX5_copy_92 : decode cX5_copy 92 = .ok (.if_icmp .gt 17, 3) := by decide +kernel
theorem dX5_copy_95 : decode cX5_copy 95 = .ok (.iload 5, 2) := by decide +kernel
theorem dX5_copy_97 : decode cX5_copy 97 = .ok (.aload_n 0, 1) := by decide +kernel
theorem dX5_copy_98 : decode cX5_copy 98 = .ok (.getfield 38, 3) := by decide +kernel
theorem dX5_copy_101 : decode cX5_copy 101 = .ok (.iload_n 3, 1) := by decide +kernel
theorem dX5_copy_102 : decode cX5_copy 102 = .ok (.iaload, 1) := by decide +kernel
theorem dX5_copy_103 : decode cX5_copy 103 = .ok (.iload 4, 2) := by decide +kernel
theorem dX5_copy_105 : decode cX5_copy 105 = .ok (.isub, 1) := by decide +kernel
theorem dX5_copy_106 : decode cX5_copy 106 = .ok (.if_icmp .le 10, 3) := by decide +kernel
theorem dX5_copy_109 : decode cX5_copy 109 = .ok (.aload_n 0, 1) := by decide +kernel
theorem dX5_copy_110 : decode cX5_copy 110 = .ok (.ldc 48, 2) := by decide +kernel
theorem dX5_copy_112 : decode cX5_copy 112 = .ok (.invokevirtual 50, 3) := by decide +kernel
theorem dX5_copy_115 : decode cX5_copy 115 = .ok (.ireturn, 1) := by decide +kernel
theorem dX5_copy_116 : decode cX5_copy 116 = .ok (.iconst 0, 1) := by decide +kernel
theorem dX5_copy_117 : decode cX5_copy 117 = .ok (.istore 6, 2) := by decide +kernel
theorem dX5_copy_119 : decode cX5_copy 119 = .ok (.iload 6, 2) := by decide +kernel
theorem dX5_copy_121 : decode cX5_copy 121 = .ok (.iload 5, 2) := by decide +kernel
theorem dX5_copy_123 : decode cX5_copy 123 = .ok (.if_icmp .ge 30, 3) := by decide +kernel
theorem dX5_copy_126 : decode cX5_copy 126 = .ok (.aload_n 0, 1) := by decide +kernel
theorem dX5_copy_127 : decode cX5_copy 127 = .ok (.getfield 45, 3) := by decide +kernel
theorem dX5_copy_130 : decode cX5_copy 130 = .ok (.iload 6, 2) := by decide +kernel
theorem dX5_copy_132 : decode cX5_copy 132 = .ok (.aload_n 0, 1) := by decide +kernel
theorem dX5_copy_133 : decode cX5_copy 133 = .ok (.getfield 41, 3) := by decide +kernel
theorem dX5_copy_136 : decode cX5_copy 136 = .ok (.bipush 40, 2) := by decide +kernel
theorem dX5_copy_138 : decode cX5_copy 138 = .ok (.iload_n 1, 1) := by decide +kernel
theorem dX5_copy_139 : decode cX5_copy 139 = .ok (.imul, 1) := by decide +kernel
theorem dX5_copy_140 : decode cX5_copy 140 = .ok (.iload_n 2, 1) := by decide +kernel
theorem dX5_copy_141 : decode cX5_copy 141 = .ok (.iadd, 1) := by decide +kernel
theorem dX5_copy_142 : decode cX5_copy 142 = .ok (.iload 6, 2) := by decide +kernel
theorem dX5_copy_144 : decode cX5_copy 144 = .ok (.iadd, 1) := by decide +kernel
theorem dX5_copy_145 : decode cX5_copy 145 = .ok (.laload, 1) := by decide +kernel
theorem dX5_copy_146 : decode cX5_copy 146 = .ok (.lastore, 1) := by decide +kernel
theorem dX5_copy_147 : decode cX5_copy 147 = .ok (.iinc 6 1, 3) := by decide +kernel
theorem dX5_copy_150 : decode cX5_copy 150 = .ok (.goto (-31), 3) := by decide +kernel
theorem dX5_copy_153 : decode cX5_copy 153 = .ok (.iconst 0, 1) := by decide +kernel
theorem dX5_copy_154 : decode cX5_copy 154 = .ok (.istore 6, 2) := by decide +kernel
theorem dX5_copy_156 : decode cX5_copy 156 = .ok (.iload 6, 2) := by decide +kernel
theorem dX5_copy_158 : decode cX5_copy 158 = .ok (.iload 5, 2) := by decide +kernel
theorem dX5_copy_160 : decode cX5_copy 160 = .ok (.if_icmp .ge 31, 3) := by decide +kernel
theorem dX5_copy_163 : decode cX5_copy 163 = .ok (.aload_n 0, 1) := by decide +kernel
theorem dX5_copy_164 : decode cX5_copy 164 = .ok (.getfield 41, 3) := by decide +kernel
theorem dX5_copy_167 : decode cX5_copy 167 = .ok (.bipush 40, 2) := by decide +kernel
theorem dX5_copy_169 : decode cX5_copy 169 = .ok (.iload_n 3, 1) := by decide +kernel
theorem dX5_copy_170 : decode cX5_copy 170 = .ok (.imul, 1) := by decide +kernel
theorem dX5_copy_171 : decode cX5_copy 171 = .ok (.iload 4, 2) := by decide +kernel
theorem dX5_copy_173 : decode cX5_copy 173 = .ok (.iadd, 1) := by decide +kernel
theorem dX5_copy_174 : decode cX5_copy 174 = .ok (.iload 6, 2) := by decide +kernel
theorem dX5_copy_176 : decode cX5_copy 176 = .ok (.iadd, 1) := by decide +kernel
theorem dX5_copy_177 : decode cX5_copy 177 = .ok (.aload_n 0, 1) := by decide +kernel
theorem dX5_copy_178 : decode cX5_copy 178 = .ok (.getfield 45, 3) := by decide +kernel
theorem dX5_copy_181 : decode cX5_copy 181 = .ok (.iload 6, 2) := by decide +kernel
theorem dX5_copy_183 : decode cX5_copy 183 = .ok (.laload, 1) := by decide +kernel
theorem dX5_copy_184 : decode cX5_copy 184 = .ok (.lastore, 1) := by decide +kernel
theorem dX5_copy_185 : decode cX5_copy 185 = .ok (.iinc 6 1, 3) := by decide +kernel
theorem dX5_copy_188 : decode cX5_copy 188 = .ok (.goto (-32), 3) := by decide +kernel
theorem dX5_copy_191 : decode cX5_copy 191 = .ok (.iload 5, 2) := by decide +kernel
theorem dX5_copy_193 : decode cX5_copy 193 = .ok (.ireturn, 1) := by decide +kernel
theorem dX5_lays_0 : decode cX5_lays 0 = .ok (.aload_n 0, 1) := by decide +kernel
theorem dX5_lays_1 : decode cX5_lays 1 = .ok (.iload_n 1, 1) := by decide +kernel
theorem dX5_lays_2 : decode cX5_lays 2 = .ok (.invokevirtual 200, 3) := by decide +kernel
theorem dX5_lays_5 : decode cX5_lays 5 = .ok (.istore_n 2, 1) := by decide +kernel
theorem dX5_lays_6 : decode cX5_lays 6 = .ok (.iload_n 2, 1) := by decide +kernel
theorem dX5_lays_7 : decode cX5_lays 7 = .ok (.ifCond .eq 9, 3) := by decide +kernel
theorem dX5_lays_10 : decode cX5_lays 10 = .ok (.aload_n 0, 1) := by decide +kernel
theorem dX5_lays_11 : decode cX5_lays 11 = .ok (.iload_n 2, 1) := by decide +kernel
theorem dX5_lays_12 : decode cX5_lays 12 = .ok (.invokevirtual 50, 3) := by decide +kernel
theorem dX5_lays_15 : decode cX5_lays 15 = .ok (.ireturn, 1) := by decide +kernel
theorem dX5_lays_16 : decode cX5_lays 16 = .ok (.iconst 0, 1) := by decide +kernel
theorem dX5_lays_17 : decode cX5_lays 17 = .ok (.istore_n 3, 1) := by decide +kernel
theorem dX5_lays_18 : decode cX5_lays 18 = .ok (.iconst 0, 1) := by decide +kernel
theorem dX5_lays_19 : decode cX5_lays 19 = .ok (.istore 4, 2) := by decide +kernel
theorem dX5_lays_21 : decode cX5_lays 21 = .ok (.iload 4, 2) := by decide +kernel
theorem dX5_lays_23 : decode cX5_lays 23 = .ok (.aload_n 0, 1) := by decide +kernel
theorem dX5_lays_24 : decode cX5_lays 24 = .ok (.getfield 7, 3) := by decide +kernel
theorem dX5_lays_27 : decode cX5_lays 27 = .ok (.iconst 0, 1) := by decide +kernel
theorem dX5_lays_28 : decode cX5_lays 28 = .ok (.iaload, 1) := by decide +kernel
theorem dX5_lays_29 : decode cX5_lays 29 = .ok (.if_icmp .ge 48, 3) := by decide +kernel
theorem dX5_lays_32 : decode cX5_lays 32 = .ok (.iload 4, 2) := by decide +kernel
theorem dX5_lays_34 : decode cX5_lays 34 = .ok (.aload_n 0, 1) := by decide +kernel
theorem dX5_lays_35 : decode cX5_lays 35 = .ok (.getfield 38, 3) := by decide +kernel
theorem dX5_lays_38 : decode cX5_lays 38 = .ok (.iload_n 1, 1) := by decide +kernel
theorem dX5_lays_39 : decode cX5_lays 39 = .ok (.iaload, 1) := by decide +kernel
theorem dX5_lays_40 : decode cX5_lays 40 = .ok (.if_icmp .ge 37, 3) := by decide +kernel
theorem dX5_lays_43 : decode cX5_lays 43 = .ok (.iload_n 3, 1) := by decide +kernel
theorem dX5_lays_44 : decode cX5_lays 44 = .ok (.aload_n 0, 1) := by decide +kernel
theorem dX5_lays_45 : decode cX5_lays 45 = .ok (.getfield 41, 3) := by decide +kernel
theorem dX5_lays_48 : decode cX5_lays 48 = .ok (.bipush 40, 2) := by decide +kernel
theorem dX5_lays_50 : decode cX5_lays 50 = .ok (.iload_n 1, 1) := by decide +kernel
theorem dX5_lays_51 : decode cX5_lays 51 = .ok (.imul, 1) := by decide +kernel
theorem dX5_lays_52 : decode cX5_lays 52 = .ok (.iload 4, 2) := by decide +kernel
theorem dX5_lays_54 : decode cX5_lays 54 = .ok (.iadd, 1) := by decide +kernel
theorem dX5_lays_55 : decode cX5_lays 55 = .ok (.laload, 1) := by decide +kernel
theorem dX5_lays_56 : decode cX5_lays 56 = .ok (.lconst 0, 1) := by decide +kernel
theorem dX5_lays_57 : decode cX5_lays 57 = .ok (.lcmp, 1) := by decide +kernel
theorem dX5_lays_58 : decode cX5_lays 58 = .ok (.ifCond .eq 10, 3) := by decide +kernel
theorem dX5_lays_61 : decode cX5_lays 61 = .ok (.iconst 1, 1) := by decide +kernel
theorem dX5_lays_62 : decode cX5_lays 62 = .ok (.iload 4, 2) := by decide +kernel
theorem dX5_lays_64 : decode cX5_lays 64 = .ok (.ishl, 1) := by decide +kernel
theorem dX5_lays_65 : decode cX5_lays 65 = .ok (.goto 4, 3) := by decide +kernel
theorem dX5_lays_68 : decode cX5_lays 68 = .ok (.iconst 0, 1) := by decide +kernel
theorem dX5_lays_69 : decode cX5_lays 69 = .ok (.ior, 1) := by decide +kernel
theorem dX5_lays_70 : decode cX5_lays 70 = .ok (.istore_n 3, 1) := by decide +kernel
theorem dX5_lays_71 : decode cX5_lays 71 = .ok (.iinc 4 1, 3) := by decide +kernel
theorem dX5_lays_74 : decode cX5_lays 74 = .ok (.goto (-53), 3) := by decide +kernel
theorem dX5_lays_77 : decode cX5_lays 77 = .ok (.aload_n 0, 1) := by decide +kernel
theorem dX5_lays_78 : decode cX5_lays 78 = .ok (.getfield 7, 3) := by decide +kernel
theorem dX5_lays_81 : decode cX5_lays 81 = .ok (.iconst 1, 1) := by decide +kernel
theorem dX5_lays_82 : decode cX5_lays 82 = .ok (.iload_n 3, 1) := by decide +kernel
theorem dX5_lays_83 : decode cX5_lays 83 = .ok (.iastore, 1) := by decide +kernel
theorem dX5_lays_84 : decode cX5_lays 84 = .ok (.iload_n 3, 1) := by decide +kernel
theorem dX5_lays_85 : decode cX5_lays 85 = .ok (.ireturn, 1) := by decide +kernel
theorem dX5_book_0 : decode cX5_book 0 = .ok (.aload_n 0, 1) := by decide +kernel
theorem dX5_book_1 : decode cX5_book 1 = .ok (.iload_n 1, 1) := by decide +kernel
theorem dX5_book_2 : decode cX5_book 2 = .ok (.invokevirtual 200, 3) := by decide +kernel
theorem dX5_book_5 : decode cX5_book 5 = .ok (.istore_n 2, 1) := by decide +kernel
theorem dX5_book_6 : decode cX5_book 6 = .ok (.iload_n 2, 1) := by decide +kernel
theorem dX5_book_7 : decode cX5_book 7 = .ok (.ifCond .eq 9, 3) := by decide +kernel
theorem dX5_book_10 : decode cX5_book 10 = .ok (.aload_n 0, 1) := by decide +kernel
theorem dX5_book_11 : decode cX5_book 11 = .ok (.iload_n 2, 1) := by decide +kernel
theorem dX5_book_12 : decode cX5_book 12 = .ok (.invokevirtual 50, 3) := by decide +kernel
theorem dX5_book_15 : decode cX5_book 15 = .ok (.ireturn, 1) := by decide +kernel
theorem dX5_book_16 : decode cX5_book 16 = .ok (.aload_n 0, 1) := by decide +kernel
theorem dX5_book_17 : decode cX5_book 17 = .ok (.getfield 7, 3) := by decide +kernel
theorem dX5_book_20 : decode cX5_book 20 = .ok (.iconst 1, 1) := by decide +kernel
theorem dX5_book_21 : decode cX5_book 21 = .ok (.iaload, 1) := by decide +kernel
theorem dX5_book_22 : decode cX5_book 22 = .ok (.istore_n 3, 1) := by decide +kernel
theorem dX5_book_23 : decode cX5_book 23 = .ok (.iconst 0, 1) := by decide +kernel
theorem dX5_book_24 : decode cX5_book 24 = .ok (.istore 4, 2) := by decide +kernel
theorem dX5_book_26 : decode cX5_book 26 = .ok (.iload 4, 2) := by decide +kernel
theorem dX5_book_28 : decode cX5_book 28 = .ok (.aload_n 0, 1) := by decide +kernel
theorem dX5_book_29 : decode cX5_book 29 = .ok (.getfield 38, 3) := by decide +kernel
theorem dX5_book_32 : decode cX5_book 32 = .ok (.iload_n 1, 1) := by decide +kernel
theorem dX5_book_33 : decode cX5_book 33 = .ok (.iaload, 1) := by decide +kernel
theorem dX5_book_34 : decode cX5_book 34 = .ok (.if_icmp .ge 38, 3) := by decide +kernel
theorem dX5_book_37 : decode cX5_book 37 = .ok (.aload_n 0, 1) := by decide +kernel
theorem dX5_book_38 : decode cX5_book 38 = .ok (.getfield 41, 3) := by decide +kernel
theorem dX5_book_41 : decode cX5_book 41 = .ok (.bipush 40, 2) := by decide +kernel
theorem dX5_book_43 : decode cX5_book 43 = .ok (.iload_n 1, 1) := by decide +kernel
theorem dX5_book_44 : decode cX5_book 44 = .ok (.imul, 1) := by decide +kernel
theorem dX5_book_45 : decode cX5_book 45 = .ok (.iload 4, 2) := by decide +kernel
theorem dX5_book_47 : decode cX5_book 47 = .ok (.iadd, 1) := by decide +kernel
theorem dX5_book_48 : decode cX5_book 48 = .ok (.aload_n 0, 1) := by decide +kernel
theorem dX5_book_49 : decode cX5_book 49 = .ok (.getfield 35, 3) := by decide +kernel
theorem dX5_book_52 : decode cX5_book 52 = .ok (.iload_n 1, 1) := by decide +kernel
theorem dX5_book_53 : decode cX5_book 53 = .ok (.iaload, 1) := by decide +kernel
theorem dX5_book_54 : decode cX5_book 54 = .ok (.iload_n 3, 1) := by decide +kernel
theorem dX5_book_55 : decode cX5_book 55 = .ok (.i2l, 1) := by decide +kernel
theorem dX5_book_56 : decode cX5_book 56 = .ok (.invokestatic 203, 3) := by decide +kernel
theorem dX5_book_59 : decode cX5_book 59 = .ok (.lastore, 1) := by decide +kernel
theorem dX5_book_60 : decode cX5_book 60 = .ok (.aload_n 0, 1) := by decide +kernel
theorem dX5_book_61 : decode cX5_book 61 = .ok (.iload_n 3, 1) := by decide +kernel
theorem dX5_book_62 : decode cX5_book 62 = .ok (.invokevirtual 151, 3) := by decide +kernel
theorem dX5_book_65 : decode cX5_book 65 = .ok (.istore_n 3, 1) := by decide +kernel
theorem dX5_book_66 : decode cX5_book 66 = .ok (.iinc 4 1, 3) := by decide +kernel
theorem dX5_book_69 : decode cX5_book 69 = .ok (.goto (-43), 3) := by decide +kernel
theorem dX5_book_72 : decode cX5_book 72 = .ok (.aload_n 0, 1) := by decide +kernel
theorem dX5_book_73 : decode cX5_book 73 = .ok (.getfield 38, 3) := by decide +kernel
theorem dX5_book_76 : decode cX5_book 76 = .ok (.iload_n 1, 1) := by decide +kernel
theorem dX5_book_77 : decode cX5_book 77 = .ok (.iaload, 1) := by decide +kernel
theorem dX5_book_78 : decode cX5_book 78 = .ok (.ireturn, 1) := by decide +kernel
theorem dX5_isRow_0 : decode cX5_isRow 0 = .ok (.iconst 0, 1) := by decide +kernel
theorem dX5_isRow_1 : decode cX5_isRow 1 = .ok (.istore_n 2, 1) := by decide +kernel
theorem dX5_isRow_2 : decode cX5_isRow 2 = .ok (.iload_n 2, 1) := by decide +kernel
theorem dX5_isRow_3 : decode cX5_isRow 3 = .ok (.aload_n 0, 1) := by decide +kernel
theorem dX5_isRow_4 : decode cX5_isRow 4 = .ok (.getfield 38, 3) := by decide +kernel
theorem dX5_isRow_7 : decode cX5_isRow 7 = .ok (.iload_n 1, 1) := by decide +kernel
theorem dX5_isRow_8 : decode cX5_isRow 8 = .ok (.iaload, 1) := by decide +kernel
theorem dX5_isRow_9 : decode cX5_isRow 9 = .ok (.if_icmp .ge 59, 3) := by decide +kernel
theorem dX5_isRow_12 : decode cX5_isRow 12 = .ok (.aload_n 0, 1) := by decide +kernel
theorem dX5_isRow_13 : decode cX5_isRow 13 = .ok (.getfield 41, 3) := by decide +kernel
theorem dX5_isRow_16 : decode cX5_isRow 16 = .ok (.bipush 40, 2) := by decide +kernel
theorem dX5_isRow_18 : decode cX5_isRow 18 = .ok (.iload_n 1, 1) := by decide +kernel
theorem dX5_isRow_19 : decode cX5_isRow 19 = .ok (.imul, 1) := by decide +kernel
theorem dX5_isRow_20 : decode cX5_isRow 20 = .ok (.iload_n 2, 1) := by decide +kernel
theorem dX5_isRow_21 : decode cX5_isRow 21 = .ok (.iadd, 1) := by decide +kernel
theorem dX5_isRow_22 : decode cX5_isRow 22 = .ok (.laload, 1) := by decide +kernel
theorem dX5_isRow_23 : decode cX5_isRow 23 = .ok (.lstore_n 3, 1) := by decide +kernel
theorem dX5_isRow_24 : decode cX5_isRow 24 = .ok (.aload_n 0, 1) := by decide +kernel
theorem dX5_isRow_25 : decode cX5_isRow 25 = .ok (.lload_n 3, 1) := by decide +kernel
theorem dX5_isRow_26 : decode cX5_isRow 26 = .ok (.invokevirtual 147, 3) := by decide +kernel
theorem dX5_isRow_29 : decode cX5_isRow 29 = .ok (.ifCond .eq 31, 3) := by decide +kernel
theorem dX5_isRow_32 : decode cX5_isRow 32 = .ok (.iload_n 2, 1) := by decide +kernel
theorem dX5_isRow_33 : decode cX5_isRow 33 = .ok (.ifCond .le 29, 3) := by decide +kernel
theorem dX5_isRow_36 : decode cX5_isRow 36 = .ok (.lload_n 3, 1) := by decide +kernel
theorem dX5_isRow_37 : decode cX5_isRow 37 = .ok (.aload_n 0, 1) := by decide +kernel
theorem dX5_isRow_38 : decode cX5_isRow 38 = .ok (.aload_n 0, 1) := by decide +kernel
theorem dX5_isRow_39 : decode cX5_isRow 39 = .ok (.getfield 41, 3) := by decide +kernel
theorem dX5_isRow_42 : decode cX5_isRow 42 = .ok (.bipush 40, 2) := by decide +kernel
theorem dX5_isRow_44 : decode cX5_isRow 44 = .ok (.iload_n 1, 1) := by decide +kernel
theorem dX5_isRow_45 : decode cX5_isRow 45 = .ok (.imul, 1) := by decide +kernel
theorem dX5_isRow_46 : decode cX5_isRow 46 = .ok (.iload_n 2, 1) := by decide +kernel
theorem dX5_isRow_47 : decode cX5_isRow 47 = .ok (.iadd, 1) := by decide +kernel
theorem dX5_isRow_48 : decode cX5_isRow 48 = .ok (.iconst 1, 1) := by decide +kernel
theorem dX5_isRow_49 : decode cX5_isRow 49 = .ok (.isub, 1) := by decide +kernel
theorem dX5_isRow_50 : decode cX5_isRow 50 = .ok (.laload, 1) := by decide +kernel
theorem dX5_isRow_51 : decode cX5_isRow 51 = .ok (.l2i, 1) := by decide +kernel
theorem dX5_isRow_52 : decode cX5_isRow 52 = .ok (.invokevirtual 151, 3) := by decide +kernel
theorem dX5_isRow_55 : decode cX5_isRow 55 = .ok (.i2l, 1) := by decide +kernel
theorem dX5_isRow_56 : decode cX5_isRow 56 = .ok (.lcmp, 1) := by decide +kernel
theorem dX5_isRow_57 : decode cX5_isRow 57 = .ok (.ifCond .eq 5, 3) := by decide +kernel
theorem dX5_isRow_60 : decode cX5_isRow 60 = .ok (.iconst 0, 1) := by decide +kernel
theorem dX5_isRow_61 : decode cX5_isRow 61 = .ok (.ireturn, 1) := by decide +kernel
theorem dX5_isRow_62 : decode cX5_isRow 62 = .ok (.iinc 2 1, 3) := by decide +kernel
theorem dX5_isRow_65 : decode cX5_isRow 65 = .ok (.goto (-63), 3) := by decide +kernel
theorem dX5_isRow_68 : decode cX5_isRow 68 = .ok (.iconst 1, 1) := by decide +kernel
theorem dX5_isRow_69 : decode cX5_isRow 69 = .ok (.ireturn, 1) := by decide +kernel
theorem dX5_read_0 : decode cX5_read 0 = .ok (.aload_n 0, 1) := by decide +kernel
theorem dX5_read_1 : decode cX5_read 1 = .ok (.iload_n 1, 1) := by decide +kernel
theorem dX5_read_2 : decode cX5_read 2 = .ok (.invokevirtual 200, 3) := by decide +kernel
theorem dX5_read_5 : decode cX5_read 5 = .ok (.istore_n 2, 1) := by decide +kernel
theorem dX5_read_6 : decode cX5_read 6 = .ok (.iload_n 2, 1) := by decide +kernel
theorem dX5_read_7 : decode cX5_read 7 = .ok (.ifCond .eq 9, 3) := by decide +kernel
theorem dX5_read_10 : decode cX5_read 10 = .ok (.aload_n 0, 1) := by decide +kernel
theorem dX5_read_11 : decode cX5_read 11 = .ok (.iload_n 2, 1) := by decide +kernel
