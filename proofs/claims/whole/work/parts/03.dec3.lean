theorem dX7_odds_90 : decode cX7_odds 90 = .ok (.iconst 1, 1) := by decide +kernel
theorem dX7_odds_91 : decode cX7_odds 91 = .ok (.invokevirtual 139, 3) := by decide +kernel
theorem dX7_odds_94 : decode cX7_odds 94 = .ok (.iload 6, 2) := by decide +kernel
theorem dX7_odds_96 : decode cX7_odds 96 = .ok (.aload_n 0, 1) := by decide +kernel
theorem dX7_odds_97 : decode cX7_odds 97 = .ok (.getfield 74, 3) := by decide +kernel
theorem dX7_odds_100 : decode cX7_odds 100 = .ok (.idiv, 1) := by decide +kernel
theorem dX7_odds_101 : decode cX7_odds 101 = .ok (.istore 6, 2) := by decide +kernel
theorem dX7_odds_103 : decode cX7_odds 103 = .ok (.iinc 7 1, 3) := by decide +kernel
theorem dX7_odds_106 : decode cX7_odds 106 = .ok (.goto (-30), 3) := by decide +kernel
theorem dX7_odds_109 : decode cX7_odds 109 = .ok (.iload 4, 2) := by decide +kernel
theorem dX7_odds_111 : decode cX7_odds 111 = .ok (.aload_n 0, 1) := by decide +kernel
theorem dX7_odds_112 : decode cX7_odds 112 = .ok (.invokevirtual 143, 3) := by decide +kernel
theorem dX7_odds_115 : decode cX7_odds 115 = .ok (.aload_n 0, 1) := by decide +kernel
theorem dX7_odds_116 : decode cX7_odds 116 = .ok (.getfield 71, 3) := by decide +kernel
theorem dX7_odds_119 : decode cX7_odds 119 = .ok (.if_icmp .ne 7, 3) := by decide +kernel
theorem dX7_odds_122 : decode cX7_odds 122 = .ok (.iconst 1, 1) := by decide +kernel
theorem dX7_odds_123 : decode cX7_odds 123 = .ok (.goto 4, 3) := by decide +kernel
theorem dX7_odds_126 : decode cX7_odds 126 = .ok (.iconst 0, 1) := by decide +kernel
theorem dX7_odds_127 : decode cX7_odds 127 = .ok (.iadd, 1) := by decide +kernel
theorem dX7_odds_128 : decode cX7_odds 128 = .ok (.istore 4, 2) := by decide +kernel
theorem dX7_odds_130 : decode cX7_odds 130 = .ok (.aload_n 0, 1) := by decide +kernel
theorem dX7_odds_131 : decode cX7_odds 131 = .ok (.invokevirtual 169, 3) := by decide +kernel
theorem dX7_odds_134 : decode cX7_odds 134 = .ok (.iinc 5 1, 3) := by decide +kernel
theorem dX7_odds_137 : decode cX7_odds 137 = .ok (.goto (-74), 3) := by decide +kernel
theorem dX7_odds_140 : decode cX7_odds 140 = .ok (.iload 4, 2) := by decide +kernel
theorem dX7_odds_142 : decode cX7_odds 142 = .ok (.i2l, 1) := by decide +kernel
theorem dX7_odds_143 : decode cX7_odds 143 = .ok (.iload_n 3, 1) := by decide +kernel
theorem dX7_odds_144 : decode cX7_odds 144 = .ok (.i2l, 1) := by decide +kernel
theorem dX7_odds_145 : decode cX7_odds 145 = .ok (.iload_n 2, 1) := by decide +kernel
theorem dX7_odds_146 : decode cX7_odds 146 = .ok (.invokestatic 198, 3) := by decide +kernel
theorem dX7_odds_149 : decode cX7_odds 149 = .ok (.lreturn, 1) := by decide +kernel
theorem dX7_sheet_0 : decode cX7_sheet 0 = .ok (.aload_n 0, 1) := by decide +kernel
theorem dX7_sheet_1 : decode cX7_sheet 1 = .ok (.iconst 0, 1) := by decide +kernel
theorem dX7_sheet_2 : decode cX7_sheet 2 = .ok (.putfield 61, 3) := by decide +kernel
theorem dX7_sheet_5 : decode cX7_sheet 5 = .ok (.iload_n 1, 1) := by decide +kernel
theorem dX7_sheet_6 : decode cX7_sheet 6 = .ok (.invokestatic 80, 3) := by decide +kernel
theorem dX7_sheet_9 : decode cX7_sheet 9 = .ok (.ifCond .ne 5, 3) := by decide +kernel
theorem dX7_sheet_12 : decode cX7_sheet 12 = .ok (.iconst (-1), 1) := by decide +kernel
theorem dX7_sheet_13 : decode cX7_sheet 13 = .ok (.ireturn, 1) := by decide +kernel
theorem dX7_sheet_14 : decode cX7_sheet 14 = .ok (.iload_n 2, 1) := by decide +kernel
theorem dX7_sheet_15 : decode cX7_sheet 15 = .ok (.invokestatic 84, 3) := by decide +kernel
theorem dX7_sheet_18 : decode cX7_sheet 18 = .ok (.ifCond .eq 9, 3) := by decide +kernel
theorem dX7_sheet_21 : decode cX7_sheet 21 = .ok (.iload_n 3, 1) := by decide +kernel
theorem dX7_sheet_22 : decode cX7_sheet 22 = .ok (.bipush 60, 2) := by decide +kernel
theorem dX7_sheet_24 : decode cX7_sheet 24 = .ok (.if_icmp .le 6, 3) := by decide +kernel
theorem dX7_sheet_27 : decode cX7_sheet 27 = .ok (.bipush (-2), 2) := by decide +kernel
theorem dX7_sheet_29 : decode cX7_sheet 29 = .ok (.ireturn, 1) := by decide +kernel
theorem dX7_sheet_30 : decode cX7_sheet 30 = .ok (.iload_n 3, 1) := by decide +kernel
theorem dX7_sheet_31 : decode cX7_sheet 31 = .ok (.ifCond .ge 9, 3) := by decide +kernel
theorem dX7_sheet_34 : decode cX7_sheet 34 = .ok (.aload_n 0, 1) := by decide +kernel
theorem dX7_sheet_35 : decode cX7_sheet 35 = .ok (.iconst 4, 1) := by decide +kernel
theorem dX7_sheet_36 : decode cX7_sheet 36 = .ok (.invokevirtual 91, 3) := by decide +kernel
theorem dX7_sheet_39 : decode cX7_sheet 39 = .ok (.ireturn, 1) := by decide +kernel
theorem dX7_sheet_40 : decode cX7_sheet 40 = .ok (.aload_n 0, 1) := by decide +kernel
theorem dX7_sheet_41 : decode cX7_sheet 41 = .ok (.getfield 9, 3) := by decide +kernel
theorem dX7_sheet_44 : decode cX7_sheet 44 = .ok (.iload_n 1, 1) := by decide +kernel
theorem dX7_sheet_45 : decode cX7_sheet 45 = .ok (.iload_n 2, 1) := by decide +kernel
theorem dX7_sheet_46 : decode cX7_sheet 46 = .ok (.iastore, 1) := by decide +kernel
theorem dX7_sheet_47 : decode cX7_sheet 47 = .ok (.aload_n 0, 1) := by decide +kernel
theorem dX7_sheet_48 : decode cX7_sheet 48 = .ok (.getfield 13, 3) := by decide +kernel
theorem dX7_sheet_51 : decode cX7_sheet 51 = .ok (.iload_n 1, 1) := by decide +kernel
theorem dX7_sheet_52 : decode cX7_sheet 52 = .ok (.iload_n 3, 1) := by decide +kernel
theorem dX7_sheet_53 : decode cX7_sheet 53 = .ok (.iastore, 1) := by decide +kernel
theorem dX7_sheet_54 : decode cX7_sheet 54 = .ok (.iconst 0, 1) := by decide +kernel
theorem dX7_sheet_55 : decode cX7_sheet 55 = .ok (.istore 4, 2) := by decide +kernel
theorem dX7_sheet_57 : decode cX7_sheet 57 = .ok (.iload 4, 2) := by decide +kernel
theorem dX7_sheet_59 : decode cX7_sheet 59 = .ok (.bipush 60, 2) := by decide +kernel
theorem dX7_sheet_61 : decode cX7_sheet 61 = .ok (.if_icmp .ge 22, 3) := by decide +kernel
theorem dX7_sheet_64 : decode cX7_sheet 64 = .ok (.aload_n 0, 1) := by decide +kernel
theorem dX7_sheet_65 : decode cX7_sheet 65 = .ok (.getfield 16, 3) := by decide +kernel
theorem dX7_sheet_68 : decode cX7_sheet 68 = .ok (.bipush 60, 2) := by decide +kernel
theorem dX7_sheet_70 : decode cX7_sheet 70 = .ok (.iload_n 1, 1) := by decide +kernel
theorem dX7_sheet_71 : decode cX7_sheet 71 = .ok (.imul, 1) := by decide +kernel
theorem dX7_sheet_72 : decode cX7_sheet 72 = .ok (.iload 4, 2) := by decide +kernel
theorem dX7_sheet_74 : decode cX7_sheet 74 = .ok (.iadd, 1) := by decide +kernel
theorem dX7_sheet_75 : decode cX7_sheet 75 = .ok (.iconst 0, 1) := by decide +kernel
theorem dX7_sheet_76 : decode cX7_sheet 76 = .ok (.iastore, 1) := by decide +kernel
theorem dX7_sheet_77 : decode cX7_sheet 77 = .ok (.iinc 4 1, 3) := by decide +kernel
theorem dX7_sheet_80 : decode cX7_sheet 80 = .ok (.goto (-23), 3) := by decide +kernel
theorem dX7_sheet_83 : decode cX7_sheet 83 = .ok (.iconst 1, 1) := by decide +kernel
theorem dX7_sheet_84 : decode cX7_sheet 84 = .ok (.ireturn, 1) := by decide +kernel
theorem dX7_lose_0 : decode cX7_lose 0 = .ok (.iload_n 1, 1) := by decide +kernel
theorem dX7_lose_1 : decode cX7_lose 1 = .ok (.invokestatic 80, 3) := by decide +kernel
theorem dX7_lose_4 : decode cX7_lose 4 = .ok (.ifCond .ne 5, 3) := by decide +kernel
theorem dX7_lose_7 : decode cX7_lose 7 = .ok (.iconst (-1), 1) := by decide +kernel
theorem dX7_lose_8 : decode cX7_lose 8 = .ok (.ireturn, 1) := by decide +kernel
theorem dX7_lose_9 : decode cX7_lose 9 = .ok (.aload_n 0, 1) := by decide +kernel
theorem dX7_lose_10 : decode cX7_lose 10 = .ok (.getfield 9, 3) := by decide +kernel
theorem dX7_lose_13 : decode cX7_lose 13 = .ok (.iload_n 1, 1) := by decide +kernel
theorem dX7_lose_14 : decode cX7_lose 14 = .ok (.iaload, 1) := by decide +kernel
theorem dX7_lose_15 : decode cX7_lose 15 = .ok (.bipush (-9), 2) := by decide +kernel
theorem dX7_lose_17 : decode cX7_lose 17 = .ok (.if_icmp .ne 7, 3) := by decide +kernel
theorem dX7_lose_20 : decode cX7_lose 20 = .ok (.iconst 0, 1) := by decide +kernel
theorem dX7_lose_21 : decode cX7_lose 21 = .ok (.goto 4, 3) := by decide +kernel
theorem dX7_lose_24 : decode cX7_lose 24 = .ok (.iconst 1, 1) := by decide +kernel
theorem dX7_lose_25 : decode cX7_lose 25 = .ok (.istore_n 2, 1) := by decide +kernel
theorem dX7_lose_26 : decode cX7_lose 26 = .ok (.aload_n 0, 1) := by decide +kernel
theorem dX7_lose_27 : decode cX7_lose 27 = .ok (.getfield 9, 3) := by decide +kernel
theorem dX7_lose_30 : decode cX7_lose 30 = .ok (.iload_n 1, 1) := by decide +kernel
theorem dX7_lose_31 : decode cX7_lose 31 = .ok (.bipush (-9), 2) := by decide +kernel
theorem dX7_lose_33 : decode cX7_lose 33 = .ok (.iastore, 1) := by decide +kernel
theorem dX7_lose_34 : decode cX7_lose 34 = .ok (.iload_n 2, 1) := by decide +kernel
theorem dX7_lose_35 : decode cX7_lose 35 = .ok (.ireturn, 1) := by decide +kernel
theorem dX7_put_0 : decode cX7_put 0 = .ok (.aload_n 0, 1) := by decide +kernel
theorem dX7_put_1 : decode cX7_put 1 = .ok (.iconst 0, 1) := by decide +kernel
theorem dX7_put_2 : decode cX7_put 2 = .ok (.putfield 61, 3) := by decide +kernel
theorem dX7_put_5 : decode cX7_put 5 = .ok (.iload_n 1, 1) := by decide +kernel
theorem dX7_put_6 : decode cX7_put 6 = .ok (.invokestatic 80, 3) := by decide +kernel
theorem dX7_put_9 : decode cX7_put 9 = .ok (.ifCond .ne 5, 3) := by decide +kernel
theorem dX7_put_12 : decode cX7_put 12 = .ok (.iconst (-1), 1) := by decide +kernel
theorem dX7_put_13 : decode cX7_put 13 = .ok (.ireturn, 1) := by decide +kernel
theorem dX7_put_14 : decode cX7_put 14 = .ok (.aload_n 0, 1) := by decide +kernel
theorem dX7_put_15 : decode cX7_put 15 = .ok (.getfield 9, 3) := by decide +kernel
theorem dX7_put_18 : decode cX7_put 18 = .ok (.iload_n 1, 1) := by decide +kernel
theorem dX7_put_19 : decode cX7_put 19 = .ok (.iaload, 1) := by decide +kernel
theorem dX7_put_20 : decode cX7_put 20 = .ok (.bipush (-9), 2) := by decide +kernel
theorem dX7_put_22 : decode cX7_put 22 = .ok (.if_icmp .ne 9, 3) := by decide +kernel
theorem dX7_put_25 : decode cX7_put 25 = .ok (.aload_n 0, 1) := by decide +kernel
theorem dX7_put_26 : decode cX7_put 26 = .ok (.iconst 1, 1) := by decide +kernel
theorem dX7_put_27 : decode cX7_put 27 = .ok (.invokevirtual 91, 3) := by decide +kernel
theorem dX7_put_30 : decode cX7_put 30 = .ok (.ireturn, 1) := by decide +kernel
theorem dX7_put_31 : decode cX7_put 31 = .ok (.iload_n 2, 1) := by decide +kernel
theorem dX7_put_32 : decode cX7_put 32 = .ok (.iconst 0, 1) := by decide +kernel
theorem dX7_put_33 : decode cX7_put 33 = .ok (.aload_n 0, 1) := by decide +kernel
theorem dX7_put_34 : decode cX7_put 34 = .ok (.getfield 13, 3) := by decide +kernel
theorem dX7_put_37 : decode cX7_put 37 = .ok (.iload_n 1, 1) := by decide +kernel
theorem dX7_put_38 : decode cX7_put 38 = .ok (.iaload, 1) := by decide +kernel
theorem dX7_put_39 : decode cX7_put 39 = .ok (.iconst 1, 1) := by decide +kernel
theorem dX7_put_40 : decode cX7_put 40 = .ok (.isub, 1) := by decide +kernel
theorem dX7_put_41 : decode cX7_put 41 = .ok (.invokestatic 67, 3) := by decide +kernel
theorem dX7_put_44 : decode cX7_put 44 = .ok (.ifCond .ne 9, 3) := by decide +kernel
theorem dX7_put_47 : decode cX7_put 47 = .ok (.aload_n 0, 1) := by decide +kernel
theorem dX7_put_48 : decode cX7_put 48 = .ok (.iconst 3, 1) := by decide +kernel
theorem dX7_put_49 : decode cX7_put 49 = .ok (.invokevirtual 91, 3) := by decide +kernel
theorem dX7_put_52 : decode cX7_put 52 = .ok (.ireturn, 1) := by decide +kernel
theorem dX7_put_53 : decode cX7_put 53 = .ok (.aload_n 0, 1) := by decide +kernel
theorem dX7_put_54 : decode cX7_put 54 = .ok (.getfield 16, 3) := by decide +kernel
theorem dX7_put_57 : decode cX7_put 57 = .ok (.bipush 60, 2) := by decide +kernel
theorem dX7_put_59 : decode cX7_put 59 = .ok (.iload_n 1, 1) := by decide +kernel
theorem dX7_put_60 : decode cX7_put 60 = .ok (.imul, 1) := by decide +kernel
theorem dX7_put_61 : decode cX7_put 61 = .ok (.iload_n 2, 1) := by decide +kernel
theorem dX7_put_62 : decode cX7_put 62 = .ok (.iadd, 1) := by decide +kernel
theorem dX7_put_63 : decode cX7_put 63 = .ok (.aload_n 0, 1) := by decide +kernel
theorem dX7_put_64 : decode cX7_put 64 = .ok (.getfield 9, 3) := by decide +kernel
theorem dX7_put_67 : decode cX7_put 67 = .ok (.iload_n 1, 1) := by decide +kernel
theorem dX7_put_68 : decode cX7_put 68 = .ok (.iaload, 1) := by decide +kernel
theorem dX7_put_69 : decode cX7_put 69 = .ok (.ifCond .ne 8, 3) := by decide +kernel
theorem dX7_put_72 : decode cX7_put 72 = .ok (.iload_n 3, 1) := by decide +kernel
theorem dX7_put_73 : decode cX7_put 73 = .ok (.i2b, 1) := by decide +kernel
theorem dX7_put_74 : decode cX7_put 74 = .ok (.goto 19, 3) := by decide +kernel
theorem dX7_put_77 : decode cX7_put 77 = .ok (.aload_n 0, 1) := by decide +kernel
theorem dX7_put_78 : decode cX7_put 78 = .ok (.getfield 9, 3) := by decide +kernel
theorem dX7_put_81 : decode cX7_put 81 = .ok (.iload_n 1, 1) := by decide +kernel
theorem dX7_put_82 : decode cX7_put 82 = .ok (.iaload, 1) := by decide +kernel
theorem dX7_put_83 : decode cX7_put 83 = .ok (.iconst 1, 1) := by decide +kernel
theorem dX7_put_84 : decode cX7_put 84 = .ok (.if_icmp .ne 8, 3) := by decide +kernel
theorem dX7_put_87 : decode cX7_put 87 = .ok (.iload_n 3, 1) := by decide +kernel
theorem dX7_put_88 : decode cX7_put 88 = .ok (.i2s, 1) := by decide +kernel
theorem dX7_put_89 : decode cX7_put 89 = .ok (.goto 4, 3) := by decide +kernel
theorem dX7_put_92 : decode cX7_put 92 = .ok (.iload_n 3, 1) := by decide +kernel
theorem dX7_put_93 : decode cX7_put 93 = .ok (.iastore, 1) := by decide +kernel
theorem dX7_put_94 : decode cX7_put 94 = .ok (.iconst 1, 1) := by decide +kernel
theorem dX7_put_95 : decode cX7_put 95 = .ok (.ireturn, 1) := by decide +kernel
theorem dX7_cell_0 : decode cX7_cell 0 = .ok (.aload_n 0, 1) := by decide +kernel
theorem dX7_cell_1 : decode cX7_cell 1 = .ok (.iconst 0, 1) := by decide +kernel
theorem dX7_cell_2 : decode cX7_cell 2 = .ok (.putfield 61, 3) := by decide +kernel
theorem dX7_cell_5 : decode cX7_cell 5 = .ok (.iload_n 1, 1) := by decide +kernel
theorem dX7_cell_6 : decode cX7_cell 6 = .ok (.invokestatic 80, 3) := by decide +kernel
theorem dX7_cell_9 : decode cX7_cell 9 = .ok (.ifCond .eq 10, 3) := by decide +kernel
theorem dX7_cell_12 : decode cX7_cell 12 = .ok (.iload_n 3, 1) := by decide +kernel
theorem dX7_cell_13 : decode cX7_cell 13 = .ok (.invokestatic 84, 3) := by decide +kernel
theorem dX7_cell_16 : decode cX7_cell 16 = .ok (.ifCond .ne 7, 3) := by decide +kernel
theorem dX7_cell_19 : decode cX7_cell 19 = .ok (.ldc2_w 65, 3) := by decide +kernel
theorem dX7_cell_22 : decode cX7_cell 22 = .ok (.lreturn, 1) := by decide +kernel
theorem dX7_cell_23 : decode cX7_cell 23 = .ok (.aload_n 0, 1) := by decide +kernel
theorem dX7_cell_24 : decode cX7_cell 24 = .ok (.getfield 9, 3) := by decide +kernel
theorem dX7_cell_27 : decode cX7_cell 27 = .ok (.iload_n 1, 1) := by decide +kernel
theorem dX7_cell_28 : decode cX7_cell 28 = .ok (.iaload, 1) := by decide +kernel
theorem dX7_cell_29 : decode cX7_cell 29 = .ok (.bipush (-9), 2) := by decide +kernel
theorem dX7_cell_31 : decode cX7_cell 31 = .ok (.if_icmp .eq 19, 3) := by decide +kernel
theorem dX7_cell_34 : decode cX7_cell 34 = .ok (.aload_n 0, 1) := by decide +kernel
theorem dX7_cell_35 : decode cX7_cell 35 = .ok (.getfield 9, 3) := by decide +kernel
theorem dX7_cell_38 : decode cX7_cell 38 = .ok (.iload_n 1, 1) := by decide +kernel
theorem dX7_cell_39 : decode cX7_cell 39 = .ok (.iaload, 1) := by decide +kernel
theorem dX7_cell_40 : decode cX7_cell 40 = .ok (.iload_n 3, 1) := by decide +kernel
theorem dX7_cell_41 : decode cX7_cell 41 = .ok (.if_icmp .eq 9, 3) := by decide +kernel
theorem dX7_cell_44 : decode cX7_cell 44 = .ok (.aload_n 0, 1) := by decide +kernel
theorem dX7_cell_45 : decode cX7_cell 45 = .ok (.iconst 2, 1) := by decide +kernel
theorem dX7_cell_46 : decode cX7_cell 46 = .ok (.invokevirtual 202, 3) := by decide +kernel
theorem dX7_cell_49 : decode cX7_cell 49 = .ok (.lreturn, 1) := by decide +kernel
theorem dX7_cell_50 : decode cX7_cell 50 = .ok (.aload_n 0, 1) := by decide +kernel
theorem dX7_cell_51 : decode cX7_cell 51 = .ok (.getfield 9, 3) := by decide +kernel
theorem dX7_cell_54 : decode cX7_cell 54 = .ok (.iload_n 1, 1) := by decide +kernel
theorem dX7_cell_55 : decode cX7_cell 55 = .ok (.iaload, 1) := by decide +kernel
theorem dX7_cell_56 : decode cX7_cell 56 = .ok (.bipush (-9), 2) := by decide +kernel
theorem dX7_cell_58 : decode cX7_cell 58 = .ok (.if_icmp .ne 9, 3) := by decide +kernel
theorem dX7_cell_61 : decode cX7_cell 61 = .ok (.aload_n 0, 1) := by decide +kernel
theorem dX7_cell_62 : decode cX7_cell 62 = .ok (.iconst 1, 1) := by decide +kernel
theorem dX7_cell_63 : decode cX7_cell 63 = .ok (.invokevirtual 202, 3) := by decide +kernel
theorem dX7_cell_66 : decode cX7_cell 66 = .ok (.lreturn, 1) := by decide +kernel
theorem dX7_cell_67 : decode cX7_cell 67 = .ok (.iload_n 2, 1) := by decide +kernel
theorem dX7_cell_68 : decode cX7_cell 68 = .ok (.iconst 0, 1) := by decide +kernel
theorem dX7_cell_69 : decode cX7_cell 69 = .ok (.aload_n 0, 1) := by decide +kernel
theorem dX7_cell_70 : decode cX7_cell 70 = .ok (.getfield 13, 3) := by decide +kernel
theorem dX7_cell_73 : decode cX7_cell 73 = .ok (.iload_n 1, 1) := by decide +kernel
theorem dX7_cell_74 : decode cX7_cell 74 = .ok (.iaload, 1) := by decide +kernel
theorem dX7_cell_75 : decode cX7_cell 75 = .ok (.iconst 1, 1) := by decide +kernel
theorem dX7_cell_76 : decode cX7_cell 76 = .ok (.isub, 1) := by decide +kernel
theorem dX7_cell_77 : decode cX7_cell 77 = .ok (.invokestatic 67, 3) := by decide +kernel
theorem dX7_cell_80 : decode cX7_cell 80 = .ok (.ifCond .ne 9, 3) := by decide +kernel
theorem dX7_cell_83 : decode cX7_cell 83 = .ok (.aload_n 0, 1) := by decide +kernel
theorem dX7_cell_84 : decode cX7_cell 84 = .ok (.iconst 3, 1) := by decide +kernel
theorem dX7_cell_85 : decode cX7_cell 85 = .ok (.invokevirtual 202, 3) := by decide +kernel
theorem dX7_cell_88 : decode cX7_cell 88 = .ok (.lreturn, 1) := by decide +kernel
theorem dX7_cell_89 : decode cX7_cell 89 = .ok (.aload_n 0, 1) := by decide +kernel
theorem dX7_cell_90 : decode cX7_cell 90 = .ok (.getfield 16, 3) := by decide +kernel
theorem dX7_cell_93 : decode cX7_cell 93 = .ok (.bipush 60, 2) := by decide +kernel
theorem dX7_cell_95 : decode cX7_cell 95 = .ok (.iload_n 1, 1) := by decide +kernel
theorem dX7_cell_96 : decode cX7_cell 96 = .ok (.imul, 1) := by decide +kernel
theorem dX7_cell_97 : decode cX7_cell 97 = .ok (.iload_n 2, 1) := by decide +kernel
theorem dX7_cell_98 : decode cX7_cell 98 = .ok (.iadd, 1) := by decide +kernel
theorem dX7_cell_99 : decode cX7_cell 99 = .ok (.iaload, 1) := by decide +kernel
theorem dX7_cell_100 : decode cX7_cell 100 = .ok (.i2l, 1) := by decide +kernel
theorem dX7_cell_101 : decode cX7_cell 101 = .ok (.lreturn, 1) := by decide +kernel
theorem dX7_copy_0 : decode cX7_copy 0 = .ok (.aload_n 0, 1) := by decide +kernel
theorem dX7_copy_1 : decode cX7_copy 1 = .ok (.iconst 0, 1) := by decide +kernel
theorem dX7_copy_2 : decode cX7_copy 2 = .ok (.putfield 61, 3) := by decide +kernel
theorem dX7_copy_5 : decode cX7_copy 5 = .ok (.iload_n 1, 1) := by decide +kernel
theorem dX7_copy_6 : decode cX7_copy 6 = .ok (.invokestatic 80, 3) := by decide +kernel
theorem dX7_copy_9 : decode cX7_copy 9 = .ok (.ifCond .eq 10, 3) := by decide +kernel
theorem dX7_copy_12 : decode cX7_copy 12 = .ok (.iload_n 3, 1) := by decide +kernel
theorem dX7_copy_13 : decode cX7_copy 13 = .ok (.invokestatic 80, 3) := by decide +kernel
theorem dX7_copy_16 : decode cX7_copy 16 = .ok (.ifCond .ne 5, 3) := by decide +kernel
theorem dX7_copy_19 : decode cX7_copy 19 = .ok (.iconst (-1), 1) := by decide +kernel
theorem dX7_copy_20 : decode cX7_copy 20 = .ok (.ireturn, 1) := by decide +kernel
theorem dX7_copy_21 : decode cX7_copy 21 = .ok (.aload_n 0, 1) := by decide +kernel
theorem dX7_copy_22 : decode cX7_copy 22 = .ok (.getfield 9, 3) := by decide +kernel
theorem dX7_copy_25 : decode cX7_copy 25 = .ok (.iload_n 1, 1) := by decide +kernel
theorem dX7_copy_26 : decode cX7_copy 26 = .ok (.iaload, 1) := by decide +kernel
theorem dX7_copy_27 : decode cX7_copy 27 = .ok (.bipush (-9), 2) := by decide +kernel
theorem dX7_copy_29 : decode cX7_copy 29 = .ok (.if_icmp .eq 14, 3) := by decide +kernel
theorem dX7_copy_32 : decode cX7_copy 32 = .ok (.aload_n 0, 1) := by decide +kernel
theorem dX7_copy_33 : decode cX7_copy 33 = .ok (.getfield 9, 3) := by decide +kernel
theorem dX7_copy_36 : decode cX7_copy 36 = .ok (.iload_n 3, 1) := by decide +kernel
theorem dX7_copy_37 : decode cX7_copy 37 = .ok (.iaload, 1) := by decide +kernel
theorem dX7_copy_38 : decode cX7_copy 38 = .ok (.bipush (-9), 2) := by decide +kernel
theorem dX7_copy_40 : decode cX7_copy 40 = .ok (.if_icmp .ne 9, 3) := by decide +kernel
theorem dX7_copy_43 : decode cX7_copy 43 = .ok (.aload_n 0, 1) := by decide +kernel
theorem dX7_copy_44 : decode cX7_copy 44 = .ok (.iconst 1, 1) := by decide +kernel
theorem dX7_copy_45 : decode cX7_copy 45 = .ok (.invokevirtual 91, 3) := by decide +kernel
theorem dX7_copy_48 : decode cX7_copy 48 = .ok (.ireturn, 1) := by decide +kernel
theorem dX7_copy_49 : decode cX7_copy 49 = .ok (.aload_n 0, 1) := by decide +kernel
theorem dX7_copy_50 : decode cX7_copy 50 = .ok (.getfield 9, 3) := by decide +kernel
theorem dX7_copy_53 : decode cX7_copy 53 = .ok (.iload_n 1, 1) := by decide +kernel
theorem dX7_copy_54 : decode cX7_copy 54 = .ok (.iaload, 1) := by decide +kernel
theorem dX7_copy_55 : decode cX7_copy 55 = .ok (.aload_n 0, 1) := by decide +kernel
theorem dX7_copy_56 : decode cX7_copy 56 = .ok (.getfield 9, 3) := by decide +kernel
theorem dX7_copy_59 : decode cX7_copy 59 = .ok (.iload_n 3, 1) := by decide +kernel
theorem dX7_copy_60 : decode cX7_copy 60 = .ok (.iaload, 1) := by decide +kernel
theorem dX7_copy_61 : decode cX7_copy 61 = .ok (.if_icmp .eq 9, 3) := by decide +kernel
theorem dX7_copy_64 : decode cX7_copy 64 = .ok (.aload_n 0, 1) := by decide +kernel
theorem dX7_copy_65 : decode cX7_copy 65 = .ok (.iconst 2, 1) := by decide +kernel
theorem dX7_copy_66 : decode cX7_copy 66 = .ok (.invokevirtual 91, 3) := by decide +kernel
theorem dX7_copy_69 : decode cX7_copy 69 = .ok (.ireturn, 1) := by decide +kernel
theorem dX7_copy_70 : decode cX7_copy 70 = .ok (.iload_n 2, 1) := by decide +kernel
theorem dX7_copy_71 : decode cX7_copy 71 = .ok (.ifCond .lt 38, 3) := by decide +kernel
theorem dX7_copy_74 : decode cX7_copy 74 = .ok (.iload 4, 2) := by decide +kernel
theorem dX7_copy_76 : decode cX7_copy 76 = .ok (.ifCond .lt 33, 3) := by decide +kernel
theorem dX7_copy_79 : decode cX7_copy 79 = .ok (.iload 5, 2) := by decide +kernel
theorem dX7_copy_81 : decode cX7_copy 81 = .ok (.ifCond .lt 28, 3) := by decide +kernel
theorem dX7_copy_84 : decode cX7_copy 84 = .ok (.iload_n 2, 1) := by decide +kernel
theorem dX7_copy_85 : decode cX7_copy 85 = .ok (.aload_n 0, 1) := by decide +kernel
theorem dX7_copy_86 : decode cX7_copy 86 = .ok (.getfield 13, 3) := by decide +kernel
theorem dX7_copy_89 : decode cX7_copy 89 = .ok (.iload_n 1, 1) := by decide +kernel
theorem dX7_copy_90 : decode cX7_copy 90 = .ok (.iaload, 1) := by decide +kernel
theorem dX7_copy_91 : decode cX7_copy 91 = .ok (.if_icmp .gt 18, 3) := by decide +kernel
theorem dX7_copy_94 : decode cX7_copy 94 = .ok (.iload 4, 2) := by decide +kernel
theorem dX7_copy_96 : decode cX7_copy 96 = .ok (.aload_n 0, 1) := by decide +kernel
theorem dX7_copy_97 : decode cX7_copy 97 = .ok (.getfield 13, 3) := by decide +kernel
theorem dX7_copy_100 : decode cX7_copy 100 = .ok (.iload_n 3, 1) := by decide +kernel
theorem dX7_copy_101 : decode cX7_copy 101 = .ok (.iaload, 1) := by decide +kernel
theorem dX7_copy_102 : decode cX7_copy 102 = .ok (.if_icmp .gt 7, 3) := by decide +kernel
theorem dX7_copy_105 : decode cX7_copy 105 = .ok (.iconst 1, 1) := by decide +kernel
theorem dX7_copy_106 : decode cX7_copy 106 = .ok (.goto 4, 3) := by decide +kernel
theorem dX7_copy_109 : decode cX7_copy 109 = .ok (.iconst 0, 1) := by decide +kernel
theorem dX7_copy_110 : decode cX7_copy 110 = .ok (.istore 6, 2) := by decide +kernel
theorem dX7_copy_112 : decode cX7_copy 112 = .ok (.iload 6, 2) := by decide +kernel
theorem dX7_copy_114 : decode cX7_copy 114 = .ok (.ifCond .eq 30, 3) := by decide +kernel
theorem dX7_copy_117 : decode cX7_copy 117 = .ok (.iload 5, 2) := by decide +kernel
theorem dX7_copy_119 : decode cX7_copy 119 = .ok (.aload_n 0, 1) := by decide +kernel
theorem dX7_copy_120 : decode cX7_copy 120 = .ok (.getfield 13, 3) := by decide +kernel
theorem dX7_copy_123 : decode cX7_copy 123 = .ok (.iload_n 1, 1) := by decide +kernel
theorem dX7_copy_124 : decode cX7_copy 124 = .ok (.iaload, 1) := by decide +kernel
theorem dX7_copy_125 : decode cX7_copy 125 = .ok (.iload_n 2, 1) := by decide +kernel
theorem dX7_copy_126 : decode cX7_copy 126 = .ok (.isub, 1) := by decide +kernel
theorem dX7_copy_127 : decode cX7_copy 127 = .ok (.if_icmp .gt 17, 3) := by decide +kernel
theorem dX7_copy_130 : decode cX7_copy 130 = .ok (.iload 5, 2) := by decide +kernel
theorem dX7_copy_132 : decode cX7_copy 132 = .ok (.aload_n 0, 1) := by decide +kernel
theorem dX7_copy_133 : decode cX7_copy 133 = .ok (.getfield 13, 3) := by decide +kernel
theorem dX7_copy_136 : decode cX7_copy 136 = .ok (.iload_n 3, 1) := by decide +kernel
theorem dX7_copy_137 : decode cX7_copy 137 = .ok (.iaload, 1) := by decide +kernel
theorem dX7_copy_138 : decode cX7_copy 138 = .ok (.iload 4, 2) := by decide +kernel
theorem dX7_copy_140 : decode cX7_copy 140 = .ok (.isub, 1) := by decide +kernel
theorem dX7_copy_141 : decode cX7_copy 141 = .ok (.if_icmp .le 9, 3) := by decide +kernel
theorem dX7_copy_144 : decode cX7_copy 144 = .ok (.aload_n 0, 1) := by decide +kernel
theorem dX7_copy_145 : decode cX7_copy 145 = .ok (.iconst 3, 1) := by decide +kernel
theorem dX7_copy_146 : decode cX7_copy 146 = .ok (.invokevirtual 91, 3) := by decide +kernel
theorem dX7_copy_149 : decode cX7_copy 149 = .ok (.ireturn, 1) := by decide +kernel
theorem dX7_copy_150 : decode cX7_copy 150 = .ok (.iload_n 2, 1) := by decide +kernel
theorem dX7_copy_151 : decode cX7_copy 151 = .ok (.iload 4, 2) := by decide +kernel
theorem dX7_copy_153 : decode cX7_copy 153 = .ok (.if_icmp .ge 7, 3) := by decide +kernel
theorem dX7_copy_156 : decode cX7_copy 156 = .ok (.iconst 1, 1) := by decide +kernel
theorem dX7_copy_157 : decode cX7_copy 157 = .ok (.goto 4, 3) := by decide +kernel
theorem dX7_copy_160 : decode cX7_copy 160 = .ok (.iconst 0, 1) := by decide +kernel
theorem dX7_copy_161 : decode cX7_copy 161 = .ok (.istore 7, 2) := by decide +kernel
theorem dX7_copy_163 : decode cX7_copy 163 = .ok (.iconst 0, 1) := by decide +kernel
theorem dX7_copy_164 : decode cX7_copy 164 = .ok (.istore 8, 2) := by decide +kernel
theorem dX7_copy_166 : decode cX7_copy 166 = .ok (.iload 8, 2) := by decide +kernel
theorem dX7_copy_168 : decode cX7_copy 168 = .ok (.iload 5, 2) := by decide +kernel
theorem dX7_copy_170 : decode cX7_copy 170 = .ok (.if_icmp .ge 57, 3) := by decide +kernel
theorem dX7_copy_173 : decode cX7_copy 173 = .ok (.iload 7, 2) := by decide +kernel
theorem dX7_copy_175 : decode cX7_copy 175 = .ok (.ifCond .eq 13, 3) := by decide +kernel
theorem dX7_copy_178 : decode cX7_copy 178 = .ok (.iload 5, 2) := by decide +kernel
theorem dX7_copy_180 : decode cX7_copy 180 = .ok (.iconst 1, 1) := by decide +kernel
theorem dX7_copy_181 : decode cX7_copy 181 = .ok (.isub, 1) := by decide +kernel
theorem dX7_copy_182 : decode cX7_copy 182 = .ok (.iload 8, 2) := by decide +kernel
theorem dX7_copy_184 : decode cX7_copy 184 = .ok (.isub, 1) := by decide +kernel
theorem dX7_copy_185 : decode cX7_copy 185 = .ok (.goto 5, 3) := by decide +kernel
theorem dX7_copy_188 : decode cX7_copy 188 = .ok (.iload 8, 2) := by decide +kernel
theorem dX7_copy_190 : decode cX7_copy 190 = .ok (.istore 9, 2) := by decide +kernel
theorem dX7_copy_192 : decode cX7_copy 192 = .ok (.aload_n 0, 1) := by decide +kernel
theorem dX7_copy_193 : decode cX7_copy 193 = .ok (.getfield 16, 3) := by decide +kernel
theorem dX7_copy_196 : decode cX7_copy 196 = .ok (.bipush 60, 2) := by decide +kernel
theorem dX7_copy_198 : decode cX7_copy 198 = .ok (.iload_n 3, 1) := by decide +kernel
theorem dX7_copy_199 : decode cX7_copy 199 = .ok (.imul, 1) := by decide +kernel
theorem dX7_copy_200 : decode cX7_copy 200 = .ok (.iload 4, 2) := by decide +kernel
theorem dX7_copy_202 : decode cX7_copy 202 = .ok (.iadd, 1) := by decide +kernel
theorem dX7_copy_203 : decode cX7_copy 203 = .ok (.iload 9, 2) := by decide +kernel
theorem dX7_copy_205 : decode cX7_copy 205 = .ok (.iadd, 1) := by decide +kernel
theorem dX7_copy_206 : decode cX7_copy 206 = .ok (.aload_n 0, 1) := by decide +kernel
theorem dX7_copy_207 : decode cX7_copy 207 = .ok (.getfield 16, 3) := by decide +kernel
theorem dX7_copy_210 : decode cX7_copy 210 = .ok (.bipush 60, 2) := by decide +kernel
theorem dX7_copy_212 : decode cX7_copy 212 = .ok (.iload_n 1, 1) := by decide +kernel
theorem dX7_copy_213 : decode cX7_copy 213 = .ok (.imul, 1) := by decide +kernel
theorem dX7_copy_214 : decode cX7_copy 214 = .ok (.iload_n 2, 1) := by decide +kernel
theorem dX7_copy_215 : decode cX7_copy 215 = .ok (.iadd, 1) := by decide +kernel
theorem dX7_copy_216 : decode cX7_copy 216 = .ok (.iload 9, 2) := by decide +kernel
theorem dX7_copy_218 : decode cX7_copy 218 = .ok (.iadd, 1) := by decide +kernel
theorem dX7_copy_219 : decode cX7_copy 219 = .ok (.iaload, 1) := by decide +kernel
theorem dX7_copy_220 : decode cX7_copy 220 = .ok (.iastore, 1) := by decide +kernel
theorem dX7_copy_221 : decode cX7_copy 221 = .ok (.iinc 8 1, 3) := by decide +kernel
theorem dX7_copy_224 : decode cX7_copy 224 = .ok (.goto (-58), 3) := by decide +kernel
theorem dX7_copy_227 : decode cX7_copy 227 = .ok (.iload 5, 2) := by decide +kernel
theorem dX7_copy_229 : decode cX7_copy 229 = .ok (.ireturn, 1) := by decide +kernel
theorem dX7_begins_0 : decode cX7_begins 0 = .ok (.aload_n 0, 1) := by decide +kernel
theorem dX7_begins_1 : decode cX7_begins 1 = .ok (.bipush 31, 2) := by decide +kernel
theorem dX7_begins_3 : decode cX7_begins 3 = .ok (.aload_n 0, 1) := by decide +kernel
theorem dX7_begins_4 : decode cX7_begins 4 = .ok (.getfield 206, 3) := by decide +kernel
theorem dX7_begins_7 : decode cX7_begins 7 = .ok (.imul, 1) := by decide +kernel
theorem dX7_begins_8 : decode cX7_begins 8 = .ok (.iload_n 1, 1) := by decide +kernel
theorem dX7_begins_9 : decode cX7_begins 9 = .ok (.iadd, 1) := by decide +kernel
theorem dX7_begins_10 : decode cX7_begins 10 = .ok (.putfield 206, 3) := by decide +kernel
theorem dX7_begins_13 : decode cX7_begins 13 = .ok (.return_, 1) := by decide +kernel
theorem dX7_tell_0 : decode cX7_tell 0 = .ok (.aload_n 0, 1) := by decide +kernel
theorem dX7_tell_1 : decode cX7_tell 1 = .ok (.iload_n 1, 1) := by decide +kernel
theorem dX7_tell_2 : decode cX7_tell 2 = .ok (.invokevirtual 133, 3) := by decide +kernel
theorem dX7_tell_5 : decode cX7_tell 5 = .ok (.ifCond .ne 5, 3) := by decide +kernel
theorem dX7_tell_8 : decode cX7_tell 8 = .ok (.iconst (-1), 1) := by decide +kernel
theorem dX7_tell_9 : decode cX7_tell 9 = .ok (.ireturn, 1) := by decide +kernel
theorem dX7_tell_10 : decode cX7_tell 10 = .ok (.aload_n 0, 1) := by decide +kernel
theorem dX7_tell_11 : decode cX7_tell 11 = .ok (.getfield 28, 3) := by decide +kernel
theorem dX7_tell_14 : decode cX7_tell 14 = .ok (.iload_n 1, 1) := by decide +kernel
theorem dX7_tell_15 : decode cX7_tell 15 = .ok (.iaload, 1) := by decide +kernel
theorem dX7_tell_16 : decode cX7_tell 16 = .ok (.istore_n 2, 1) := by decide +kernel
theorem dX7_tell_17 : decode cX7_tell 17 = .ok (.aload_n 0, 1) := by decide +kernel
theorem dX7_tell_18 : decode cX7_tell 18 = .ok (.getfield 25, 3) := by decide +kernel
theorem dX7_tell_21 : decode cX7_tell 21 = .ok (.iload_n 1, 1) := by decide +kernel
theorem dX7_tell_22 : decode cX7_tell 22 = .ok (.iaload, 1) := by decide +kernel
theorem dX7_tell_23 : decode cX7_tell 23 = .ok (.lookupswitch 67 #[(1, 25), (2, 40)], 25) := by decide +kernel
theorem dX7_tell_48 : decode cX7_tell 48 = .ok (.aload_n 0, 1) := by decide +kernel
theorem dX7_tell_49 : decode cX7_tell 49 = .ok (.iconst 2, 1) := by decide +kernel
theorem dX7_tell_50 : decode cX7_tell 50 = .ok (.invokevirtual 209, 3) := by decide +kernel
theorem dX7_tell_53 : decode cX7_tell 53 = .ok (.aload_n 0, 1) := by decide +kernel
theorem dX7_tell_54 : decode cX7_tell 54 = .ok (.iconst 1, 1) := by decide +kernel
theorem dX7_tell_55 : decode cX7_tell 55 = .ok (.invokevirtual 209, 3) := by decide +kernel
theorem dX7_tell_58 : decode cX7_tell 58 = .ok (.iload_n 2, 1) := by decide +kernel
theorem dX7_tell_59 : decode cX7_tell 59 = .ok (.bipush 100, 2) := by decide +kernel
theorem dX7_tell_61 : decode cX7_tell 61 = .ok (.iadd, 1) := by decide +kernel
theorem dX7_tell_62 : decode cX7_tell 62 = .ok (.ireturn, 1) := by decide +kernel
theorem dX7_tell_63 : decode cX7_tell 63 = .ok (.aload_n 0, 1) := by decide +kernel
theorem dX7_tell_64 : decode cX7_tell 64 = .ok (.iconst 3, 1) := by decide +kernel
theorem dX7_tell_65 : decode cX7_tell 65 = .ok (.invokevirtual 209, 3) := by decide +kernel
theorem dX7_tell_68 : decode cX7_tell 68 = .ok (.aload_n 0, 1) := by decide +kernel
theorem dX7_tell_69 : decode cX7_tell 69 = .ok (.iconst 2, 1) := by decide +kernel
theorem dX7_tell_70 : decode cX7_tell 70 = .ok (.invokevirtual 209, 3) := by decide +kernel
theorem dX7_tell_73 : decode cX7_tell 73 = .ok (.aload_n 0, 1) := by decide +kernel
theorem dX7_tell_74 : decode cX7_tell 74 = .ok (.iconst 1, 1) := by decide +kernel
theorem dX7_tell_75 : decode cX7_tell 75 = .ok (.invokevirtual 209, 3) := by decide +kernel
theorem dX7_tell_78 : decode cX7_tell 78 = .ok (.aload_n 0, 1) := by decide +kernel
theorem dX7_tell_79 : decode cX7_tell 79 = .ok (.iconst 1, 1) := by decide +kernel
theorem dX7_tell_80 : decode cX7_tell 80 = .ok (.invokevirtual 209, 3) := by decide +kernel
theorem dX7_tell_83 : decode cX7_tell 83 = .ok (.iconst 2, 1) := by decide +kernel
theorem dX7_tell_84 : decode cX7_tell 84 = .ok (.iload_n 2, 1) := by decide +kernel
theorem dX7_tell_85 : decode cX7_tell 85 = .ok (.imul, 1) := by decide +kernel
theorem dX7_tell_86 : decode cX7_tell 86 = .ok (.bipush 100, 2) := by decide +kernel
theorem dX7_tell_88 : decode cX7_tell 88 = .ok (.iadd, 1) := by decide +kernel
theorem dX7_tell_89 : decode cX7_tell 89 = .ok (.ireturn, 1) := by decide +kernel
theorem dX7_tell_90 : decode cX7_tell 90 = .ok (.aload_n 0, 1) := by decide +kernel
theorem dX7_tell_91 : decode cX7_tell 91 = .ok (.iconst 1, 1) := by decide +kernel
theorem dX7_tell_92 : decode cX7_tell 92 = .ok (.invokevirtual 209, 3) := by decide +kernel
theorem dX7_tell_95 : decode cX7_tell 95 = .ok (.iload_n 2, 1) := by decide +kernel
theorem dX7_tell_96 : decode cX7_tell 96 = .ok (.ireturn, 1) := by decide +kernel
theorem dX7_feel_0 : decode cX7_feel 0 = .ok (.aload_n 0, 1) := by decide +kernel
theorem dX7_feel_1 : decode cX7_feel 1 = .ok (.iload_n 1, 1) := by decide +kernel
theorem dX7_feel_2 : decode cX7_feel 2 = .ok (.invokevirtual 133, 3) := by decide +kernel
theorem dX7_feel_5 : decode cX7_feel 5 = .ok (.ifCond .ne 5, 3) := by decide +kernel
theorem dX7_feel_8 : decode cX7_feel 8 = .ok (.iconst (-1), 1) := by decide +kernel
theorem dX7_feel_9 : decode cX7_feel 9 = .ok (.ireturn, 1) := by decide +kernel
theorem dX7_feel_10 : decode cX7_feel 10 = .ok (.aload_n 0, 1) := by decide +kernel
theorem dX7_feel_11 : decode cX7_feel 11 = .ok (.aload_n 0, 1) := by decide +kernel
theorem dX7_feel_12 : decode cX7_feel 12 = .ok (.getfield 25, 3) := by decide +kernel
theorem dX7_feel_15 : decode cX7_feel 15 = .ok (.iload_n 1, 1) := by decide +kernel
theorem dX7_feel_16 : decode cX7_feel 16 = .ok (.iaload, 1) := by decide +kernel
theorem dX7_feel_17 : decode cX7_feel 17 = .ok (.iconst 2, 1) := by decide +kernel
theorem dX7_feel_18 : decode cX7_feel 18 = .ok (.if_icmp .ne 7, 3) := by decide +kernel
theorem dX7_feel_21 : decode cX7_feel 21 = .ok (.iconst 5, 1) := by decide +kernel
theorem dX7_feel_22 : decode cX7_feel 22 = .ok (.goto 4, 3) := by decide +kernel
theorem dX7_feel_25 : decode cX7_feel 25 = .ok (.iconst 4, 1) := by decide +kernel
theorem dX7_feel_26 : decode cX7_feel 26 = .ok (.invokevirtual 209, 3) := by decide +kernel
theorem dX7_feel_29 : decode cX7_feel 29 = .ok (.aload_n 0, 1) := by decide +kernel
theorem dX7_feel_30 : decode cX7_feel 30 = .ok (.getfield 25, 3) := by decide +kernel
theorem dX7_feel_33 : decode cX7_feel 33 = .ok (.iload_n 1, 1) := by decide +kernel
theorem dX7_feel_34 : decode cX7_feel 34 = .ok (.iaload, 1) := by decide +kernel
theorem dX7_feel_35 : decode cX7_feel 35 = .ok (.iconst 2, 1) := by decide +kernel
theorem dX7_feel_36 : decode cX7_feel 36 = .ok (.if_icmp .ne 8, 3) := by decide +kernel
theorem dX7_feel_39 : decode cX7_feel 39 = .ok (.bipush 70, 2) := by decide +kernel
theorem dX7_feel_41 : decode cX7_feel 41 = .ok (.goto 4, 3) := by decide +kernel
theorem dX7_feel_44 : decode cX7_feel 44 = .ok (.iload_n 1, 1) := by decide +kernel
theorem dX7_feel_45 : decode cX7_feel 45 = .ok (.ireturn, 1) := by decide +kernel
theorem dX7_as_0 : decode cX7_as 0 = .ok (.aload_n 0, 1) := by decide +kernel
theorem dX7_as_1 : decode cX7_as 1 = .ok (.iconst 0, 1) := by decide +kernel
theorem dX7_as_2 : decode cX7_as 2 = .ok (.putfield 61, 3) := by decide +kernel
theorem dX7_as_5 : decode cX7_as 5 = .ok (.aload_n 0, 1) := by decide +kernel
theorem dX7_as_6 : decode cX7_as 6 = .ok (.iload_n 1, 1) := by decide +kernel
theorem dX7_as_7 : decode cX7_as 7 = .ok (.invokevirtual 133, 3) := by decide +kernel
theorem dX7_as_10 : decode cX7_as 10 = .ok (.ifCond .ne 5, 3) := by decide +kernel
theorem dX7_as_13 : decode cX7_as 13 = .ok (.iconst (-1), 1) := by decide +kernel
theorem dX7_as_14 : decode cX7_as 14 = .ok (.ireturn, 1) := by decide +kernel
theorem dX7_as_15 : decode cX7_as 15 = .ok (.iload_n 2, 1) := by decide +kernel
theorem dX7_as_16 : decode cX7_as 16 = .ok (.iconst 0, 1) := by decide +kernel
theorem dX7_as_17 : decode cX7_as 17 = .ok (.iconst 2, 1) := by decide +kernel
theorem dX7_as_18 : decode cX7_as 18 = .ok (.invokestatic 67, 3) := by decide +kernel
theorem dX7_as_21 : decode cX7_as 21 = .ok (.ifCond .ne 6, 3) := by decide +kernel
theorem dX7_as_24 : decode cX7_as 24 = .ok (.bipush (-2), 2) := by decide +kernel
theorem dX7_as_26 : decode cX7_as 26 = .ok (.ireturn, 1) := by decide +kernel
theorem dX7_as_27 : decode cX7_as 27 = .ok (.aload_n 0, 1) := by decide +kernel
theorem dX7_as_28 : decode cX7_as 28 = .ok (.getfield 25, 3) := by decide +kernel
theorem dX7_as_31 : decode cX7_as 31 = .ok (.iload_n 1, 1) := by decide +kernel
theorem dX7_as_32 : decode cX7_as 32 = .ok (.iaload, 1) := by decide +kernel
theorem dX7_as_33 : decode cX7_as 33 = .ok (.iload_n 2, 1) := by decide +kernel
theorem dX7_as_34 : decode cX7_as 34 = .ok (.if_icmp .lt 7, 3) := by decide +kernel
theorem dX7_as_37 : decode cX7_as 37 = .ok (.iconst 1, 1) := by decide +kernel
theorem dX7_as_38 : decode cX7_as 38 = .ok (.goto 8, 3) := by decide +kernel
theorem dX7_as_41 : decode cX7_as 41 = .ok (.aload_n 0, 1) := by decide +kernel
theorem dX7_as_42 : decode cX7_as 42 = .ok (.iconst 2, 1) := by decide +kernel
theorem dX7_as_43 : decode cX7_as 43 = .ok (.invokevirtual 91, 3) := by decide +kernel
theorem dX7_as_46 : decode cX7_as 46 = .ok (.ireturn, 1) := by decide +kernel
theorem dX7_trace_0 : decode cX7_trace 0 = .ok (.aload_n 0, 1) := by decide +kernel
theorem dX7_trace_1 : decode cX7_trace 1 = .ok (.getfield 206, 3) := by decide +kernel
theorem dX7_trace_4 : decode cX7_trace 4 = .ok (.ireturn, 1) := by decide +kernel
theorem dX7_fault_0 : decode cX7_fault 0 = .ok (.aload_n 0, 1) := by decide +kernel
theorem dX7_fault_1 : decode cX7_fault 1 = .ok (.getfield 61, 3) := by decide +kernel
theorem dX7_fault_4 : decode cX7_fault 4 = .ok (.ireturn, 1) := by decide +kernel
theorem dX7_many_0 : decode cX7_many 0 = .ok (.iload_n 1, 1) := by decide +kernel
theorem dX7_many_1 : decode cX7_many 1 = .ok (.tableswitch 60 0 4 #[35, 40, 45, 50, 55], 35) := by decide +kernel
theorem dX7_many_36 : decode cX7_many 36 = .ok (.aload_n 0, 1) := by decide +kernel
theorem dX7_many_37 : decode cX7_many 37 = .ok (.getfield 71, 3) := by decide +kernel
theorem dX7_many_40 : decode cX7_many 40 = .ok (.ireturn, 1) := by decide +kernel
theorem dX7_many_41 : decode cX7_many 41 = .ok (.aload_n 0, 1) := by decide +kernel
theorem dX7_many_42 : decode cX7_many 42 = .ok (.getfield 74, 3) := by decide +kernel
theorem dX7_many_45 : decode cX7_many 45 = .ok (.ireturn, 1) := by decide +kernel
theorem dX7_many_46 : decode cX7_many 46 = .ok (.aload_n 0, 1) := by decide +kernel
theorem dX7_many_47 : decode cX7_many 47 = .ok (.invokevirtual 143, 3) := by decide +kernel
theorem dX7_many_50 : decode cX7_many 50 = .ok (.ireturn, 1) := by decide +kernel
theorem dX7_many_51 : decode cX7_many 51 = .ok (.aload_n 0, 1) := by decide +kernel
theorem dX7_many_52 : decode cX7_many 52 = .ok (.getfield 107, 3) := by decide +kernel
theorem dX7_many_55 : decode cX7_many 55 = .ok (.ireturn, 1) := by decide +kernel
theorem dX7_many_56 : decode cX7_many 56 = .ok (.aload_n 0, 1) := by decide +kernel
theorem dX7_many_57 : decode cX7_many 57 = .ok (.getfield 110, 3) := by decide +kernel
theorem dX7_many_60 : decode cX7_many 60 = .ok (.ireturn, 1) := by decide +kernel
theorem dX7_many_61 : decode cX7_many 61 = .ok (.bipush (-2), 2) := by decide +kernel
theorem dX7_many_63 : decode cX7_many 63 = .ok (.ireturn, 1) := by decide +kernel
theorem dJ9_floorMod_7cf53_0 : decode cJ9_floorMod_7cf53 0 = .ok (.iload_n 0, 1) := by decide +kernel
theorem dJ9_floorMod_7cf53_1 : decode cJ9_floorMod_7cf53 1 = .ok (.iload_n 1, 1) := by decide +kernel
theorem dJ9_floorMod_7cf53_2 : decode cJ9_floorMod_7cf53 2 = .ok (.irem, 1) := by decide +kernel
theorem dJ9_floorMod_7cf53_3 : decode cJ9_floorMod_7cf53 3 = .ok (.istore_n 2, 1) := by decide +kernel
theorem dJ9_floorMod_7cf53_4 : decode cJ9_floorMod_7cf53 4 = .ok (.iload_n 0, 1) := by decide +kernel
theorem dJ9_floorMod_7cf53_5 : decode cJ9_floorMod_7cf53 5 = .ok (.iload_n 1, 1) := by decide +kernel
theorem dJ9_floorMod_7cf53_6 : decode cJ9_floorMod_7cf53 6 = .ok (.ixor, 1) := by decide +kernel
theorem dJ9_floorMod_7cf53_7 : decode cJ9_floorMod_7cf53 7 = .ok (.ifCond .ge 11, 3) := by decide +kernel
theorem dJ9_floorMod_7cf53_10 : decode cJ9_floorMod_7cf53 10 = .ok (.iload_n 2, 1) := by decide +kernel
theorem dJ9_floorMod_7cf53_11 : decode cJ9_floorMod_7cf53 11 = .ok (.ifCond .eq 7, 3) := by decide +kernel
theorem dJ9_floorMod_7cf53_14 : decode cJ9_floorMod_7cf53 14 = .ok (.iload_n 2, 1) := by decide +kernel
theorem dJ9_floorMod_7cf53_15 : decode cJ9_floorMod_7cf53 15 = .ok (.iload_n 1, 1) := by decide +kernel
theorem dJ9_floorMod_7cf53_16 : decode cJ9_floorMod_7cf53 16 = .ok (.iadd, 1) := by decide +kernel
theorem dJ9_floorMod_7cf53_17 : decode cJ9_floorMod_7cf53 17 = .ok (.ireturn, 1) := by decide +kernel
theorem dJ9_floorMod_7cf53_18 : decode cJ9_floorMod_7cf53 18 = .ok (.iload_n 2, 1) := by decide +kernel
theorem dJ9_floorMod_7cf53_19 : decode cJ9_floorMod_7cf53 19 = .ok (.ireturn, 1) := by decide +kernel
theorem dJ9_max_7cf53_0 : decode cJ9_max_7cf53 0 = .ok (.iload_n 0, 1) := by decide +kernel
theorem dJ9_max_7cf53_1 : decode cJ9_max_7cf53 1 = .ok (.iload_n 1, 1) := by decide +kernel
theorem dJ9_max_7cf53_2 : decode cJ9_max_7cf53 2 = .ok (.if_icmp .lt 7, 3) := by decide +kernel
theorem dJ9_max_7cf53_5 : decode cJ9_max_7cf53 5 = .ok (.iload_n 0, 1) := by decide +kernel
theorem dJ9_max_7cf53_6 : decode cJ9_max_7cf53 6 = .ok (.goto 4, 3) := by decide +kernel
theorem dJ9_max_7cf53_9 : decode cJ9_max_7cf53 9 = .ok (.iload_n 1, 1) := by decide +kernel
theorem dJ9_max_7cf53_10 : decode cJ9_max_7cf53 10 = .ok (.ireturn, 1) := by decide +kernel
theorem dJ9_min_7cf53_0 : decode cJ9_min_7cf53 0 = .ok (.iload_n 0, 1) := by decide +kernel
theorem dJ9_min_7cf53_1 : decode cJ9_min_7cf53 1 = .ok (.iload_n 1, 1) := by decide +kernel
theorem dJ9_min_7cf53_2 : decode cJ9_min_7cf53 2 = .ok (.if_icmp .gt 7, 3) := by decide +kernel
theorem dJ9_min_7cf53_5 : decode cJ9_min_7cf53 5 = .ok (.iload_n 0, 1) := by decide +kernel
theorem dJ9_min_7cf53_6 : decode cJ9_min_7cf53 6 = .ok (.goto 4, 3) := by decide +kernel
theorem dJ9_min_7cf53_9 : decode cJ9_min_7cf53 9 = .ok (.iload_n 1, 1) := by decide +kernel
theorem dJ9_min_7cf53_10 : decode cJ9_min_7cf53 10 = .ok (.ireturn, 1) := by decide +kernel
theorem dL_law_0 : decode cL_law 0 = .ok (.new 7, 3) := by decide +kernel
theorem dL_law_3 : decode cL_law 3 = .ok (.dup, 1) := by decide +kernel
theorem dL_law_4 : decode cL_law 4 = .ok (.invokespecial 9, 3) := by decide +kernel
theorem dL_law_7 : decode cL_law 7 = .ok (.astore_n 1, 1) := by decide +kernel
theorem dL_law_8 : decode cL_law 8 = .ok (.new 10, 3) := by decide +kernel
theorem dL_law_11 : decode cL_law 11 = .ok (.dup, 1) := by decide +kernel
theorem dL_law_12 : decode cL_law 12 = .ok (.invokespecial 12, 3) := by decide +kernel
theorem dL_law_15 : decode cL_law 15 = .ok (.astore_n 2, 1) := by decide +kernel
theorem dL_law_16 : decode cL_law 16 = .ok (.iconst 0, 1) := by decide +kernel
theorem dL_law_17 : decode cL_law 17 = .ok (.istore_n 3, 1) := by decide +kernel
theorem dL_law_18 : decode cL_law 18 = .ok (.iload_n 3, 1) := by decide +kernel
theorem dL_law_19 : decode cL_law 19 = .ok (.aload_n 0, 1) := by decide +kernel
theorem dL_law_20 : decode cL_law 20 = .ok (.arraylength, 1) := by decide +kernel
theorem dL_law_21 : decode cL_law 21 = .ok (.bipush 6, 2) := by decide +kernel
theorem dL_law_23 : decode cL_law 23 = .ok (.isub, 1) := by decide +kernel
theorem dL_law_24 : decode cL_law 24 = .ok (.if_icmp .gt 1092, 3) := by decide +kernel
theorem dL_law_27 : decode cL_law 27 = .ok (.aload_n 0, 1) := by decide +kernel
theorem dL_law_28 : decode cL_law 28 = .ok (.iload_n 3, 1) := by decide +kernel
theorem dL_law_29 : decode cL_law 29 = .ok (.iaload, 1) := by decide +kernel
theorem dL_law_30 : decode cL_law 30 = .ok (.bipush 31, 2) := by decide +kernel
theorem dL_law_32 : decode cL_law 32 = .ok (.iand, 1) := by decide +kernel
theorem dL_law_33 : decode cL_law 33 = .ok (.tableswitch 1077 0 29 #[135, 188, 221, 254, 287, 320, 353, 386, 449, 502, 515, 538, 551, 564, 607, 630, 653, 676, 699, 733, 776, 799, 842, 886, 949, 972, 995, 1028, 1041, 1054], 135) := by decide +kernel
theorem dL_law_168 : decode cL_law 168 = .ok (.aload_n 1, 1) := by decide +kernel
theorem dL_law_169 : decode cL_law 169 = .ok (.aload_n 0, 1) := by decide +kernel
theorem dL_law_170 : decode cL_law 170 = .ok (.iload_n 3, 1) := by decide +kernel
theorem dL_law_171 : decode cL_law 171 = .ok (.iconst 1, 1) := by decide +kernel
theorem dL_law_172 : decode cL_law 172 = .ok (.iadd, 1) := by decide +kernel
theorem dL_law_173 : decode cL_law 173 = .ok (.iaload, 1) := by decide +kernel
theorem dL_law_174 : decode cL_law 174 = .ok (.aload_n 0, 1) := by decide +kernel
theorem dL_law_175 : decode cL_law 175 = .ok (.iload_n 3, 1) := by decide +kernel
theorem dL_law_176 : decode cL_law 176 = .ok (.iconst 2, 1) := by decide +kernel
theorem dL_law_177 : decode cL_law 177 = .ok (.iadd, 1) := by decide +kernel
theorem dL_law_178 : decode cL_law 178 = .ok (.iaload, 1) := by decide +kernel
theorem dL_law_179 : decode cL_law 179 = .ok (.aload_n 0, 1) := by decide +kernel
theorem dL_law_180 : decode cL_law 180 = .ok (.iload_n 3, 1) := by decide +kernel
theorem dL_law_181 : decode cL_law 181 = .ok (.iconst 3, 1) := by decide +kernel
theorem dL_law_182 : decode cL_law 182 = .ok (.iadd, 1) := by decide +kernel
theorem dL_law_183 : decode cL_law 183 = .ok (.iaload, 1) := by decide +kernel
theorem dL_law_184 : decode cL_law 184 = .ok (.aload_n 0, 1) := by decide +kernel
theorem dL_law_185 : decode cL_law 185 = .ok (.iload_n 3, 1) := by decide +kernel
theorem dL_law_186 : decode cL_law 186 = .ok (.iconst 4, 1) := by decide +kernel
theorem dL_law_187 : decode cL_law 187 = .ok (.iadd, 1) := by decide +kernel
theorem dL_law_188 : decode cL_law 188 = .ok (.iaload, 1) := by decide +kernel
theorem dL_law_189 : decode cL_law 189 = .ok (.invokevirtual 13, 3) := by decide +kernel
theorem dL_law_192 : decode cL_law 192 = .ok (.aload_n 2, 1) := by decide +kernel
theorem dL_law_193 : decode cL_law 193 = .ok (.aload_n 0, 1) := by decide +kernel
theorem dL_law_194 : decode cL_law 194 = .ok (.iload_n 3, 1) := by decide +kernel
theorem dL_law_195 : decode cL_law 195 = .ok (.iconst 1, 1) := by decide +kernel
theorem dL_law_196 : decode cL_law 196 = .ok (.iadd, 1) := by decide +kernel
theorem dL_law_197 : decode cL_law 197 = .ok (.iaload, 1) := by decide +kernel
theorem dL_law_198 : decode cL_law 198 = .ok (.aload_n 0, 1) := by decide +kernel
theorem dL_law_199 : decode cL_law 199 = .ok (.iload_n 3, 1) := by decide +kernel
theorem dL_law_200 : decode cL_law 200 = .ok (.iconst 2, 1) := by decide +kernel
theorem dL_law_201 : decode cL_law 201 = .ok (.iadd, 1) := by decide +kernel
theorem dL_law_202 : decode cL_law 202 = .ok (.iaload, 1) := by decide +kernel
theorem dL_law_203 : decode cL_law 203 = .ok (.aload_n 0, 1) := by decide +kernel
theorem dL_law_204 : decode cL_law 204 = .ok (.iload_n 3, 1) := by decide +kernel
theorem dL_law_205 : decode cL_law 205 = .ok (.iconst 3, 1) := by decide +kernel
theorem dL_law_206 : decode cL_law 206 = .ok (.iadd, 1) := by decide +kernel
theorem dL_law_207 : decode cL_law 207 = .ok (.iaload, 1) := by decide +kernel
theorem dL_law_208 : decode cL_law 208 = .ok (.aload_n 0, 1) := by decide +kernel
theorem dL_law_209 : decode cL_law 209 = .ok (.iload_n 3, 1) := by decide +kernel
theorem dL_law_210 : decode cL_law 210 = .ok (.iconst 4, 1) := by decide +kernel
theorem dL_law_211 : decode cL_law 211 = .ok (.iadd, 1) := by decide +kernel
theorem dL_law_212 : decode cL_law 212 = .ok (.iaload, 1) := by decide +kernel
theorem dL_law_213 : decode cL_law 213 = .ok (.invokevirtual 17, 3) := by decide +kernel
theorem dL_law_216 : decode cL_law 216 = .ok (.if_icmp .eq 894, 3) := by decide +kernel
theorem dL_law_219 : decode cL_law 219 = .ok (.iconst 0, 1) := by decide +kernel
theorem dL_law_220 : decode cL_law 220 = .ok (.ireturn, 1) := by decide +kernel
theorem dL_law_221 : decode cL_law 221 = .ok (.aload_n 1, 1) := by decide +kernel
theorem dL_law_222 : decode cL_law 222 = .ok (.aload_n 0, 1) := by decide +kernel
theorem dL_law_223 : decode cL_law 223 = .ok (.iload_n 3, 1) := by decide +kernel
theorem dL_law_224 : decode cL_law 224 = .ok (.iconst 1, 1) := by decide +kernel
theorem dL_law_225 : decode cL_law 225 = .ok (.iadd, 1) := by decide +kernel
theorem dL_law_226 : decode cL_law 226 = .ok (.iaload, 1) := by decide +kernel
theorem dL_law_227 : decode cL_law 227 = .ok (.aload_n 0, 1) := by decide +kernel
theorem dL_law_228 : decode cL_law 228 = .ok (.iload_n 3, 1) := by decide +kernel
theorem dL_law_229 : decode cL_law 229 = .ok (.iconst 2, 1) := by decide +kernel
theorem dL_law_230 : decode cL_law 230 = .ok (.iadd, 1) := by decide +kernel
theorem dL_law_231 : decode cL_law 231 = .ok (.iaload, 1) := by decide +kernel
theorem dL_law_232 : decode cL_law 232 = .ok (.invokevirtual 18, 3) := by decide +kernel
theorem dL_law_235 : decode cL_law 235 = .ok (.aload_n 2, 1) := by decide +kernel
theorem dL_law_236 : decode cL_law 236 = .ok (.aload_n 0, 1) := by decide +kernel
theorem dL_law_237 : decode cL_law 237 = .ok (.iload_n 3, 1) := by decide +kernel
theorem dL_law_238 : decode cL_law 238 = .ok (.iconst 1, 1) := by decide +kernel
theorem dL_law_239 : decode cL_law 239 = .ok (.iadd, 1) := by decide +kernel
theorem dL_law_240 : decode cL_law 240 = .ok (.iaload, 1) := by decide +kernel
theorem dL_law_241 : decode cL_law 241 = .ok (.aload_n 0, 1) := by decide +kernel
theorem dL_law_242 : decode cL_law 242 = .ok (.iload_n 3, 1) := by decide +kernel
theorem dL_law_243 : decode cL_law 243 = .ok (.iconst 2, 1) := by decide +kernel
theorem dL_law_244 : decode cL_law 244 = .ok (.iadd, 1) := by decide +kernel
theorem dL_law_245 : decode cL_law 245 = .ok (.iaload, 1) := by decide +kernel
theorem dL_law_246 : decode cL_law 246 = .ok (.invokevirtual 22, 3) := by decide +kernel
theorem dL_law_249 : decode cL_law 249 = .ok (.if_icmp .eq 861, 3) := by decide +kernel
theorem dL_law_252 : decode cL_law 252 = .ok (.iconst 0, 1) := by decide +kernel
theorem dL_law_253 : decode cL_law 253 = .ok (.ireturn, 1) := by decide +kernel
theorem dL_law_254 : decode cL_law 254 = .ok (.aload_n 1, 1) := by decide +kernel
theorem dL_law_255 : decode cL_law 255 = .ok (.aload_n 0, 1) := by decide +kernel
theorem dL_law_256 : decode cL_law 256 = .ok (.iload_n 3, 1) := by decide +kernel
theorem dL_law_257 : decode cL_law 257 = .ok (.iconst 1, 1) := by decide +kernel
theorem dL_law_258 : decode cL_law 258 = .ok (.iadd, 1) := by decide +kernel
theorem dL_law_259 : decode cL_law 259 = .ok (.iaload, 1) := by decide +kernel
theorem dL_law_260 : decode cL_law 260 = .ok (.aload_n 0, 1) := by decide +kernel
theorem dL_law_261 : decode cL_law 261 = .ok (.iload_n 3, 1) := by decide +kernel
theorem dL_law_262 : decode cL_law 262 = .ok (.iconst 2, 1) := by decide +kernel
theorem dL_law_263 : decode cL_law 263 = .ok (.iadd, 1) := by decide +kernel
theorem dL_law_264 : decode cL_law 264 = .ok (.iaload, 1) := by decide +kernel
theorem dL_law_265 : decode cL_law 265 = .ok (.invokevirtual 23, 3) := by decide +kernel
theorem dL_law_268 : decode cL_law 268 = .ok (.aload_n 2, 1) := by decide +kernel
theorem dL_law_269 : decode cL_law 269 = .ok (.aload_n 0, 1) := by decide +kernel
theorem dL_law_270 : decode cL_law 270 = .ok (.iload_n 3, 1) := by decide +kernel
theorem dL_law_271 : decode cL_law 271 = .ok (.iconst 1, 1) := by decide +kernel
theorem dL_law_272 : decode cL_law 272 = .ok (.iadd, 1) := by decide +kernel
theorem dL_law_273 : decode cL_law 273 = .ok (.iaload, 1) := by decide +kernel
theorem dL_law_274 : decode cL_law 274 = .ok (.aload_n 0, 1) := by decide +kernel
theorem dL_law_275 : decode cL_law 275 = .ok (.iload_n 3, 1) := by decide +kernel
theorem dL_law_276 : decode cL_law 276 = .ok (.iconst 2, 1) := by decide +kernel
theorem dL_law_277 : decode cL_law 277 = .ok (.iadd, 1) := by decide +kernel
theorem dL_law_278 : decode cL_law 278 = .ok (.iaload, 1) := by decide +kernel
theorem dL_law_279 : decode cL_law 279 = .ok (.invokevirtual 26, 3) := by decide +kernel
theorem dL_law_282 : decode cL_law 282 = .ok (.if_icmp .eq 828, 3) := by decide +kernel
theorem dL_law_285 : decode cL_law 285 = .ok (.iconst 0, 1) := by decide +kernel
theorem dL_law_286 : decode cL_law 286 = .ok (.ireturn, 1) := by decide +kernel
theorem dL_law_287 : decode cL_law 287 = .ok (.aload_n 1, 1) := by decide +kernel
theorem dL_law_288 : decode cL_law 288 = .ok (.aload_n 0, 1) := by decide +kernel
theorem dL_law_289 : decode cL_law 289 = .ok (.iload_n 3, 1) := by decide +kernel
theorem dL_law_290 : decode cL_law 290 = .ok (.iconst 1, 1) := by decide +kernel
theorem dL_law_291 : decode cL_law 291 = .ok (.iadd, 1) := by decide +kernel
theorem dL_law_292 : decode cL_law 292 = .ok (.iaload, 1) := by decide +kernel
theorem dL_law_293 : decode cL_law 293 = .ok (.aload_n 0, 1) := by decide +kernel
theorem dL_law_294 : decode cL_law 294 = .ok (.iload_n 3, 1) := by decide +kernel
theorem dL_law_295 : decode cL_law 295 = .ok (.iconst 2, 1) := by decide +kernel
theorem dL_law_296 : decode cL_law 296 = .ok (.iadd, 1) := by decide +kernel
theorem dL_law_297 : decode cL_law 297 = .ok (.iaload, 1) := by decide +kernel
theorem dL_law_298 : decode cL_law 298 = .ok (.invokevirtual 27, 3) := by decide +kernel
theorem dL_law_301 : decode cL_law 301 = .ok (.aload_n 2, 1) := by decide +kernel
theorem dL_law_302 : decode cL_law 302 = .ok (.aload_n 0, 1) := by decide +kernel
theorem dL_law_303 : decode cL_law 303 = .ok (.iload_n 3, 1) := by decide +kernel
theorem dL_law_304 : decode cL_law 304 = .ok (.iconst 1, 1) := by decide +kernel
theorem dL_law_305 : decode cL_law 305 = .ok (.iadd, 1) := by decide +kernel
theorem dL_law_306 : decode cL_law 306 = .ok (.iaload, 1) := by decide +kernel
theorem dL_law_307 : decode cL_law 307 = .ok (.aload_n 0, 1) := by decide +kernel
theorem dL_law_308 : decode cL_law 308 = .ok (.iload_n 3, 1) := by decide +kernel
theorem dL_law_309 : decode cL_law 309 = .ok (.iconst 2, 1) := by decide +kernel
theorem dL_law_310 : decode cL_law 310 = .ok (.iadd, 1) := by decide +kernel
theorem dL_law_311 : decode cL_law 311 = .ok (.iaload, 1) := by decide +kernel
theorem dL_law_312 : decode cL_law 312 = .ok (.invokevirtual 30, 3) := by decide +kernel
theorem dL_law_315 : decode cL_law 315 = .ok (.if_icmp .eq 795, 3) := by decide +kernel
theorem dL_law_318 : decode cL_law 318 = .ok (.iconst 0, 1) := by decide +kernel
theorem dL_law_319 : decode cL_law 319 = .ok (.ireturn, 1) := by decide +kernel
theorem dL_law_320 : decode cL_law 320 = .ok (.aload_n 1, 1) := by decide +kernel
theorem dL_law_321 : decode cL_law 321 = .ok (.aload_n 0, 1) := by decide +kernel
theorem dL_law_322 : decode cL_law 322 = .ok (.iload_n 3, 1) := by decide +kernel
theorem dL_law_323 : decode cL_law 323 = .ok (.iconst 1, 1) := by decide +kernel
theorem dL_law_324 : decode cL_law 324 = .ok (.iadd, 1) := by decide +kernel
theorem dL_law_325 : decode cL_law 325 = .ok (.iaload, 1) := by decide +kernel
theorem dL_law_326 : decode cL_law 326 = .ok (.aload_n 0, 1) := by decide +kernel
theorem dL_law_327 : decode cL_law 327 = .ok (.iload_n 3, 1) := by decide +kernel
theorem dL_law_328 : decode cL_law 328 = .ok (.iconst 2, 1) := by decide +kernel
theorem dL_law_329 : decode cL_law 329 = .ok (.iadd, 1) := by decide +kernel
theorem dL_law_330 : decode cL_law 330 = .ok (.iaload, 1) := by decide +kernel
theorem dL_law_331 : decode cL_law 331 = .ok (.invokevirtual 31, 3) := by decide +kernel
theorem dL_law_334 : decode cL_law 334 = .ok (.aload_n 2, 1) := by decide +kernel
theorem dL_law_335 : decode cL_law 335 = .ok (.aload_n 0, 1) := by decide +kernel
theorem dL_law_336 : decode cL_law 336 = .ok (.iload_n 3, 1) := by decide +kernel
theorem dL_law_337 : decode cL_law 337 = .ok (.iconst 1, 1) := by decide +kernel
theorem dL_law_338 : decode cL_law 338 = .ok (.iadd, 1) := by decide +kernel
theorem dL_law_339 : decode cL_law 339 = .ok (.iaload, 1) := by decide +kernel
theorem dL_law_340 : decode cL_law 340 = .ok (.aload_n 0, 1) := by decide +kernel
theorem dL_law_341 : decode cL_law 341 = .ok (.iload_n 3, 1) := by decide +kernel
theorem dL_law_342 : decode cL_law 342 = .ok (.iconst 2, 1) := by decide +kernel
theorem dL_law_343 : decode cL_law 343 = .ok (.iadd, 1) := by decide +kernel
theorem dL_law_344 : decode cL_law 344 = .ok (.iaload, 1) := by decide +kernel
theorem dL_law_345 : decode cL_law 345 = .ok (.invokevirtual 34, 3) := by decide +kernel
theorem dL_law_348 : decode cL_law 348 = .ok (.if_icmp .eq 762, 3) := by decide +kernel
theorem dL_law_351 : decode cL_law 351 = .ok (.iconst 0, 1) := by decide +kernel
theorem dL_law_352 : decode cL_law 352 = .ok (.ireturn, 1) := by decide +kernel
theorem dL_law_353 : decode cL_law 353 = .ok (.aload_n 1, 1) := by decide +kernel
theorem dL_law_354 : decode cL_law 354 = .ok (.aload_n 0, 1) := by decide +kernel
theorem dL_law_355 : decode cL_law 355 = .ok (.iload_n 3, 1) := by decide +kernel
theorem dL_law_356 : decode cL_law 356 = .ok (.iconst 1, 1) := by decide +kernel
theorem dL_law_357 : decode cL_law 357 = .ok (.iadd, 1) := by decide +kernel
theorem dL_law_358 : decode cL_law 358 = .ok (.iaload, 1) := by decide +kernel
theorem dL_law_359 : decode cL_law 359 = .ok (.aload_n 0, 1) := by decide +kernel
theorem dL_law_360 : decode cL_law 360 = .ok (.iload_n 3, 1) := by decide +kernel
theorem dL_law_361 : decode cL_law 361 = .ok (.iconst 2, 1) := by decide +kernel
theorem dL_law_362 : decode cL_law 362 = .ok (.iadd, 1) := by decide +kernel
theorem dL_law_363 : decode cL_law 363 = .ok (.iaload, 1) := by decide +kernel
theorem dL_law_364 : decode cL_law 364 = .ok (.invokevirtual 35, 3) := by decide +kernel
theorem dL_law_367 : decode cL_law 367 = .ok (.aload_n 2, 1) := by decide +kernel
theorem dL_law_368 : decode cL_law 368 = .ok (.aload_n 0, 1) := by decide +kernel
theorem dL_law_369 : decode cL_law 369 = .ok (.iload_n 3, 1) := by decide +kernel
theorem dL_law_370 : decode cL_law 370 = .ok (.iconst 1, 1) := by decide +kernel
theorem dL_law_371 : decode cL_law 371 = .ok (.iadd, 1) := by decide +kernel
theorem dL_law_372 : decode cL_law 372 = .ok (.iaload, 1) := by decide +kernel
theorem dL_law_373 : decode cL_law 373 = .ok (.aload_n 0, 1) := by decide +kernel
theorem dL_law_374 : decode cL_law 374 = .ok (.iload_n 3, 1) := by decide +kernel
theorem dL_law_375 : decode cL_law 375 = .ok (.iconst 2, 1) := by decide +kernel
theorem dL_law_376 : decode cL_law 376 = .ok (.iadd, 1) := by decide +kernel
theorem dL_law_377 : decode cL_law 377 = .ok (.iaload, 1) := by decide +kernel
theorem dL_law_378 : decode cL_law 378 = .ok (.invokevirtual 38, 3) := by decide +kernel
theorem dL_law_381 : decode cL_law 381 = .ok (.if_icmp .eq 729, 3) := by decide +kernel
theorem dL_law_384 : decode cL_law 384 = .ok (.iconst 0, 1) := by decide +kernel
theorem dL_law_385 : decode cL_law 385 = .ok (.ireturn, 1) := by decide +kernel
theorem dL_law_386 : decode cL_law 386 = .ok (.aload_n 1, 1) := by decide +kernel
theorem dL_law_387 : decode cL_law 387 = .ok (.aload_n 0, 1) := by decide +kernel
theorem dL_law_388 : decode cL_law 388 = .ok (.iload_n 3, 1) := by decide +kernel
theorem dL_law_389 : decode cL_law 389 = .ok (.iconst 1, 1) := by decide +kernel
theorem dL_law_390 : decode cL_law 390 = .ok (.iadd, 1) := by decide +kernel
theorem dL_law_391 : decode cL_law 391 = .ok (.iaload, 1) := by decide +kernel
theorem dL_law_392 : decode cL_law 392 = .ok (.aload_n 0, 1) := by decide +kernel
theorem dL_law_393 : decode cL_law 393 = .ok (.iload_n 3, 1) := by decide +kernel
theorem dL_law_394 : decode cL_law 394 = .ok (.iconst 2, 1) := by decide +kernel
theorem dL_law_395 : decode cL_law 395 = .ok (.iadd, 1) := by decide +kernel
theorem dL_law_396 : decode cL_law 396 = .ok (.iaload, 1) := by decide +kernel
theorem dL_law_397 : decode cL_law 397 = .ok (.invokevirtual 39, 3) := by decide +kernel
theorem dL_law_400 : decode cL_law 400 = .ok (.aload_n 2, 1) := by decide +kernel
theorem dL_law_401 : decode cL_law 401 = .ok (.aload_n 0, 1) := by decide +kernel
theorem dL_law_402 : decode cL_law 402 = .ok (.iload_n 3, 1) := by decide +kernel
theorem dL_law_403 : decode cL_law 403 = .ok (.iconst 1, 1) := by decide +kernel
theorem dL_law_404 : decode cL_law 404 = .ok (.iadd, 1) := by decide +kernel
theorem dL_law_405 : decode cL_law 405 = .ok (.iaload, 1) := by decide +kernel
theorem dL_law_406 : decode cL_law 406 = .ok (.aload_n 0, 1) := by decide +kernel
theorem dL_law_407 : decode cL_law 407 = .ok (.iload_n 3, 1) := by decide +kernel
theorem dL_law_408 : decode cL_law 408 = .ok (.iconst 2, 1) := by decide +kernel
theorem dL_law_409 : decode cL_law 409 = .ok (.iadd, 1) := by decide +kernel
theorem dL_law_410 : decode cL_law 410 = .ok (.iaload, 1) := by decide +kernel
theorem dL_law_411 : decode cL_law 411 = .ok (.invokevirtual 42, 3) := by decide +kernel
theorem dL_law_414 : decode cL_law 414 = .ok (.if_icmp .eq 696, 3) := by decide +kernel
theorem dL_law_417 : decode cL_law 417 = .ok (.iconst 0, 1) := by decide +kernel
theorem dL_law_418 : decode cL_law 418 = .ok (.ireturn, 1) := by decide +kernel
theorem dL_law_419 : decode cL_law 419 = .ok (.aload_n 1, 1) := by decide +kernel
theorem dL_law_420 : decode cL_law 420 = .ok (.aload_n 0, 1) := by decide +kernel
theorem dL_law_421 : decode cL_law 421 = .ok (.iload_n 3, 1) := by decide +kernel
theorem dL_law_422 : decode cL_law 422 = .ok (.iconst 1, 1) := by decide +kernel
theorem dL_law_423 : decode cL_law 423 = .ok (.iadd, 1) := by decide +kernel
theorem dL_law_424 : decode cL_law 424 = .ok (.iaload, 1) := by decide +kernel
theorem dL_law_425 : decode cL_law 425 = .ok (.aload_n 0, 1) := by decide +kernel
theorem dL_law_426 : decode cL_law 426 = .ok (.iload_n 3, 1) := by decide +kernel
theorem dL_law_427 : decode cL_law 427 = .ok (.iconst 2, 1) := by decide +kernel
theorem dL_law_428 : decode cL_law 428 = .ok (.iadd, 1) := by decide +kernel
theorem dL_law_429 : decode cL_law 429 = .ok (.iaload, 1) := by decide +kernel
theorem dL_law_430 : decode cL_law 430 = .ok (.aload_n 0, 1) := by decide +kernel
theorem dL_law_431 : decode cL_law 431 = .ok (.iload_n 3, 1) := by decide +kernel
theorem dL_law_432 : decode cL_law 432 = .ok (.iconst 3, 1) := by decide +kernel
theorem dL_law_433 : decode cL_law 433 = .ok (.iadd, 1) := by decide +kernel
theorem dL_law_434 : decode cL_law 434 = .ok (.iaload, 1) := by decide +kernel
theorem dL_law_435 : decode cL_law 435 = .ok (.aload_n 0, 1) := by decide +kernel
theorem dL_law_436 : decode cL_law 436 = .ok (.iload_n 3, 1) := by decide +kernel
theorem dL_law_437 : decode cL_law 437 = .ok (.iconst 4, 1) := by decide +kernel
theorem dL_law_438 : decode cL_law 438 = .ok (.iadd, 1) := by decide +kernel
theorem dL_law_439 : decode cL_law 439 = .ok (.iaload, 1) := by decide +kernel
theorem dL_law_440 : decode cL_law 440 = .ok (.aload_n 0, 1) := by decide +kernel
theorem dL_law_441 : decode cL_law 441 = .ok (.iload_n 3, 1) := by decide +kernel
theorem dL_law_442 : decode cL_law 442 = .ok (.iconst 5, 1) := by decide +kernel
theorem dL_law_443 : decode cL_law 443 = .ok (.iadd, 1) := by decide +kernel
theorem dL_law_444 : decode cL_law 444 = .ok (.iaload, 1) := by decide +kernel
theorem dL_law_445 : decode cL_law 445 = .ok (.invokevirtual 43, 3) := by decide +kernel
theorem dL_law_448 : decode cL_law 448 = .ok (.aload_n 2, 1) := by decide +kernel
theorem dL_law_449 : decode cL_law 449 = .ok (.aload_n 0, 1) := by decide +kernel
theorem dL_law_450 : decode cL_law 450 = .ok (.iload_n 3, 1) := by decide +kernel
theorem dL_law_451 : decode cL_law 451 = .ok (.iconst 1, 1) := by decide +kernel
theorem dL_law_452 : decode cL_law 452 = .ok (.iadd, 1) := by decide +kernel
theorem dL_law_453 : decode cL_law 453 = .ok (.iaload, 1) := by decide +kernel
theorem dL_law_454 : decode cL_law 454 = .ok (.aload_n 0, 1) := by decide +kernel
theorem dL_law_455 : decode cL_law 455 = .ok (.iload_n 3, 1) := by decide +kernel
theorem dL_law_456 : decode cL_law 456 = .ok (.iconst 2, 1) := by decide +kernel
theorem dL_law_457 : decode cL_law 457 = .ok (.iadd, 1) := by decide +kernel
theorem dL_law_458 : decode cL_law 458 = .ok (.iaload, 1) := by decide +kernel
theorem dL_law_459 : decode cL_law 459 = .ok (.aload_n 0, 1) := by decide +kernel
theorem dL_law_460 : decode cL_law 460 = .ok (.iload_n 3, 1) := by decide +kernel
theorem dL_law_461 : decode cL_law 461 = .ok (.iconst 3, 1) := by decide +kernel
theorem dL_law_462 : decode cL_law 462 = .ok (.iadd, 1) := by decide +kernel
theorem dL_law_463 : decode cL_law 463 = .ok (.iaload, 1) := by decide +kernel
theorem dL_law_464 : decode cL_law 464 = .ok (.aload_n 0, 1) := by decide +kernel
theorem dL_law_465 : decode cL_law 465 = .ok (.iload_n 3, 1) := by decide +kernel
theorem dL_law_466 : decode cL_law 466 = .ok (.iconst 4, 1) := by decide +kernel
theorem dL_law_467 : decode cL_law 467 = .ok (.iadd, 1) := by decide +kernel
theorem dL_law_468 : decode cL_law 468 = .ok (.iaload, 1) := by decide +kernel
theorem dL_law_469 : decode cL_law 469 = .ok (.aload_n 0, 1) := by decide +kernel
theorem dL_law_470 : decode cL_law 470 = .ok (.iload_n 3, 1) := by decide +kernel
theorem dL_law_471 : decode cL_law 471 = .ok (.iconst 5, 1) := by decide +kernel
theorem dL_law_472 : decode cL_law 472 = .ok (.iadd, 1) := by decide +kernel
theorem dL_law_473 : decode cL_law 473 = .ok (.iaload, 1) := by decide +kernel
theorem dL_law_474 : decode cL_law 474 = .ok (.invokevirtual 47, 3) := by decide +kernel
theorem dL_law_477 : decode cL_law 477 = .ok (.if_icmp .eq 633, 3) := by decide +kernel
theorem dL_law_480 : decode cL_law 480 = .ok (.iconst 0, 1) := by decide +kernel
theorem dL_law_481 : decode cL_law 481 = .ok (.ireturn, 1) := by decide +kernel
theorem dL_law_482 : decode cL_law 482 = .ok (.aload_n 1, 1) := by decide +kernel
theorem dL_law_483 : decode cL_law 483 = .ok (.aload_n 0, 1) := by decide +kernel
theorem dL_law_484 : decode cL_law 484 = .ok (.iload_n 3, 1) := by decide +kernel
theorem dL_law_485 : decode cL_law 485 = .ok (.iconst 1, 1) := by decide +kernel
theorem dL_law_486 : decode cL_law 486 = .ok (.iadd, 1) := by decide +kernel
theorem dL_law_487 : decode cL_law 487 = .ok (.iaload, 1) := by decide +kernel
theorem dL_law_488 : decode cL_law 488 = .ok (.aload_n 0, 1) := by decide +kernel
theorem dL_law_489 : decode cL_law 489 = .ok (.iload_n 3, 1) := by decide +kernel
theorem dL_law_490 : decode cL_law 490 = .ok (.iconst 2, 1) := by decide +kernel
theorem dL_law_491 : decode cL_law 491 = .ok (.iadd, 1) := by decide +kernel
theorem dL_law_492 : decode cL_law 492 = .ok (.iaload, 1) := by decide +kernel
theorem dL_law_493 : decode cL_law 493 = .ok (.aload_n 0, 1) := by decide +kernel
theorem dL_law_494 : decode cL_law 494 = .ok (.iload_n 3, 1) := by decide +kernel
theorem dL_law_495 : decode cL_law 495 = .ok (.iconst 3, 1) := by decide +kernel
theorem dL_law_496 : decode cL_law 496 = .ok (.iadd, 1) := by decide +kernel
theorem dL_law_497 : decode cL_law 497 = .ok (.iaload, 1) := by decide +kernel
theorem dL_law_498 : decode cL_law 498 = .ok (.aload_n 0, 1) := by decide +kernel
theorem dL_law_499 : decode cL_law 499 = .ok (.iload_n 3, 1) := by decide +kernel
theorem dL_law_500 : decode cL_law 500 = .ok (.iconst 4, 1) := by decide +kernel
theorem dL_law_501 : decode cL_law 501 = .ok (.iadd, 1) := by decide +kernel
theorem dL_law_502 : decode cL_law 502 = .ok (.iaload, 1) := by decide +kernel
theorem dL_law_503 : decode cL_law 503 = .ok (.invokevirtual 48, 3) := by decide +kernel
theorem dL_law_506 : decode cL_law 506 = .ok (.aload_n 2, 1) := by decide +kernel
theorem dL_law_507 : decode cL_law 507 = .ok (.aload_n 0, 1) := by decide +kernel
theorem dL_law_508 : decode cL_law 508 = .ok (.iload_n 3, 1) := by decide +kernel
theorem dL_law_509 : decode cL_law 509 = .ok (.iconst 1, 1) := by decide +kernel
theorem dL_law_510 : decode cL_law 510 = .ok (.iadd, 1) := by decide +kernel
theorem dL_law_511 : decode cL_law 511 = .ok (.iaload, 1) := by decide +kernel
theorem dL_law_512 : decode cL_law 512 = .ok (.aload_n 0, 1) := by decide +kernel
theorem dL_law_513 : decode cL_law 513 = .ok (.iload_n 3, 1) := by decide +kernel
theorem dL_law_514 : decode cL_law 514 = .ok (.iconst 2, 1) := by decide +kernel
theorem dL_law_515 : decode cL_law 515 = .ok (.iadd, 1) := by decide +kernel
theorem dL_law_516 : decode cL_law 516 = .ok (.iaload, 1) := by decide +kernel
theorem dL_law_517 : decode cL_law 517 = .ok (.aload_n 0, 1) := by decide +kernel
theorem dL_law_518 : decode cL_law 518 = .ok (.iload_n 3, 1) := by decide +kernel
theorem dL_law_519 : decode cL_law 519 = .ok (.iconst 3, 1) := by decide +kernel
theorem dL_law_520 : decode cL_law 520 = .ok (.iadd, 1) := by decide +kernel
theorem dL_law_521 : decode cL_law 521 = .ok (.iaload, 1) := by decide +kernel
theorem dL_law_522 : decode cL_law 522 = .ok (.aload_n 0, 1) := by decide +kernel
theorem dL_law_523 : decode cL_law 523 = .ok (.iload_n 3, 1) := by decide +kernel
theorem dL_law_524 : decode cL_law 524 = .ok (.iconst 4, 1) := by decide +kernel
theorem dL_law_525 : decode cL_law 525 = .ok (.iadd, 1) := by decide +kernel
theorem dL_law_526 : decode cL_law 526 = .ok (.iaload, 1) := by decide +kernel
theorem dL_law_527 : decode cL_law 527 = .ok (.invokevirtual 51, 3) := by decide +kernel
theorem dL_law_530 : decode cL_law 530 = .ok (.if_icmp .eq 580, 3) := by decide +kernel
theorem dL_law_533 : decode cL_law 533 = .ok (.iconst 0, 1) := by decide +kernel
theorem dL_law_534 : decode cL_law 534 = .ok (.ireturn, 1) := by decide +kernel
theorem dL_law_535 : decode cL_law 535 = .ok (.aload_n 1, 1) := by decide +kernel
theorem dL_law_536 : decode cL_law 536 = .ok (.invokevirtual 52, 3) := by decide +kernel
theorem dL_law_539 : decode cL_law 539 = .ok (.aload_n 2, 1) := by decide +kernel
theorem dL_law_540 : decode cL_law 540 = .ok (.invokevirtual 56, 3) := by decide +kernel
theorem dL_law_543 : decode cL_law 543 = .ok (.if_icmp .eq 567, 3) := by decide +kernel
theorem dL_law_546 : decode cL_law 546 = .ok (.iconst 0, 1) := by decide +kernel
theorem dL_law_547 : decode cL_law 547 = .ok (.ireturn, 1) := by decide +kernel
theorem dL_law_548 : decode cL_law 548 = .ok (.aload_n 1, 1) := by decide +kernel
theorem dL_law_549 : decode cL_law 549 = .ok (.aload_n 0, 1) := by decide +kernel
theorem dL_law_550 : decode cL_law 550 = .ok (.iload_n 3, 1) := by decide +kernel
theorem dL_law_551 : decode cL_law 551 = .ok (.iconst 1, 1) := by decide +kernel
theorem dL_law_552 : decode cL_law 552 = .ok (.iadd, 1) := by decide +kernel
theorem dL_law_553 : decode cL_law 553 = .ok (.iaload, 1) := by decide +kernel
theorem dL_law_554 : decode cL_law 554 = .ok (.invokevirtual 57, 3) := by decide +kernel
theorem dL_law_557 : decode cL_law 557 = .ok (.aload_n 2, 1) := by decide +kernel
theorem dL_law_558 : decode cL_law 558 = .ok (.aload_n 0, 1) := by decide +kernel
theorem dL_law_559 : decode cL_law 559 = .ok (.iload_n 3, 1) := by decide +kernel
theorem dL_law_560 : decode cL_law 560 = .ok (.iconst 1, 1) := by decide +kernel
theorem dL_law_561 : decode cL_law 561 = .ok (.iadd, 1) := by decide +kernel
theorem dL_law_562 : decode cL_law 562 = .ok (.iaload, 1) := by decide +kernel
theorem dL_law_563 : decode cL_law 563 = .ok (.invokevirtual 61, 3) := by decide +kernel
theorem dL_law_566 : decode cL_law 566 = .ok (.if_icmp .eq 544, 3) := by decide +kernel
theorem dL_law_569 : decode cL_law 569 = .ok (.iconst 0, 1) := by decide +kernel
theorem dL_law_570 : decode cL_law 570 = .ok (.ireturn, 1) := by decide +kernel
theorem dL_law_571 : decode cL_law 571 = .ok (.aload_n 1, 1) := by decide +kernel
theorem dL_law_572 : decode cL_law 572 = .ok (.invokevirtual 62, 3) := by decide +kernel
theorem dL_law_575 : decode cL_law 575 = .ok (.aload_n 2, 1) := by decide +kernel
theorem dL_law_576 : decode cL_law 576 = .ok (.invokevirtual 65, 3) := by decide +kernel
theorem dL_law_579 : decode cL_law 579 = .ok (.if_icmp .eq 531, 3) := by decide +kernel
theorem dL_law_582 : decode cL_law 582 = .ok (.iconst 0, 1) := by decide +kernel
theorem dL_law_583 : decode cL_law 583 = .ok (.ireturn, 1) := by decide +kernel
theorem dL_law_584 : decode cL_law 584 = .ok (.aload_n 1, 1) := by decide +kernel
theorem dL_law_585 : decode cL_law 585 = .ok (.invokevirtual 66, 3) := by decide +kernel
theorem dL_law_588 : decode cL_law 588 = .ok (.aload_n 2, 1) := by decide +kernel
theorem dL_law_589 : decode cL_law 589 = .ok (.invokevirtual 69, 3) := by decide +kernel
theorem dL_law_592 : decode cL_law 592 = .ok (.if_icmp .eq 518, 3) := by decide +kernel
theorem dL_law_595 : decode cL_law 595 = .ok (.iconst 0, 1) := by decide +kernel
theorem dL_law_596 : decode cL_law 596 = .ok (.ireturn, 1) := by decide +kernel
theorem dL_law_597 : decode cL_law 597 = .ok (.aload_n 1, 1) := by decide +kernel
theorem dL_law_598 : decode cL_law 598 = .ok (.aload_n 0, 1) := by decide +kernel
theorem dL_law_599 : decode cL_law 599 = .ok (.iload_n 3, 1) := by decide +kernel
theorem dL_law_600 : decode cL_law 600 = .ok (.iconst 1, 1) := by decide +kernel
theorem dL_law_601 : decode cL_law 601 = .ok (.iadd, 1) := by decide +kernel
theorem dL_law_602 : decode cL_law 602 = .ok (.iaload, 1) := by decide +kernel
theorem dL_law_603 : decode cL_law 603 = .ok (.aload_n 0, 1) := by decide +kernel
theorem dL_law_604 : decode cL_law 604 = .ok (.iload_n 3, 1) := by decide +kernel
theorem dL_law_605 : decode cL_law 605 = .ok (.iconst 2, 1) := by decide +kernel
theorem dL_law_606 : decode cL_law 606 = .ok (.iadd, 1) := by decide +kernel
theorem dL_law_607 : decode cL_law 607 = .ok (.iaload, 1) := by decide +kernel
theorem dL_law_608 : decode cL_law 608 = .ok (.aload_n 0, 1) := by decide +kernel
theorem dL_law_609 : decode cL_law 609 = .ok (.iload_n 3, 1) := by decide +kernel
theorem dL_law_610 : decode cL_law 610 = .ok (.iconst 3, 1) := by decide +kernel
theorem dL_law_611 : decode cL_law 611 = .ok (.iadd, 1) := by decide +kernel
theorem dL_law_612 : decode cL_law 612 = .ok (.iaload, 1) := by decide +kernel
theorem dL_law_613 : decode cL_law 613 = .ok (.invokevirtual 70, 3) := by decide +kernel
theorem dL_law_616 : decode cL_law 616 = .ok (.aload_n 2, 1) := by decide +kernel
theorem dL_law_617 : decode cL_law 617 = .ok (.aload_n 0, 1) := by decide +kernel
theorem dL_law_618 : decode cL_law 618 = .ok (.iload_n 3, 1) := by decide +kernel
theorem dL_law_619 : decode cL_law 619 = .ok (.iconst 1, 1) := by decide +kernel
theorem dL_law_620 : decode cL_law 620 = .ok (.iadd, 1) := by decide +kernel
theorem dL_law_621 : decode cL_law 621 = .ok (.iaload, 1) := by decide +kernel
theorem dL_law_622 : decode cL_law 622 = .ok (.aload_n 0, 1) := by decide +kernel
theorem dL_law_623 : decode cL_law 623 = .ok (.iload_n 3, 1) := by decide +kernel
theorem dL_law_624 : decode cL_law 624 = .ok (.iconst 2, 1) := by decide +kernel
theorem dL_law_625 : decode cL_law 625 = .ok (.iadd, 1) := by decide +kernel
theorem dL_law_626 : decode cL_law 626 = .ok (.iaload, 1) := by decide +kernel
theorem dL_law_627 : decode cL_law 627 = .ok (.aload_n 0, 1) := by decide +kernel
theorem dL_law_628 : decode cL_law 628 = .ok (.iload_n 3, 1) := by decide +kernel
theorem dL_law_629 : decode cL_law 629 = .ok (.iconst 3, 1) := by decide +kernel
theorem dL_law_630 : decode cL_law 630 = .ok (.iadd, 1) := by decide +kernel
theorem dL_law_631 : decode cL_law 631 = .ok (.iaload, 1) := by decide +kernel
theorem dL_law_632 : decode cL_law 632 = .ok (.invokevirtual 74, 3) := by decide +kernel
theorem dL_law_635 : decode cL_law 635 = .ok (.if_icmp .eq 475, 3) := by decide +kernel
theorem dL_law_638 : decode cL_law 638 = .ok (.iconst 0, 1) := by decide +kernel
theorem dL_law_639 : decode cL_law 639 = .ok (.ireturn, 1) := by decide +kernel
theorem dL_law_640 : decode cL_law 640 = .ok (.aload_n 1, 1) := by decide +kernel
theorem dL_law_641 : decode cL_law 641 = .ok (.aload_n 0, 1) := by decide +kernel
theorem dL_law_642 : decode cL_law 642 = .ok (.iload_n 3, 1) := by decide +kernel
theorem dL_law_643 : decode cL_law 643 = .ok (.iconst 1, 1) := by decide +kernel
theorem dL_law_644 : decode cL_law 644 = .ok (.iadd, 1) := by decide +kernel
theorem dL_law_645 : decode cL_law 645 = .ok (.iaload, 1) := by decide +kernel
theorem dL_law_646 : decode cL_law 646 = .ok (.invokevirtual 75, 3) := by decide +kernel
theorem dL_law_649 : decode cL_law 649 = .ok (.aload_n 2, 1) := by decide +kernel
theorem dL_law_650 : decode cL_law 650 = .ok (.aload_n 0, 1) := by decide +kernel
theorem dL_law_651 : decode cL_law 651 = .ok (.iload_n 3, 1) := by decide +kernel
theorem dL_law_652 : decode cL_law 652 = .ok (.iconst 1, 1) := by decide +kernel
theorem dL_law_653 : decode cL_law 653 = .ok (.iadd, 1) := by decide +kernel
theorem dL_law_654 : decode cL_law 654 = .ok (.iaload, 1) := by decide +kernel
theorem dL_law_655 : decode cL_law 655 = .ok (.invokevirtual 78, 3) := by decide +kernel
theorem dL_law_658 : decode cL_law 658 = .ok (.if_icmp .eq 452, 3) := by decide +kernel
theorem dL_law_661 : decode cL_law 661 = .ok (.iconst 0, 1) := by decide +kernel
theorem dL_law_662 : decode cL_law 662 = .ok (.ireturn, 1) := by decide +kernel
theorem dL_law_663 : decode cL_law 663 = .ok (.aload_n 1, 1) := by decide +kernel
theorem dL_law_664 : decode cL_law 664 = .ok (.aload_n 0, 1) := by decide +kernel
theorem dL_law_665 : decode cL_law 665 = .ok (.iload_n 3, 1) := by decide +kernel
theorem dL_law_666 : decode cL_law 666 = .ok (.iconst 1, 1) := by decide +kernel
theorem dL_law_667 : decode cL_law 667 = .ok (.iadd, 1) := by decide +kernel
theorem dL_law_668 : decode cL_law 668 = .ok (.iaload, 1) := by decide +kernel
theorem dL_law_669 : decode cL_law 669 = .ok (.invokevirtual 79, 3) := by decide +kernel
theorem dL_law_672 : decode cL_law 672 = .ok (.aload_n 2, 1) := by decide +kernel
theorem dL_law_673 : decode cL_law 673 = .ok (.aload_n 0, 1) := by decide +kernel
theorem dL_law_674 : decode cL_law 674 = .ok (.iload_n 3, 1) := by decide +kernel
theorem dL_law_675 : decode cL_law 675 = .ok (.iconst 1, 1) := by decide +kernel
theorem dL_law_676 : decode cL_law 676 = .ok (.iadd, 1) := by decide +kernel
theorem dL_law_677 : decode cL_law 677 = .ok (.iaload, 1) := by decide +kernel
theorem dL_law_678 : decode cL_law 678 = .ok (.invokevirtual 82, 3) := by decide +kernel
theorem dL_law_681 : decode cL_law 681 = .ok (.if_icmp .eq 429, 3) := by decide +kernel
theorem dL_law_684 : decode cL_law 684 = .ok (.iconst 0, 1) := by decide +kernel
theorem dL_law_685 : decode cL_law 685 = .ok (.ireturn, 1) := by decide +kernel
theorem dL_law_686 : decode cL_law 686 = .ok (.aload_n 1, 1) := by decide +kernel
theorem dL_law_687 : decode cL_law 687 = .ok (.aload_n 0, 1) := by decide +kernel
theorem dL_law_688 : decode cL_law 688 = .ok (.iload_n 3, 1) := by decide +kernel
theorem dL_law_689 : decode cL_law 689 = .ok (.iconst 1, 1) := by decide +kernel
theorem dL_law_690 : decode cL_law 690 = .ok (.iadd, 1) := by decide +kernel
theorem dL_law_691 : decode cL_law 691 = .ok (.iaload, 1) := by decide +kernel
theorem dL_law_692 : decode cL_law 692 = .ok (.invokevirtual 83, 3) := by decide +kernel
theorem dL_law_695 : decode cL_law 695 = .ok (.aload_n 2, 1) := by decide +kernel
theorem dL_law_696 : decode cL_law 696 = .ok (.aload_n 0, 1) := by decide +kernel
theorem dL_law_697 : decode cL_law 697 = .ok (.iload_n 3, 1) := by decide +kernel
theorem dL_law_698 : decode cL_law 698 = .ok (.iconst 1, 1) := by decide +kernel
theorem dL_law_699 : decode cL_law 699 = .ok (.iadd, 1) := by decide +kernel
theorem dL_law_700 : decode cL_law 700 = .ok (.iaload, 1) := by decide +kernel
theorem dL_law_701 : decode cL_law 701 = .ok (.invokevirtual 86, 3) := by decide +kernel
theorem dL_law_704 : decode cL_law 704 = .ok (.if_icmp .eq 406, 3) := by decide +kernel
theorem dL_law_707 : decode cL_law 707 = .ok (.iconst 0, 1) := by decide +kernel
theorem dL_law_708 : decode cL_law 708 = .ok (.ireturn, 1) := by decide +kernel
theorem dL_law_709 : decode cL_law 709 = .ok (.aload_n 1, 1) := by decide +kernel
theorem dL_law_710 : decode cL_law 710 = .ok (.aload_n 0, 1) := by decide +kernel
theorem dL_law_711 : decode cL_law 711 = .ok (.iload_n 3, 1) := by decide +kernel
theorem dL_law_712 : decode cL_law 712 = .ok (.iconst 1, 1) := by decide +kernel
theorem dL_law_713 : decode cL_law 713 = .ok (.iadd, 1) := by decide +kernel
theorem dL_law_714 : decode cL_law 714 = .ok (.iaload, 1) := by decide +kernel
theorem dL_law_715 : decode cL_law 715 = .ok (.invokevirtual 87, 3) := by decide +kernel
theorem dL_law_718 : decode cL_law 718 = .ok (.aload_n 2, 1) := by decide +kernel
theorem dL_law_719 : decode cL_law 719 = .ok (.aload_n 0, 1) := by decide +kernel
theorem dL_law_720 : decode cL_law 720 = .ok (.iload_n 3, 1) := by decide +kernel
theorem dL_law_721 : decode cL_law 721 = .ok (.iconst 1, 1) := by decide +kernel
theorem dL_law_722 : decode cL_law 722 = .ok (.iadd, 1) := by decide +kernel
theorem dL_law_723 : decode cL_law 723 = .ok (.iaload, 1) := by decide +kernel
theorem dL_law_724 : decode cL_law 724 = .ok (.invokevirtual 90, 3) := by decide +kernel
theorem dL_law_727 : decode cL_law 727 = .ok (.if_icmp .eq 383, 3) := by decide +kernel
theorem dL_law_730 : decode cL_law 730 = .ok (.iconst 0, 1) := by decide +kernel
theorem dL_law_731 : decode cL_law 731 = .ok (.ireturn, 1) := by decide +kernel
theorem dL_law_732 : decode cL_law 732 = .ok (.aload_n 1, 1) := by decide +kernel
theorem dL_law_733 : decode cL_law 733 = .ok (.aload_n 0, 1) := by decide +kernel
theorem dL_law_734 : decode cL_law 734 = .ok (.iload_n 3, 1) := by decide +kernel
theorem dL_law_735 : decode cL_law 735 = .ok (.iconst 1, 1) := by decide +kernel
theorem dL_law_736 : decode cL_law 736 = .ok (.iadd, 1) := by decide +kernel
theorem dL_law_737 : decode cL_law 737 = .ok (.iaload, 1) := by decide +kernel
theorem dL_law_738 : decode cL_law 738 = .ok (.aload_n 0, 1) := by decide +kernel
theorem dL_law_739 : decode cL_law 739 = .ok (.iload_n 3, 1) := by decide +kernel
theorem dL_law_740 : decode cL_law 740 = .ok (.iconst 2, 1) := by decide +kernel
theorem dL_law_741 : decode cL_law 741 = .ok (.iadd, 1) := by decide +kernel
theorem dL_law_742 : decode cL_law 742 = .ok (.iaload, 1) := by decide +kernel
theorem dL_law_743 : decode cL_law 743 = .ok (.invokevirtual 91, 3) := by decide +kernel
theorem dL_law_746 : decode cL_law 746 = .ok (.aload_n 2, 1) := by decide +kernel
theorem dL_law_747 : decode cL_law 747 = .ok (.aload_n 0, 1) := by decide +kernel
theorem dL_law_748 : decode cL_law 748 = .ok (.iload_n 3, 1) := by decide +kernel
theorem dL_law_749 : decode cL_law 749 = .ok (.iconst 1, 1) := by decide +kernel
theorem dL_law_750 : decode cL_law 750 = .ok (.iadd, 1) := by decide +kernel
theorem dL_law_751 : decode cL_law 751 = .ok (.iaload, 1) := by decide +kernel
theorem dL_law_752 : decode cL_law 752 = .ok (.aload_n 0, 1) := by decide +kernel
theorem dL_law_753 : decode cL_law 753 = .ok (.iload_n 3, 1) := by decide +kernel
theorem dL_law_754 : decode cL_law 754 = .ok (.iconst 2, 1) := by decide +kernel
theorem dL_law_755 : decode cL_law 755 = .ok (.iadd, 1) := by decide +kernel
theorem dL_law_756 : decode cL_law 756 = .ok (.iaload, 1) := by decide +kernel
theorem dL_law_757 : decode cL_law 757 = .ok (.invokevirtual 95, 3) := by decide +kernel
theorem dL_law_760 : decode cL_law 760 = .ok (.lcmp, 1) := by decide +kernel
theorem dL_law_761 : decode cL_law 761 = .ok (.ifCond .eq 349, 3) := by decide +kernel
theorem dL_law_764 : decode cL_law 764 = .ok (.iconst 0, 1) := by decide +kernel
theorem dL_law_765 : decode cL_law 765 = .ok (.ireturn, 1) := by decide +kernel
theorem dL_law_766 : decode cL_law 766 = .ok (.aload_n 1, 1) := by decide +kernel
theorem dL_law_767 : decode cL_law 767 = .ok (.aload_n 0, 1) := by decide +kernel
theorem dL_law_768 : decode cL_law 768 = .ok (.iload_n 3, 1) := by decide +kernel
theorem dL_law_769 : decode cL_law 769 = .ok (.iconst 1, 1) := by decide +kernel
theorem dL_law_770 : decode cL_law 770 = .ok (.iadd, 1) := by decide +kernel
theorem dL_law_771 : decode cL_law 771 = .ok (.iaload, 1) := by decide +kernel
theorem dL_law_772 : decode cL_law 772 = .ok (.aload_n 0, 1) := by decide +kernel
theorem dL_law_773 : decode cL_law 773 = .ok (.iload_n 3, 1) := by decide +kernel
theorem dL_law_774 : decode cL_law 774 = .ok (.iconst 2, 1) := by decide +kernel
theorem dL_law_775 : decode cL_law 775 = .ok (.iadd, 1) := by decide +kernel
theorem dL_law_776 : decode cL_law 776 = .ok (.iaload, 1) := by decide +kernel
theorem dL_law_777 : decode cL_law 777 = .ok (.aload_n 0, 1) := by decide +kernel
theorem dL_law_778 : decode cL_law 778 = .ok (.iload_n 3, 1) := by decide +kernel
theorem dL_law_779 : decode cL_law 779 = .ok (.iconst 3, 1) := by decide +kernel
theorem dL_law_780 : decode cL_law 780 = .ok (.iadd, 1) := by decide +kernel
theorem dL_law_781 : decode cL_law 781 = .ok (.iaload, 1) := by decide +kernel
theorem dL_law_782 : decode cL_law 782 = .ok (.invokevirtual 96, 3) := by decide +kernel
theorem dL_law_785 : decode cL_law 785 = .ok (.aload_n 2, 1) := by decide +kernel
theorem dL_law_786 : decode cL_law 786 = .ok (.aload_n 0, 1) := by decide +kernel
theorem dL_law_787 : decode cL_law 787 = .ok (.iload_n 3, 1) := by decide +kernel
theorem dL_law_788 : decode cL_law 788 = .ok (.iconst 1, 1) := by decide +kernel
theorem dL_law_789 : decode cL_law 789 = .ok (.iadd, 1) := by decide +kernel
theorem dL_law_790 : decode cL_law 790 = .ok (.iaload, 1) := by decide +kernel
theorem dL_law_791 : decode cL_law 791 = .ok (.aload_n 0, 1) := by decide +kernel
theorem dL_law_792 : decode cL_law 792 = .ok (.iload_n 3, 1) := by decide +kernel
theorem dL_law_793 : decode cL_law 793 = .ok (.iconst 2, 1) := by decide +kernel
theorem dL_law_794 : decode cL_law 794 = .ok (.iadd, 1) := by decide +kernel
theorem dL_law_795 : decode cL_law 795 = .ok (.iaload, 1) := by decide +kernel
theorem dL_law_796 : decode cL_law 796 = .ok (.aload_n 0, 1) := by decide +kernel
theorem dL_law_797 : decode cL_law 797 = .ok (.iload_n 3, 1) := by decide +kernel
theorem dL_law_798 : decode cL_law 798 = .ok (.iconst 3, 1) := by decide +kernel
theorem dL_law_799 : decode cL_law 799 = .ok (.iadd, 1) := by decide +kernel
theorem dL_law_800 : decode cL_law 800 = .ok (.iaload, 1) := by decide +kernel
theorem dL_law_801 : decode cL_law 801 = .ok (.invokevirtual 99, 3) := by decide +kernel
theorem dL_law_804 : decode cL_law 804 = .ok (.if_icmp .eq 306, 3) := by decide +kernel
theorem dL_law_807 : decode cL_law 807 = .ok (.iconst 0, 1) := by decide +kernel
theorem dL_law_808 : decode cL_law 808 = .ok (.ireturn, 1) := by decide +kernel
theorem dL_law_809 : decode cL_law 809 = .ok (.aload_n 1, 1) := by decide +kernel
theorem dL_law_810 : decode cL_law 810 = .ok (.aload_n 0, 1) := by decide +kernel
theorem dL_law_811 : decode cL_law 811 = .ok (.iload_n 3, 1) := by decide +kernel
theorem dL_law_812 : decode cL_law 812 = .ok (.iconst 1, 1) := by decide +kernel
theorem dL_law_813 : decode cL_law 813 = .ok (.iadd, 1) := by decide +kernel
theorem dL_law_814 : decode cL_law 814 = .ok (.iaload, 1) := by decide +kernel
theorem dL_law_815 : decode cL_law 815 = .ok (.invokevirtual 100, 3) := by decide +kernel
theorem dL_law_818 : decode cL_law 818 = .ok (.aload_n 2, 1) := by decide +kernel
theorem dL_law_819 : decode cL_law 819 = .ok (.aload_n 0, 1) := by decide +kernel
theorem dL_law_820 : decode cL_law 820 = .ok (.iload_n 3, 1) := by decide +kernel
theorem dL_law_821 : decode cL_law 821 = .ok (.iconst 1, 1) := by decide +kernel
theorem dL_law_822 : decode cL_law 822 = .ok (.iadd, 1) := by decide +kernel
theorem dL_law_823 : decode cL_law 823 = .ok (.iaload, 1) := by decide +kernel
theorem dL_law_824 : decode cL_law 824 = .ok (.invokevirtual 103, 3) := by decide +kernel
theorem dL_law_827 : decode cL_law 827 = .ok (.if_icmp .eq 283, 3) := by decide +kernel
theorem dL_law_830 : decode cL_law 830 = .ok (.iconst 0, 1) := by decide +kernel
theorem dL_law_831 : decode cL_law 831 = .ok (.ireturn, 1) := by decide +kernel
theorem dL_law_832 : decode cL_law 832 = .ok (.aload_n 1, 1) := by decide +kernel
theorem dL_law_833 : decode cL_law 833 = .ok (.aload_n 0, 1) := by decide +kernel
theorem dL_law_834 : decode cL_law 834 = .ok (.iload_n 3, 1) := by decide +kernel
theorem dL_law_835 : decode cL_law 835 = .ok (.iconst 1, 1) := by decide +kernel
theorem dL_law_836 : decode cL_law 836 = .ok (.iadd, 1) := by decide +kernel
theorem dL_law_837 : decode cL_law 837 = .ok (.iaload, 1) := by decide +kernel
theorem dL_law_838 : decode cL_law 838 = .ok (.aload_n 0, 1) := by decide +kernel
theorem dL_law_839 : decode cL_law 839 = .ok (.iload_n 3, 1) := by decide +kernel
theorem dL_law_840 : decode cL_law 840 = .ok (.iconst 2, 1) := by decide +kernel
theorem dL_law_841 : decode cL_law 841 = .ok (.iadd, 1) := by decide +kernel
theorem dL_law_842 : decode cL_law 842 = .ok (.iaload, 1) := by decide +kernel
theorem dL_law_843 : decode cL_law 843 = .ok (.aload_n 0, 1) := by decide +kernel
theorem dL_law_844 : decode cL_law 844 = .ok (.iload_n 3, 1) := by decide +kernel
theorem dL_law_845 : decode cL_law 845 = .ok (.iconst 3, 1) := by decide +kernel
theorem dL_law_846 : decode cL_law 846 = .ok (.iadd, 1) := by decide +kernel
theorem dL_law_847 : decode cL_law 847 = .ok (.iaload, 1) := by decide +kernel
theorem dL_law_848 : decode cL_law 848 = .ok (.invokevirtual 104, 3) := by decide +kernel
theorem dL_law_851 : decode cL_law 851 = .ok (.aload_n 2, 1) := by decide +kernel
theorem dL_law_852 : decode cL_law 852 = .ok (.aload_n 0, 1) := by decide +kernel
theorem dL_law_853 : decode cL_law 853 = .ok (.iload_n 3, 1) := by decide +kernel
theorem dL_law_854 : decode cL_law 854 = .ok (.iconst 1, 1) := by decide +kernel
theorem dL_law_855 : decode cL_law 855 = .ok (.iadd, 1) := by decide +kernel
theorem dL_law_856 : decode cL_law 856 = .ok (.iaload, 1) := by decide +kernel
theorem dL_law_857 : decode cL_law 857 = .ok (.aload_n 0, 1) := by decide +kernel
theorem dL_law_858 : decode cL_law 858 = .ok (.iload_n 3, 1) := by decide +kernel
theorem dL_law_859 : decode cL_law 859 = .ok (.iconst 2, 1) := by decide +kernel
theorem dL_law_860 : decode cL_law 860 = .ok (.iadd, 1) := by decide +kernel
theorem dL_law_861 : decode cL_law 861 = .ok (.iaload, 1) := by decide +kernel
theorem dL_law_862 : decode cL_law 862 = .ok (.aload_n 0, 1) := by decide +kernel
theorem dL_law_863 : decode cL_law 863 = .ok (.iload_n 3, 1) := by decide +kernel
theorem dL_law_864 : decode cL_law 864 = .ok (.iconst 3, 1) := by decide +kernel
theorem dL_law_865 : decode cL_law 865 = .ok (.iadd, 1) := by decide +kernel
theorem dL_law_866 : decode cL_law 866 = .ok (.iaload, 1) := by decide +kernel
theorem dL_law_867 : decode cL_law 867 = .ok (.invokevirtual 107, 3) := by decide +kernel
theorem dL_law_870 : decode cL_law 870 = .ok (.if_icmp .eq 240, 3) := by decide +kernel
theorem dL_law_873 : decode cL_law 873 = .ok (.iconst 0, 1) := by decide +kernel
theorem dL_law_874 : decode cL_law 874 = .ok (.ireturn, 1) := by decide +kernel
theorem dL_law_875 : decode cL_law 875 = .ok (.aload_n 1, 1) := by decide +kernel
theorem dL_law_876 : decode cL_law 876 = .ok (.aload_n 0, 1) := by decide +kernel
theorem dL_law_877 : decode cL_law 877 = .ok (.iload_n 3, 1) := by decide +kernel
theorem dL_law_878 : decode cL_law 878 = .ok (.iconst 1, 1) := by decide +kernel
theorem dL_law_879 : decode cL_law 879 = .ok (.iadd, 1) := by decide +kernel
theorem dL_law_880 : decode cL_law 880 = .ok (.iaload, 1) := by decide +kernel
theorem dL_law_881 : decode cL_law 881 = .ok (.aload_n 0, 1) := by decide +kernel
theorem dL_law_882 : decode cL_law 882 = .ok (.iload_n 3, 1) := by decide +kernel
theorem dL_law_883 : decode cL_law 883 = .ok (.iconst 2, 1) := by decide +kernel
theorem dL_law_884 : decode cL_law 884 = .ok (.iadd, 1) := by decide +kernel
theorem dL_law_885 : decode cL_law 885 = .ok (.iaload, 1) := by decide +kernel
theorem dL_law_886 : decode cL_law 886 = .ok (.aload_n 0, 1) := by decide +kernel
theorem dL_law_887 : decode cL_law 887 = .ok (.iload_n 3, 1) := by decide +kernel
theorem dL_law_888 : decode cL_law 888 = .ok (.iconst 3, 1) := by decide +kernel
theorem dL_law_889 : decode cL_law 889 = .ok (.iadd, 1) := by decide +kernel
theorem dL_law_890 : decode cL_law 890 = .ok (.iaload, 1) := by decide +kernel
theorem dL_law_891 : decode cL_law 891 = .ok (.invokevirtual 108, 3) := by decide +kernel
theorem dL_law_894 : decode cL_law 894 = .ok (.aload_n 2, 1) := by decide +kernel
theorem dL_law_895 : decode cL_law 895 = .ok (.aload_n 0, 1) := by decide +kernel
theorem dL_law_896 : decode cL_law 896 = .ok (.iload_n 3, 1) := by decide +kernel
theorem dL_law_897 : decode cL_law 897 = .ok (.iconst 1, 1) := by decide +kernel
theorem dL_law_898 : decode cL_law 898 = .ok (.iadd, 1) := by decide +kernel
theorem dL_law_899 : decode cL_law 899 = .ok (.iaload, 1) := by decide +kernel
theorem dL_law_900 : decode cL_law 900 = .ok (.aload_n 0, 1) := by decide +kernel
theorem dL_law_901 : decode cL_law 901 = .ok (.iload_n 3, 1) := by decide +kernel
theorem dL_law_902 : decode cL_law 902 = .ok (.iconst 2, 1) := by decide +kernel
theorem dL_law_903 : decode cL_law 903 = .ok (.iadd, 1) := by decide +kernel
theorem dL_law_904 : decode cL_law 904 = .ok (.iaload, 1) := by decide +kernel
theorem dL_law_905 : decode cL_law 905 = .ok (.aload_n 0, 1) := by decide +kernel
theorem dL_law_906 : decode cL_law 906 = .ok (.iload_n 3, 1) := by decide +kernel
theorem dL_law_907 : decode cL_law 907 = .ok (.iconst 3, 1) := by decide +kernel
theorem dL_law_908 : decode cL_law 908 = .ok (.iadd, 1) := by decide +kernel
theorem dL_law_909 : decode cL_law 909 = .ok (.iaload, 1) := by decide +kernel
theorem dL_law_910 : decode cL_law 910 = .ok (.invokevirtual 112, 3) := by decide +kernel
theorem dL_law_913 : decode cL_law 913 = .ok (.lcmp, 1) := by decide +kernel
theorem dL_law_914 : decode cL_law 914 = .ok (.ifCond .eq 196, 3) := by decide +kernel
theorem dL_law_917 : decode cL_law 917 = .ok (.iconst 0, 1) := by decide +kernel
theorem dL_law_918 : decode cL_law 918 = .ok (.ireturn, 1) := by decide +kernel
theorem dL_law_919 : decode cL_law 919 = .ok (.aload_n 1, 1) := by decide +kernel
theorem dL_law_920 : decode cL_law 920 = .ok (.aload_n 0, 1) := by decide +kernel
theorem dL_law_921 : decode cL_law 921 = .ok (.iload_n 3, 1) := by decide +kernel
theorem dL_law_922 : decode cL_law 922 = .ok (.iconst 1, 1) := by decide +kernel
theorem dL_law_923 : decode cL_law 923 = .ok (.iadd, 1) := by decide +kernel
theorem dL_law_924 : decode cL_law 924 = .ok (.iaload, 1) := by decide +kernel
theorem dL_law_925 : decode cL_law 925 = .ok (.aload_n 0, 1) := by decide +kernel
theorem dL_law_926 : decode cL_law 926 = .ok (.iload_n 3, 1) := by decide +kernel
theorem dL_law_927 : decode cL_law 927 = .ok (.iconst 2, 1) := by decide +kernel
theorem dL_law_928 : decode cL_law 928 = .ok (.iadd, 1) := by decide +kernel
theorem dL_law_929 : decode cL_law 929 = .ok (.iaload, 1) := by decide +kernel
theorem dL_law_930 : decode cL_law 930 = .ok (.aload_n 0, 1) := by decide +kernel
theorem dL_law_931 : decode cL_law 931 = .ok (.iload_n 3, 1) := by decide +kernel
theorem dL_law_932 : decode cL_law 932 = .ok (.iconst 3, 1) := by decide +kernel
theorem dL_law_933 : decode cL_law 933 = .ok (.iadd, 1) := by decide +kernel
theorem dL_law_934 : decode cL_law 934 = .ok (.iaload, 1) := by decide +kernel
theorem dL_law_935 : decode cL_law 935 = .ok (.aload_n 0, 1) := by decide +kernel
theorem dL_law_936 : decode cL_law 936 = .ok (.iload_n 3, 1) := by decide +kernel
theorem dL_law_937 : decode cL_law 937 = .ok (.iconst 4, 1) := by decide +kernel
theorem dL_law_938 : decode cL_law 938 = .ok (.iadd, 1) := by decide +kernel
theorem dL_law_939 : decode cL_law 939 = .ok (.iaload, 1) := by decide +kernel
theorem dL_law_940 : decode cL_law 940 = .ok (.aload_n 0, 1) := by decide +kernel
theorem dL_law_941 : decode cL_law 941 = .ok (.iload_n 3, 1) := by decide +kernel
theorem dL_law_942 : decode cL_law 942 = .ok (.iconst 5, 1) := by decide +kernel
theorem dL_law_943 : decode cL_law 943 = .ok (.iadd, 1) := by decide +kernel
theorem dL_law_944 : decode cL_law 944 = .ok (.iaload, 1) := by decide +kernel
theorem dL_law_945 : decode cL_law 945 = .ok (.invokevirtual 113, 3) := by decide +kernel
theorem dL_law_948 : decode cL_law 948 = .ok (.aload_n 2, 1) := by decide +kernel
theorem dL_law_949 : decode cL_law 949 = .ok (.aload_n 0, 1) := by decide +kernel
theorem dL_law_950 : decode cL_law 950 = .ok (.iload_n 3, 1) := by decide +kernel
theorem dL_law_951 : decode cL_law 951 = .ok (.iconst 1, 1) := by decide +kernel
theorem dL_law_952 : decode cL_law 952 = .ok (.iadd, 1) := by decide +kernel
theorem dL_law_953 : decode cL_law 953 = .ok (.iaload, 1) := by decide +kernel
theorem dL_law_954 : decode cL_law 954 = .ok (.aload_n 0, 1) := by decide +kernel
theorem dL_law_955 : decode cL_law 955 = .ok (.iload_n 3, 1) := by decide +kernel
theorem dL_law_956 : decode cL_law 956 = .ok (.iconst 2, 1) := by decide +kernel
theorem dL_law_957 : decode cL_law 957 = .ok (.iadd, 1) := by decide +kernel
theorem dL_law_958 : decode cL_law 958 = .ok (.iaload, 1) := by decide +kernel
theorem dL_law_959 : decode cL_law 959 = .ok (.aload_n 0, 1) := by decide +kernel
theorem dL_law_960 : decode cL_law 960 = .ok (.iload_n 3, 1) := by decide +kernel
theorem dL_law_961 : decode cL_law 961 = .ok (.iconst 3, 1) := by decide +kernel
theorem dL_law_962 : decode cL_law 962 = .ok (.iadd, 1) := by decide +kernel
theorem dL_law_963 : decode cL_law 963 = .ok (.iaload, 1) := by decide +kernel
theorem dL_law_964 : decode cL_law 964 = .ok (.aload_n 0, 1) := by decide +kernel
theorem dL_law_965 : decode cL_law 965 = .ok (.iload_n 3, 1) := by decide +kernel
theorem dL_law_966 : decode cL_law 966 = .ok (.iconst 4, 1) := by decide +kernel
theorem dL_law_967 : decode cL_law 967 = .ok (.iadd, 1) := by decide +kernel
theorem dL_law_968 : decode cL_law 968 = .ok (.iaload, 1) := by decide +kernel
theorem dL_law_969 : decode cL_law 969 = .ok (.aload_n 0, 1) := by decide +kernel
theorem dL_law_970 : decode cL_law 970 = .ok (.iload_n 3, 1) := by decide +kernel
theorem dL_law_971 : decode cL_law 971 = .ok (.iconst 5, 1) := by decide +kernel
theorem dL_law_972 : decode cL_law 972 = .ok (.iadd, 1) := by decide +kernel
theorem dL_law_973 : decode cL_law 973 = .ok (.iaload, 1) := by decide +kernel
theorem dL_law_974 : decode cL_law 974 = .ok (.invokevirtual 116, 3) := by decide +kernel
theorem dL_law_977 : decode cL_law 977 = .ok (.if_icmp .eq 133, 3) := by decide +kernel
theorem dL_law_980 : decode cL_law 980 = .ok (.iconst 0, 1) := by decide +kernel
theorem dL_law_981 : decode cL_law 981 = .ok (.ireturn, 1) := by decide +kernel
theorem dL_law_982 : decode cL_law 982 = .ok (.aload_n 1, 1) := by decide +kernel
theorem dL_law_983 : decode cL_law 983 = .ok (.aload_n 0, 1) := by decide +kernel
theorem dL_law_984 : decode cL_law 984 = .ok (.iload_n 3, 1) := by decide +kernel
theorem dL_law_985 : decode cL_law 985 = .ok (.iconst 1, 1) := by decide +kernel
theorem dL_law_986 : decode cL_law 986 = .ok (.iadd, 1) := by decide +kernel
theorem dL_law_987 : decode cL_law 987 = .ok (.iaload, 1) := by decide +kernel
theorem dL_law_988 : decode cL_law 988 = .ok (.invokevirtual 117, 3) := by decide +kernel
theorem dL_law_991 : decode cL_law 991 = .ok (.aload_n 2, 1) := by decide +kernel
theorem dL_law_992 : decode cL_law 992 = .ok (.aload_n 0, 1) := by decide +kernel
theorem dL_law_993 : decode cL_law 993 = .ok (.iload_n 3, 1) := by decide +kernel
theorem dL_law_994 : decode cL_law 994 = .ok (.iconst 1, 1) := by decide +kernel
theorem dL_law_995 : decode cL_law 995 = .ok (.iadd, 1) := by decide +kernel
theorem dL_law_996 : decode cL_law 996 = .ok (.iaload, 1) := by decide +kernel
theorem dL_law_997 : decode cL_law 997 = .ok (.invokevirtual 120, 3) := by decide +kernel
theorem dL_law_1000 : decode cL_law 1000 = .ok (.if_icmp .eq 110, 3) := by decide +kernel
theorem dL_law_1003 : decode cL_law 1003 = .ok (.iconst 0, 1) := by decide +kernel
theorem dL_law_1004 : decode cL_law 1004 = .ok (.ireturn, 1) := by decide +kernel
theorem dL_law_1005 : decode cL_law 1005 = .ok (.aload_n 1, 1) := by decide +kernel
theorem dL_law_1006 : decode cL_law 1006 = .ok (.aload_n 0, 1) := by decide +kernel
theorem dL_law_1007 : decode cL_law 1007 = .ok (.iload_n 3, 1) := by decide +kernel
theorem dL_law_1008 : decode cL_law 1008 = .ok (.iconst 1, 1) := by decide +kernel
theorem dL_law_1009 : decode cL_law 1009 = .ok (.iadd, 1) := by decide +kernel
theorem dL_law_1010 : decode cL_law 1010 = .ok (.iaload, 1) := by decide +kernel
theorem dL_law_1011 : decode cL_law 1011 = .ok (.invokevirtual 121, 3) := by decide +kernel
theorem dL_law_1014 : decode cL_law 1014 = .ok (.aload_n 2, 1) := by decide +kernel
theorem dL_law_1015 : decode cL_law 1015 = .ok (.aload_n 0, 1) := by decide +kernel
theorem dL_law_1016 : decode cL_law 1016 = .ok (.iload_n 3, 1) := by decide +kernel
theorem dL_law_1017 : decode cL_law 1017 = .ok (.iconst 1, 1) := by decide +kernel
theorem dL_law_1018 : decode cL_law 1018 = .ok (.iadd, 1) := by decide +kernel
theorem dL_law_1019 : decode cL_law 1019 = .ok (.iaload, 1) := by decide +kernel
theorem dL_law_1020 : decode cL_law 1020 = .ok (.invokevirtual 124, 3) := by decide +kernel
theorem dL_law_1023 : decode cL_law 1023 = .ok (.if_icmp .eq 87, 3) := by decide +kernel
theorem dL_law_1026 : decode cL_law 1026 = .ok (.iconst 0, 1) := by decide +kernel
theorem dL_law_1027 : decode cL_law 1027 = .ok (.ireturn, 1) := by decide +kernel
theorem dL_law_1028 : decode cL_law 1028 = .ok (.aload_n 1, 1) := by decide +kernel
theorem dL_law_1029 : decode cL_law 1029 = .ok (.aload_n 0, 1) := by decide +kernel
theorem dL_law_1030 : decode cL_law 1030 = .ok (.iload_n 3, 1) := by decide +kernel
theorem dL_law_1031 : decode cL_law 1031 = .ok (.iconst 1, 1) := by decide +kernel
theorem dL_law_1032 : decode cL_law 1032 = .ok (.iadd, 1) := by decide +kernel
theorem dL_law_1033 : decode cL_law 1033 = .ok (.iaload, 1) := by decide +kernel
theorem dL_law_1034 : decode cL_law 1034 = .ok (.aload_n 0, 1) := by decide +kernel
theorem dL_law_1035 : decode cL_law 1035 = .ok (.iload_n 3, 1) := by decide +kernel
theorem dL_law_1036 : decode cL_law 1036 = .ok (.iconst 2, 1) := by decide +kernel
theorem dL_law_1037 : decode cL_law 1037 = .ok (.iadd, 1) := by decide +kernel
theorem dL_law_1038 : decode cL_law 1038 = .ok (.iaload, 1) := by decide +kernel
theorem dL_law_1039 : decode cL_law 1039 = .ok (.invokevirtual 125, 3) := by decide +kernel
theorem dL_law_1042 : decode cL_law 1042 = .ok (.aload_n 2, 1) := by decide +kernel
theorem dL_law_1043 : decode cL_law 1043 = .ok (.aload_n 0, 1) := by decide +kernel
theorem dL_law_1044 : decode cL_law 1044 = .ok (.iload_n 3, 1) := by decide +kernel
theorem dL_law_1045 : decode cL_law 1045 = .ok (.iconst 1, 1) := by decide +kernel
theorem dL_law_1046 : decode cL_law 1046 = .ok (.iadd, 1) := by decide +kernel
theorem dL_law_1047 : decode cL_law 1047 = .ok (.iaload, 1) := by decide +kernel
theorem dL_law_1048 : decode cL_law 1048 = .ok (.aload_n 0, 1) := by decide +kernel
theorem dL_law_1049 : decode cL_law 1049 = .ok (.iload_n 3, 1) := by decide +kernel
theorem dL_law_1050 : decode cL_law 1050 = .ok (.iconst 2, 1) := by decide +kernel
theorem dL_law_1051 : decode cL_law 1051 = .ok (.iadd, 1) := by decide +kernel
theorem dL_law_1052 : decode cL_law 1052 = .ok (.iaload, 1) := by decide +kernel
theorem dL_law_1053 : decode cL_law 1053 = .ok (.invokevirtual 128, 3) := by decide +kernel
theorem dL_law_1056 : decode cL_law 1056 = .ok (.if_icmp .eq 54, 3) := by decide +kernel
theorem dL_law_1059 : decode cL_law 1059 = .ok (.iconst 0, 1) := by decide +kernel
theorem dL_law_1060 : decode cL_law 1060 = .ok (.ireturn, 1) := by decide +kernel
theorem dL_law_1061 : decode cL_law 1061 = .ok (.aload_n 1, 1) := by decide +kernel
theorem dL_law_1062 : decode cL_law 1062 = .ok (.invokevirtual 129, 3) := by decide +kernel
theorem dL_law_1065 : decode cL_law 1065 = .ok (.aload_n 2, 1) := by decide +kernel
theorem dL_law_1066 : decode cL_law 1066 = .ok (.invokevirtual 132, 3) := by decide +kernel
theorem dL_law_1069 : decode cL_law 1069 = .ok (.if_icmp .eq 41, 3) := by decide +kernel
theorem dL_law_1072 : decode cL_law 1072 = .ok (.iconst 0, 1) := by decide +kernel
theorem dL_law_1073 : decode cL_law 1073 = .ok (.ireturn, 1) := by decide +kernel
theorem dL_law_1074 : decode cL_law 1074 = .ok (.aload_n 1, 1) := by decide +kernel
theorem dL_law_1075 : decode cL_law 1075 = .ok (.invokevirtual 133, 3) := by decide +kernel
theorem dL_law_1078 : decode cL_law 1078 = .ok (.aload_n 2, 1) := by decide +kernel
theorem dL_law_1079 : decode cL_law 1079 = .ok (.invokevirtual 136, 3) := by decide +kernel
theorem dL_law_1082 : decode cL_law 1082 = .ok (.if_icmp .eq 28, 3) := by decide +kernel
theorem dL_law_1085 : decode cL_law 1085 = .ok (.iconst 0, 1) := by decide +kernel
theorem dL_law_1086 : decode cL_law 1086 = .ok (.ireturn, 1) := by decide +kernel
theorem dL_law_1087 : decode cL_law 1087 = .ok (.aload_n 1, 1) := by decide +kernel
theorem dL_law_1088 : decode cL_law 1088 = .ok (.aload_n 0, 1) := by decide +kernel
theorem dL_law_1089 : decode cL_law 1089 = .ok (.iload_n 3, 1) := by decide +kernel
theorem dL_law_1090 : decode cL_law 1090 = .ok (.iconst 1, 1) := by decide +kernel
theorem dL_law_1091 : decode cL_law 1091 = .ok (.iadd, 1) := by decide +kernel
theorem dL_law_1092 : decode cL_law 1092 = .ok (.iaload, 1) := by decide +kernel
theorem dL_law_1093 : decode cL_law 1093 = .ok (.invokevirtual 137, 3) := by decide +kernel
theorem dL_law_1096 : decode cL_law 1096 = .ok (.aload_n 2, 1) := by decide +kernel
theorem dL_law_1097 : decode cL_law 1097 = .ok (.aload_n 0, 1) := by decide +kernel
theorem dL_law_1098 : decode cL_law 1098 = .ok (.iload_n 3, 1) := by decide +kernel
theorem dL_law_1099 : decode cL_law 1099 = .ok (.iconst 1, 1) := by decide +kernel
theorem dL_law_1100 : decode cL_law 1100 = .ok (.iadd, 1) := by decide +kernel
theorem dL_law_1101 : decode cL_law 1101 = .ok (.iaload, 1) := by decide +kernel
theorem dL_law_1102 : decode cL_law 1102 = .ok (.invokevirtual 140, 3) := by decide +kernel
theorem dL_law_1105 : decode cL_law 1105 = .ok (.if_icmp .eq 5, 3) := by decide +kernel
theorem dL_law_1108 : decode cL_law 1108 = .ok (.iconst 0, 1) := by decide +kernel
theorem dL_law_1109 : decode cL_law 1109 = .ok (.ireturn, 1) := by decide +kernel
theorem dL_law_1110 : decode cL_law 1110 = .ok (.iinc 3 6, 3) := by decide +kernel
theorem dL_law_1113 : decode cL_law 1113 = .ok (.goto (-1095), 3) := by decide +kernel
theorem dL_law_1116 : decode cL_law 1116 = .ok (.iconst 1, 1) := by decide +kernel
theorem dL_law_1117 : decode cL_law 1117 = .ok (.ireturn, 1) := by decide +kernel
