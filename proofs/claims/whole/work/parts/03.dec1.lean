theorem dX6_wire_38 : decode cX6_wire 38 = .ok (.iastore, 1) := by decide +kernel
theorem dX6_wire_39 : decode cX6_wire 39 = .ok (.aload_n 0, 1) := by decide +kernel
theorem dX6_wire_40 : decode cX6_wire 40 = .ok (.getfield 28, 3) := by decide +kernel
theorem dX6_wire_43 : decode cX6_wire 43 = .ok (.invokevirtual 95, 3) := by decide +kernel
theorem dX6_wire_46 : decode cX6_wire 46 = .ok (.aload_n 0, 1) := by decide +kernel
theorem dX6_wire_47 : decode cX6_wire 47 = .ok (.getfield 14, 3) := by decide +kernel
theorem dX6_wire_50 : decode cX6_wire 50 = .ok (.iload_n 1, 1) := by decide +kernel
theorem dX6_wire_51 : decode cX6_wire 51 = .ok (.iload_n 2, 1) := by decide +kernel
theorem dX6_wire_52 : decode cX6_wire 52 = .ok (.invokevirtual 138, 3) := by decide +kernel
theorem dX6_wire_55 : decode cX6_wire 55 = .ok (.ifCond .eq 7, 3) := by decide +kernel
theorem dX6_wire_58 : decode cX6_wire 58 = .ok (.iconst 1, 1) := by decide +kernel
theorem dX6_wire_59 : decode cX6_wire 59 = .ok (.goto 4, 3) := by decide +kernel
theorem dX6_wire_62 : decode cX6_wire 62 = .ok (.iconst 0, 1) := by decide +kernel
theorem dX6_wire_63 : decode cX6_wire 63 = .ok (.ireturn, 1) := by decide +kernel
theorem dX6_press_0 : decode cX6_press 0 = .ok (.aload_n 0, 1) := by decide +kernel
theorem dX6_press_1 : decode cX6_press 1 = .ok (.getfield 14, 3) := by decide +kernel
theorem dX6_press_4 : decode cX6_press 4 = .ok (.iload_n 1, 1) := by decide +kernel
theorem dX6_press_5 : decode cX6_press 5 = .ok (.invokevirtual 113, 3) := by decide +kernel
theorem dX6_press_8 : decode cX6_press 8 = .ok (.ifCond .ne 5, 3) := by decide +kernel
theorem dX6_press_11 : decode cX6_press 11 = .ok (.iconst (-1), 1) := by decide +kernel
theorem dX6_press_12 : decode cX6_press 12 = .ok (.ireturn, 1) := by decide +kernel
theorem dX6_press_13 : decode cX6_press 13 = .ok (.iload_n 2, 1) := by decide +kernel
theorem dX6_press_14 : decode cX6_press 14 = .ok (.iconst 1, 1) := by decide +kernel
theorem dX6_press_15 : decode cX6_press 15 = .ok (.bipush 99, 2) := by decide +kernel
theorem dX6_press_17 : decode cX6_press 17 = .ok (.invokestatic 134, 3) := by decide +kernel
theorem dX6_press_20 : decode cX6_press 20 = .ok (.ifCond .ne 6, 3) := by decide +kernel
theorem dX6_press_23 : decode cX6_press 23 = .ok (.bipush (-2), 2) := by decide +kernel
theorem dX6_press_25 : decode cX6_press 25 = .ok (.ireturn, 1) := by decide +kernel
theorem dX6_press_26 : decode cX6_press 26 = .ok (.aload_n 0, 1) := by decide +kernel
theorem dX6_press_27 : decode cX6_press 27 = .ok (.getfield 14, 3) := by decide +kernel
theorem dX6_press_30 : decode cX6_press 30 = .ok (.aload_n 0, 1) := by decide +kernel
theorem dX6_press_31 : decode cX6_press 31 = .ok (.getfield 14, 3) := by decide +kernel
theorem dX6_press_34 : decode cX6_press 34 = .ok (.getfield 107, 3) := by decide +kernel
theorem dX6_press_37 : decode cX6_press 37 = .ok (.iload_n 1, 1) := by decide +kernel
theorem dX6_press_38 : decode cX6_press 38 = .ok (.iload_n 2, 1) := by decide +kernel
theorem dX6_press_39 : decode cX6_press 39 = .ok (.invokevirtual 141, 3) := by decide +kernel
theorem dX6_press_42 : decode cX6_press 42 = .ok (.aload_n 0, 1) := by decide +kernel
theorem dX6_press_43 : decode cX6_press 43 = .ok (.getfield 14, 3) := by decide +kernel
theorem dX6_press_46 : decode cX6_press 46 = .ok (.getfield 128, 3) := by decide +kernel
theorem dX6_press_49 : decode cX6_press 49 = .ok (.iload_n 1, 1) := by decide +kernel
theorem dX6_press_50 : decode cX6_press 50 = .ok (.dup2, 1) := by decide +kernel
theorem dX6_press_51 : decode cX6_press 51 = .ok (.iaload, 1) := by decide +kernel
theorem dX6_press_52 : decode cX6_press 52 = .ok (.iload_n 2, 1) := by decide +kernel
theorem dX6_press_53 : decode cX6_press 53 = .ok (.iadd, 1) := by decide +kernel
theorem dX6_press_54 : decode cX6_press 54 = .ok (.iastore, 1) := by decide +kernel
theorem dX6_press_55 : decode cX6_press 55 = .ok (.aload_n 0, 1) := by decide +kernel
theorem dX6_press_56 : decode cX6_press 56 = .ok (.getfield 14, 3) := by decide +kernel
theorem dX6_press_59 : decode cX6_press 59 = .ok (.aload_n 0, 1) := by decide +kernel
theorem dX6_press_60 : decode cX6_press 60 = .ok (.getfield 14, 3) := by decide +kernel
theorem dX6_press_63 : decode cX6_press 63 = .ok (.getfield 107, 3) := by decide +kernel
theorem dX6_press_66 : decode cX6_press 66 = .ok (.invokevirtual 145, 3) := by decide +kernel
theorem dX6_press_69 : decode cX6_press 69 = .ok (.ireturn, 1) := by decide +kernel
theorem dX6_day_0 : decode cX6_day 0 = .ok (.aload_n 0, 1) := by decide +kernel
theorem dX6_day_1 : decode cX6_day 1 = .ok (.iconst 0, 1) := by decide +kernel
theorem dX6_day_2 : decode cX6_day 2 = .ok (.putfield 57, 3) := by decide +kernel
theorem dX6_day_5 : decode cX6_day 5 = .ok (.aload_n 0, 1) := by decide +kernel
theorem dX6_day_6 : decode cX6_day 6 = .ok (.iload_n 1, 1) := by decide +kernel
theorem dX6_day_7 : decode cX6_day 7 = .ok (.invokevirtual 61, 3) := by decide +kernel
theorem dX6_day_10 : decode cX6_day 10 = .ok (.astore 6, 2) := by decide +kernel
theorem dX6_day_12 : decode cX6_day 12 = .ok (.aload 6, 2) := by decide +kernel
theorem dX6_day_14 : decode cX6_day 14 = .ok (.ifnonnull 5, 3) := by decide +kernel
theorem dX6_day_17 : decode cX6_day 17 = .ok (.iconst (-1), 1) := by decide +kernel
theorem dX6_day_18 : decode cX6_day 18 = .ok (.ireturn, 1) := by decide +kernel
theorem dX6_day_19 : decode cX6_day 19 = .ok (.iload_n 2, 1) := by decide +kernel
theorem dX6_day_20 : decode cX6_day 20 = .ok (.invokestatic 65, 3) := by decide +kernel
theorem dX6_day_23 : decode cX6_day 23 = .ok (.ifCond .eq 22, 3) := by decide +kernel
theorem dX6_day_26 : decode cX6_day 26 = .ok (.iload 4, 2) := by decide +kernel
theorem dX6_day_28 : decode cX6_day 28 = .ok (.iconst 0, 1) := by decide +kernel
theorem dX6_day_29 : decode cX6_day 29 = .ok (.bipush 20, 2) := by decide +kernel
theorem dX6_day_31 : decode cX6_day 31 = .ok (.invokestatic 134, 3) := by decide +kernel
theorem dX6_day_34 : decode cX6_day 34 = .ok (.ifCond .eq 11, 3) := by decide +kernel
theorem dX6_day_37 : decode cX6_day 37 = .ok (.iload 5, 2) := by decide +kernel
theorem dX6_day_39 : decode cX6_day 39 = .ok (.invokestatic 149, 3) := by decide +kernel
theorem dX6_day_42 : decode cX6_day 42 = .ok (.ifCond .ne 6, 3) := by decide +kernel
theorem dX6_day_45 : decode cX6_day 45 = .ok (.bipush (-2), 2) := by decide +kernel
theorem dX6_day_47 : decode cX6_day 47 = .ok (.ireturn, 1) := by decide +kernel
theorem dX6_day_48 : decode cX6_day 48 = .ok (.aload 6, 2) := by decide +kernel
theorem dX6_day_50 : decode cX6_day 50 = .ok (.iload_n 2, 1) := by decide +kernel
theorem dX6_day_51 : decode cX6_day 51 = .ok (.iload_n 3, 1) := by decide +kernel
theorem dX6_day_52 : decode cX6_day 52 = .ok (.iconst 2, 1) := by decide +kernel
theorem dX6_day_53 : decode cX6_day 53 = .ok (.iload 4, 2) := by decide +kernel
theorem dX6_day_55 : decode cX6_day 55 = .ok (.imul, 1) := by decide +kernel
theorem dX6_day_56 : decode cX6_day 56 = .ok (.invokevirtual 152, 3) := by decide +kernel
theorem dX6_day_59 : decode cX6_day 59 = .ok (.istore 7, 2) := by decide +kernel
theorem dX6_day_61 : decode cX6_day 61 = .ok (.iload 7, 2) := by decide +kernel
theorem dX6_day_63 : decode cX6_day 63 = .ok (.ifCond .eq 10, 3) := by decide +kernel
theorem dX6_day_66 : decode cX6_day 66 = .ok (.aload_n 0, 1) := by decide +kernel
theorem dX6_day_67 : decode cX6_day 67 = .ok (.iload 7, 2) := by decide +kernel
theorem dX6_day_69 : decode cX6_day 69 = .ok (.invokevirtual 77, 3) := by decide +kernel
theorem dX6_day_72 : decode cX6_day 72 = .ok (.ireturn, 1) := by decide +kernel
theorem dX6_day_73 : decode cX6_day 73 = .ok (.aload_n 0, 1) := by decide +kernel
theorem dX6_day_74 : decode cX6_day 74 = .ok (.getfield 14, 3) := by decide +kernel
theorem dX6_day_77 : decode cX6_day 77 = .ok (.invokevirtual 156, 3) := by decide +kernel
theorem dX6_day_80 : decode cX6_day 80 = .ok (.ifCond .eq 6, 3) := by decide +kernel
theorem dX6_day_83 : decode cX6_day 83 = .ok (.bipush (-3), 2) := by decide +kernel
theorem dX6_day_85 : decode cX6_day 85 = .ok (.ireturn, 1) := by decide +kernel
theorem dX6_day_86 : decode cX6_day 86 = .ok (.aload_n 0, 1) := by decide +kernel
theorem dX6_day_87 : decode cX6_day 87 = .ok (.aload 6, 2) := by decide +kernel
theorem dX6_day_89 : decode cX6_day 89 = .ok (.iload_n 3, 1) := by decide +kernel
theorem dX6_day_90 : decode cX6_day 90 = .ok (.iload 4, 2) := by decide +kernel
theorem dX6_day_92 : decode cX6_day 92 = .ok (.invokevirtual 160, 3) := by decide +kernel
theorem dX6_day_95 : decode cX6_day 95 = .ok (.istore 8, 2) := by decide +kernel
theorem dX6_day_97 : decode cX6_day 97 = .ok (.iload 8, 2) := by decide +kernel
theorem dX6_day_99 : decode cX6_day 99 = .ok (.ifCond .eq 6, 3) := by decide +kernel
theorem dX6_day_102 : decode cX6_day 102 = .ok (.iload 8, 2) := by decide +kernel
theorem dX6_day_104 : decode cX6_day 104 = .ok (.ireturn, 1) := by decide +kernel
theorem dX6_day_105 : decode cX6_day 105 = .ok (.aload_n 0, 1) := by decide +kernel
theorem dX6_day_106 : decode cX6_day 106 = .ok (.getfield 42, 3) := by decide +kernel
theorem dX6_day_109 : decode cX6_day 109 = .ok (.aload_n 0, 1) := by decide +kernel
theorem dX6_day_110 : decode cX6_day 110 = .ok (.getfield 14, 3) := by decide +kernel
theorem dX6_day_113 : decode cX6_day 113 = .ok (.aload 6, 2) := by decide +kernel
theorem dX6_day_115 : decode cX6_day 115 = .ok (.iload_n 3, 1) := by decide +kernel
theorem dX6_day_116 : decode cX6_day 116 = .ok (.iload 4, 2) := by decide +kernel
theorem dX6_day_118 : decode cX6_day 118 = .ok (.invokevirtual 164, 3) := by decide +kernel
theorem dX6_day_121 : decode cX6_day 121 = .ok (.aload_n 0, 1) := by decide +kernel
theorem dX6_day_122 : decode cX6_day 122 = .ok (.iload 5, 2) := by decide +kernel
theorem dX6_day_124 : decode cX6_day 124 = .ok (.invokevirtual 168, 3) := by decide +kernel
theorem dX6_day_127 : decode cX6_day 127 = .ok (.ireturn, 1) := by decide +kernel
theorem dX6_isAskedOfDay_0 : decode cX6_isAskedOfDay 0 = .ok (.iload_n 0, 1) := by decide +kernel
theorem dX6_isAskedOfDay_1 : decode cX6_isAskedOfDay 1 = .ok (.iconst 0, 1) := by decide +kernel
theorem dX6_isAskedOfDay_2 : decode cX6_isAskedOfDay 2 = .ok (.iconst 4, 1) := by decide +kernel
theorem dX6_isAskedOfDay_3 : decode cX6_isAskedOfDay 3 = .ok (.invokestatic 134, 3) := by decide +kernel
theorem dX6_isAskedOfDay_6 : decode cX6_isAskedOfDay 6 = .ok (.ifCond .ne 14, 3) := by decide +kernel
theorem dX6_isAskedOfDay_9 : decode cX6_isAskedOfDay 9 = .ok (.iload_n 0, 1) := by decide +kernel
theorem dX6_isAskedOfDay_10 : decode cX6_isAskedOfDay 10 = .ok (.bipush 10, 2) := by decide +kernel
theorem dX6_isAskedOfDay_12 : decode cX6_isAskedOfDay 12 = .ok (.bipush 14, 2) := by decide +kernel
theorem dX6_isAskedOfDay_14 : decode cX6_isAskedOfDay 14 = .ok (.invokestatic 134, 3) := by decide +kernel
theorem dX6_isAskedOfDay_17 : decode cX6_isAskedOfDay 17 = .ok (.ifCond .eq 7, 3) := by decide +kernel
theorem dX6_isAskedOfDay_20 : decode cX6_isAskedOfDay 20 = .ok (.iconst 1, 1) := by decide +kernel
theorem dX6_isAskedOfDay_21 : decode cX6_isAskedOfDay 21 = .ok (.goto 4, 3) := by decide +kernel
theorem dX6_isAskedOfDay_24 : decode cX6_isAskedOfDay 24 = .ok (.iconst 0, 1) := by decide +kernel
theorem dX6_isAskedOfDay_25 : decode cX6_isAskedOfDay 25 = .ok (.ireturn, 1) := by decide +kernel
theorem dX6_refusalOfPairs_0 : decode cX6_refusalOfPairs 0 = .ok (.iconst 0, 1) := by decide +kernel
theorem dX6_refusalOfPairs_1 : decode cX6_refusalOfPairs 1 = .ok (.istore 4, 2) := by decide +kernel
theorem dX6_refusalOfPairs_3 : decode cX6_refusalOfPairs 3 = .ok (.iload 4, 2) := by decide +kernel
theorem dX6_refusalOfPairs_5 : decode cX6_refusalOfPairs 5 = .ok (.iload_n 3, 1) := by decide +kernel
theorem dX6_refusalOfPairs_6 : decode cX6_refusalOfPairs 6 = .ok (.if_icmp .ge 45, 3) := by decide +kernel
theorem dX6_refusalOfPairs_9 : decode cX6_refusalOfPairs 9 = .ok (.aload_n 0, 1) := by decide +kernel
theorem dX6_refusalOfPairs_10 : decode cX6_refusalOfPairs 10 = .ok (.aload_n 1, 1) := by decide +kernel
theorem dX6_refusalOfPairs_11 : decode cX6_refusalOfPairs 11 = .ok (.iload_n 2, 1) := by decide +kernel
theorem dX6_refusalOfPairs_12 : decode cX6_refusalOfPairs 12 = .ok (.iconst 2, 1) := by decide +kernel
theorem dX6_refusalOfPairs_13 : decode cX6_refusalOfPairs 13 = .ok (.iload 4, 2) := by decide +kernel
theorem dX6_refusalOfPairs_15 : decode cX6_refusalOfPairs 15 = .ok (.imul, 1) := by decide +kernel
theorem dX6_refusalOfPairs_16 : decode cX6_refusalOfPairs 16 = .ok (.iadd, 1) := by decide +kernel
theorem dX6_refusalOfPairs_17 : decode cX6_refusalOfPairs 17 = .ok (.invokevirtual 171, 3) := by decide +kernel
theorem dX6_refusalOfPairs_20 : decode cX6_refusalOfPairs 20 = .ok (.aload_n 1, 1) := by decide +kernel
theorem dX6_refusalOfPairs_21 : decode cX6_refusalOfPairs 21 = .ok (.iload_n 2, 1) := by decide +kernel
theorem dX6_refusalOfPairs_22 : decode cX6_refusalOfPairs 22 = .ok (.iconst 2, 1) := by decide +kernel
theorem dX6_refusalOfPairs_23 : decode cX6_refusalOfPairs 23 = .ok (.iload 4, 2) := by decide +kernel
theorem dX6_refusalOfPairs_25 : decode cX6_refusalOfPairs 25 = .ok (.imul, 1) := by decide +kernel
theorem dX6_refusalOfPairs_26 : decode cX6_refusalOfPairs 26 = .ok (.iadd, 1) := by decide +kernel
theorem dX6_refusalOfPairs_27 : decode cX6_refusalOfPairs 27 = .ok (.iconst 1, 1) := by decide +kernel
theorem dX6_refusalOfPairs_28 : decode cX6_refusalOfPairs 28 = .ok (.iadd, 1) := by decide +kernel
theorem dX6_refusalOfPairs_29 : decode cX6_refusalOfPairs 29 = .ok (.invokevirtual 171, 3) := by decide +kernel
theorem dX6_refusalOfPairs_32 : decode cX6_refusalOfPairs 32 = .ok (.invokevirtual 174, 3) := by decide +kernel
theorem dX6_refusalOfPairs_35 : decode cX6_refusalOfPairs 35 = .ok (.istore 5, 2) := by decide +kernel
theorem dX6_refusalOfPairs_37 : decode cX6_refusalOfPairs 37 = .ok (.iload 5, 2) := by decide +kernel
theorem dX6_refusalOfPairs_39 : decode cX6_refusalOfPairs 39 = .ok (.ifCond .eq 6, 3) := by decide +kernel
theorem dX6_refusalOfPairs_42 : decode cX6_refusalOfPairs 42 = .ok (.iload 5, 2) := by decide +kernel
theorem dX6_refusalOfPairs_44 : decode cX6_refusalOfPairs 44 = .ok (.ireturn, 1) := by decide +kernel
theorem dX6_refusalOfPairs_45 : decode cX6_refusalOfPairs 45 = .ok (.iinc 4 1, 3) := by decide +kernel
theorem dX6_refusalOfPairs_48 : decode cX6_refusalOfPairs 48 = .ok (.goto (-45), 3) := by decide +kernel
theorem dX6_refusalOfPairs_51 : decode cX6_refusalOfPairs 51 = .ok (.iconst 0, 1) := by decide +kernel
theorem dX6_refusalOfPairs_52 : decode cX6_refusalOfPairs 52 = .ok (.ireturn, 1) := by decide +kernel
theorem dX6_refusalOfPair_0 : decode cX6_refusalOfPair 0 = .ok (.iload_n 2, 1) := by decide +kernel
theorem dX6_refusalOfPair_1 : decode cX6_refusalOfPair 1 = .ok (.iconst 0, 1) := by decide +kernel
theorem dX6_refusalOfPair_2 : decode cX6_refusalOfPair 2 = .ok (.bipush 14, 2) := by decide +kernel
theorem dX6_refusalOfPair_4 : decode cX6_refusalOfPair 4 = .ok (.invokestatic 134, 3) := by decide +kernel
theorem dX6_refusalOfPair_7 : decode cX6_refusalOfPair 7 = .ok (.ifCond .ne 6, 3) := by decide +kernel
theorem dX6_refusalOfPair_10 : decode cX6_refusalOfPair 10 = .ok (.bipush (-2), 2) := by decide +kernel
theorem dX6_refusalOfPair_12 : decode cX6_refusalOfPair 12 = .ok (.ireturn, 1) := by decide +kernel
theorem dX6_refusalOfPair_13 : decode cX6_refusalOfPair 13 = .ok (.iload_n 2, 1) := by decide +kernel
theorem dX6_refusalOfPair_14 : decode cX6_refusalOfPair 14 = .ok (.bipush 10, 2) := by decide +kernel
theorem dX6_refusalOfPair_16 : decode cX6_refusalOfPair 16 = .ok (.if_icmp .lt 19, 3) := by decide +kernel
theorem dX6_refusalOfPair_19 : decode cX6_refusalOfPair 19 = .ok (.iload_n 1, 1) := by decide +kernel
theorem dX6_refusalOfPair_20 : decode cX6_refusalOfPair 20 = .ok (.iconst 0, 1) := by decide +kernel
theorem dX6_refusalOfPair_21 : decode cX6_refusalOfPair 21 = .ok (.iconst 4, 1) := by decide +kernel
theorem dX6_refusalOfPair_22 : decode cX6_refusalOfPair 22 = .ok (.invokestatic 134, 3) := by decide +kernel
theorem dX6_refusalOfPair_25 : decode cX6_refusalOfPair 25 = .ok (.ifCond .eq 7, 3) := by decide +kernel
theorem dX6_refusalOfPair_28 : decode cX6_refusalOfPair 28 = .ok (.iconst 0, 1) := by decide +kernel
theorem dX6_refusalOfPair_29 : decode cX6_refusalOfPair 29 = .ok (.goto 5, 3) := by decide +kernel
theorem dX6_refusalOfPair_32 : decode cX6_refusalOfPair 32 = .ok (.bipush (-2), 2) := by decide +kernel
theorem dX6_refusalOfPair_34 : decode cX6_refusalOfPair 34 = .ok (.ireturn, 1) := by decide +kernel
theorem dX6_refusalOfPair_35 : decode cX6_refusalOfPair 35 = .ok (.aload_n 0, 1) := by decide +kernel
theorem dX6_refusalOfPair_36 : decode cX6_refusalOfPair 36 = .ok (.getfield 14, 3) := by decide +kernel
theorem dX6_refusalOfPair_39 : decode cX6_refusalOfPair 39 = .ok (.iload_n 1, 1) := by decide +kernel
theorem dX6_refusalOfPair_40 : decode cX6_refusalOfPair 40 = .ok (.invokevirtual 113, 3) := by decide +kernel
theorem dX6_refusalOfPair_43 : decode cX6_refusalOfPair 43 = .ok (.ifCond .eq 7, 3) := by decide +kernel
theorem dX6_refusalOfPair_46 : decode cX6_refusalOfPair 46 = .ok (.iconst 0, 1) := by decide +kernel
theorem dX6_refusalOfPair_47 : decode cX6_refusalOfPair 47 = .ok (.goto 4, 3) := by decide +kernel
theorem dX6_refusalOfPair_50 : decode cX6_refusalOfPair 50 = .ok (.iconst (-1), 1) := by decide +kernel
theorem dX6_refusalOfPair_51 : decode cX6_refusalOfPair 51 = .ok (.ireturn, 1) := by decide +kernel
theorem dX6_ofDay_0 : decode cX6_ofDay 0 = .ok (.iload_n 1, 1) := by decide +kernel
theorem dX6_ofDay_1 : decode cX6_ofDay 1 = .ok (.iconst 1, 1) := by decide +kernel
theorem dX6_ofDay_2 : decode cX6_ofDay 2 = .ok (.if_icmp .ne 11, 3) := by decide +kernel
theorem dX6_ofDay_5 : decode cX6_ofDay 5 = .ok (.aload_n 0, 1) := by decide +kernel
theorem dX6_ofDay_6 : decode cX6_ofDay 6 = .ok (.getfield 42, 3) := by decide +kernel
theorem dX6_ofDay_9 : decode cX6_ofDay 9 = .ok (.getfield 178, 3) := by decide +kernel
theorem dX6_ofDay_12 : decode cX6_ofDay 12 = .ok (.ireturn, 1) := by decide +kernel
theorem dX6_ofDay_13 : decode cX6_ofDay 13 = .ok (.aload_n 0, 1) := by decide +kernel
theorem dX6_ofDay_14 : decode cX6_ofDay 14 = .ok (.getfield 42, 3) := by decide +kernel
theorem dX6_ofDay_17 : decode cX6_ofDay 17 = .ok (.getfield 178, 3) := by decide +kernel
theorem dX6_ofDay_20 : decode cX6_ofDay 20 = .ok (.bipush (-9), 2) := by decide +kernel
theorem dX6_ofDay_22 : decode cX6_ofDay 22 = .ok (.if_icmp .eq 14, 3) := by decide +kernel
theorem dX6_ofDay_25 : decode cX6_ofDay 25 = .ok (.bipush (-100), 2) := by decide +kernel
theorem dX6_ofDay_27 : decode cX6_ofDay 27 = .ok (.aload_n 0, 1) := by decide +kernel
theorem dX6_ofDay_28 : decode cX6_ofDay 28 = .ok (.getfield 42, 3) := by decide +kernel
theorem dX6_ofDay_31 : decode cX6_ofDay 31 = .ok (.getfield 178, 3) := by decide +kernel
theorem dX6_ofDay_34 : decode cX6_ofDay 34 = .ok (.isub, 1) := by decide +kernel
theorem dX6_ofDay_35 : decode cX6_ofDay 35 = .ok (.ireturn, 1) := by decide +kernel
theorem dX6_ofDay_36 : decode cX6_ofDay 36 = .ok (.iload_n 1, 1) := by decide +kernel
theorem dX6_ofDay_37 : decode cX6_ofDay 37 = .ok (.tableswitch 81 0 4 #[35, 81, 50, 65, 73], 35) := by decide +kernel
theorem dX6_ofDay_72 : decode cX6_ofDay 72 = .ok (.aload_n 0, 1) := by decide +kernel
theorem dX6_ofDay_73 : decode cX6_ofDay 73 = .ok (.getfield 14, 3) := by decide +kernel
theorem dX6_ofDay_76 : decode cX6_ofDay 76 = .ok (.aload_n 0, 1) := by decide +kernel
theorem dX6_ofDay_77 : decode cX6_ofDay 77 = .ok (.getfield 42, 3) := by decide +kernel
theorem dX6_ofDay_80 : decode cX6_ofDay 80 = .ok (.getfield 181, 3) := by decide +kernel
theorem dX6_ofDay_83 : decode cX6_ofDay 83 = .ok (.invokevirtual 145, 3) := by decide +kernel
theorem dX6_ofDay_86 : decode cX6_ofDay 86 = .ok (.ireturn, 1) := by decide +kernel
theorem dX6_ofDay_87 : decode cX6_ofDay 87 = .ok (.aload_n 0, 1) := by decide +kernel
theorem dX6_ofDay_88 : decode cX6_ofDay 88 = .ok (.getfield 14, 3) := by decide +kernel
theorem dX6_ofDay_91 : decode cX6_ofDay 91 = .ok (.aload_n 0, 1) := by decide +kernel
theorem dX6_ofDay_92 : decode cX6_ofDay 92 = .ok (.getfield 42, 3) := by decide +kernel
theorem dX6_ofDay_95 : decode cX6_ofDay 95 = .ok (.getfield 181, 3) := by decide +kernel
theorem dX6_ofDay_98 : decode cX6_ofDay 98 = .ok (.invokevirtual 184, 3) := by decide +kernel
theorem dX6_ofDay_101 : decode cX6_ofDay 101 = .ok (.ireturn, 1) := by decide +kernel
theorem dX6_ofDay_102 : decode cX6_ofDay 102 = .ok (.aload_n 0, 1) := by decide +kernel
theorem dX6_ofDay_103 : decode cX6_ofDay 103 = .ok (.getfield 42, 3) := by decide +kernel
theorem dX6_ofDay_106 : decode cX6_ofDay 106 = .ok (.getfield 187, 3) := by decide +kernel
theorem dX6_ofDay_109 : decode cX6_ofDay 109 = .ok (.ireturn, 1) := by decide +kernel
theorem dX6_ofDay_110 : decode cX6_ofDay 110 = .ok (.aload_n 0, 1) := by decide +kernel
theorem dX6_ofDay_111 : decode cX6_ofDay 111 = .ok (.getfield 42, 3) := by decide +kernel
theorem dX6_ofDay_114 : decode cX6_ofDay 114 = .ok (.getfield 190, 3) := by decide +kernel
theorem dX6_ofDay_117 : decode cX6_ofDay 117 = .ok (.ireturn, 1) := by decide +kernel
theorem dX6_ofDay_118 : decode cX6_ofDay 118 = .ok (.iload_n 1, 1) := by decide +kernel
theorem dX6_ofDay_119 : decode cX6_ofDay 119 = .ok (.bipush 10, 2) := by decide +kernel
theorem dX6_ofDay_121 : decode cX6_ofDay 121 = .ok (.isub, 1) := by decide +kernel
theorem dX6_ofDay_122 : decode cX6_ofDay 122 = .ok (.istore_n 2, 1) := by decide +kernel
theorem dX6_ofDay_123 : decode cX6_ofDay 123 = .ok (.aload_n 0, 1) := by decide +kernel
theorem dX6_ofDay_124 : decode cX6_ofDay 124 = .ok (.getfield 14, 3) := by decide +kernel
theorem dX6_ofDay_127 : decode cX6_ofDay 127 = .ok (.iload_n 2, 1) := by decide +kernel
theorem dX6_ofDay_128 : decode cX6_ofDay 128 = .ok (.invokevirtual 101, 3) := by decide +kernel
theorem dX6_ofDay_131 : decode cX6_ofDay 131 = .ok (.ifCond .eq 15, 3) := by decide +kernel
theorem dX6_ofDay_134 : decode cX6_ofDay 134 = .ok (.aload_n 0, 1) := by decide +kernel
theorem dX6_ofDay_135 : decode cX6_ofDay 135 = .ok (.getfield 42, 3) := by decide +kernel
theorem dX6_ofDay_138 : decode cX6_ofDay 138 = .ok (.getfield 181, 3) := by decide +kernel
theorem dX6_ofDay_141 : decode cX6_ofDay 141 = .ok (.iload_n 2, 1) := by decide +kernel
theorem dX6_ofDay_142 : decode cX6_ofDay 142 = .ok (.iaload, 1) := by decide +kernel
theorem dX6_ofDay_143 : decode cX6_ofDay 143 = .ok (.goto 5, 3) := by decide +kernel
theorem dX6_ofDay_146 : decode cX6_ofDay 146 = .ok (.bipush (-9), 2) := by decide +kernel
theorem dX6_ofDay_148 : decode cX6_ofDay 148 = .ok (.ireturn, 1) := by decide +kernel
theorem dX6_fewest_0 : decode cX6_fewest 0 = .ok (.aload_n 0, 1) := by decide +kernel
theorem dX6_fewest_1 : decode cX6_fewest 1 = .ok (.iconst 0, 1) := by decide +kernel
theorem dX6_fewest_2 : decode cX6_fewest 2 = .ok (.putfield 57, 3) := by decide +kernel
theorem dX6_fewest_5 : decode cX6_fewest 5 = .ok (.aload_n 0, 1) := by decide +kernel
theorem dX6_fewest_6 : decode cX6_fewest 6 = .ok (.getfield 14, 3) := by decide +kernel
theorem dX6_fewest_9 : decode cX6_fewest 9 = .ok (.invokevirtual 156, 3) := by decide +kernel
theorem dX6_fewest_12 : decode cX6_fewest 12 = .ok (.ifCond .eq 6, 3) := by decide +kernel
theorem dX6_fewest_15 : decode cX6_fewest 15 = .ok (.bipush (-3), 2) := by decide +kernel
theorem dX6_fewest_17 : decode cX6_fewest 17 = .ok (.ireturn, 1) := by decide +kernel
theorem dX6_fewest_18 : decode cX6_fewest 18 = .ok (.aload_n 0, 1) := by decide +kernel
theorem dX6_fewest_19 : decode cX6_fewest 19 = .ok (.iload_n 1, 1) := by decide +kernel
theorem dX6_fewest_20 : decode cX6_fewest 20 = .ok (.invokevirtual 61, 3) := by decide +kernel
theorem dX6_fewest_23 : decode cX6_fewest 23 = .ok (.astore 5, 2) := by decide +kernel
theorem dX6_fewest_25 : decode cX6_fewest 25 = .ok (.aload 5, 2) := by decide +kernel
theorem dX6_fewest_27 : decode cX6_fewest 27 = .ok (.ifnonnull 5, 3) := by decide +kernel
theorem dX6_fewest_30 : decode cX6_fewest 30 = .ok (.iconst (-1), 1) := by decide +kernel
theorem dX6_fewest_31 : decode cX6_fewest 31 = .ok (.ireturn, 1) := by decide +kernel
theorem dX6_fewest_32 : decode cX6_fewest 32 = .ok (.iload_n 2, 1) := by decide +kernel
theorem dX6_fewest_33 : decode cX6_fewest 33 = .ok (.invokestatic 65, 3) := by decide +kernel
theorem dX6_fewest_36 : decode cX6_fewest 36 = .ok (.ifCond .eq 14, 3) := by decide +kernel
theorem dX6_fewest_39 : decode cX6_fewest 39 = .ok (.iload 4, 2) := by decide +kernel
theorem dX6_fewest_41 : decode cX6_fewest 41 = .ok (.iconst (-1), 1) := by decide +kernel
theorem dX6_fewest_42 : decode cX6_fewest 42 = .ok (.bipush 99, 2) := by decide +kernel
theorem dX6_fewest_44 : decode cX6_fewest 44 = .ok (.invokestatic 134, 3) := by decide +kernel
theorem dX6_fewest_47 : decode cX6_fewest 47 = .ok (.ifCond .ne 6, 3) := by decide +kernel
theorem dX6_fewest_50 : decode cX6_fewest 50 = .ok (.bipush (-2), 2) := by decide +kernel
theorem dX6_fewest_52 : decode cX6_fewest 52 = .ok (.ireturn, 1) := by decide +kernel
theorem dX6_fewest_53 : decode cX6_fewest 53 = .ok (.aload 5, 2) := by decide +kernel
theorem dX6_fewest_55 : decode cX6_fewest 55 = .ok (.iload_n 2, 1) := by decide +kernel
theorem dX6_fewest_56 : decode cX6_fewest 56 = .ok (.iload_n 3, 1) := by decide +kernel
theorem dX6_fewest_57 : decode cX6_fewest 57 = .ok (.aload_n 0, 1) := by decide +kernel
theorem dX6_fewest_58 : decode cX6_fewest 58 = .ok (.getfield 14, 3) := by decide +kernel
theorem dX6_fewest_61 : decode cX6_fewest 61 = .ok (.getfield 193, 3) := by decide +kernel
theorem dX6_fewest_64 : decode cX6_fewest 64 = .ok (.invokevirtual 152, 3) := by decide +kernel
theorem dX6_fewest_67 : decode cX6_fewest 67 = .ok (.istore 6, 2) := by decide +kernel
theorem dX6_fewest_69 : decode cX6_fewest 69 = .ok (.iload 6, 2) := by decide +kernel
theorem dX6_fewest_71 : decode cX6_fewest 71 = .ok (.ifCond .eq 10, 3) := by decide +kernel
theorem dX6_fewest_74 : decode cX6_fewest 74 = .ok (.aload_n 0, 1) := by decide +kernel
theorem dX6_fewest_75 : decode cX6_fewest 75 = .ok (.iload 6, 2) := by decide +kernel
theorem dX6_fewest_77 : decode cX6_fewest 77 = .ok (.invokevirtual 77, 3) := by decide +kernel
theorem dX6_fewest_80 : decode cX6_fewest 80 = .ok (.ireturn, 1) := by decide +kernel
theorem dX6_fewest_81 : decode cX6_fewest 81 = .ok (.iconst 0, 1) := by decide +kernel
theorem dX6_fewest_82 : decode cX6_fewest 82 = .ok (.istore 7, 2) := by decide +kernel
theorem dX6_fewest_84 : decode cX6_fewest 84 = .ok (.iload 7, 2) := by decide +kernel
theorem dX6_fewest_86 : decode cX6_fewest 86 = .ok (.aload_n 0, 1) := by decide +kernel
theorem dX6_fewest_87 : decode cX6_fewest 87 = .ok (.getfield 14, 3) := by decide +kernel
theorem dX6_fewest_90 : decode cX6_fewest 90 = .ok (.getfield 193, 3) := by decide +kernel
theorem dX6_fewest_93 : decode cX6_fewest 93 = .ok (.if_icmp .ge 70, 3) := by decide +kernel
theorem dX6_fewest_96 : decode cX6_fewest 96 = .ok (.aload 5, 2) := by decide +kernel
theorem dX6_fewest_98 : decode cX6_fewest 98 = .ok (.iload_n 3, 1) := by decide +kernel
theorem dX6_fewest_99 : decode cX6_fewest 99 = .ok (.iload 7, 2) := by decide +kernel
theorem dX6_fewest_101 : decode cX6_fewest 101 = .ok (.iadd, 1) := by decide +kernel
theorem dX6_fewest_102 : decode cX6_fewest 102 = .ok (.invokevirtual 171, 3) := by decide +kernel
theorem dX6_fewest_105 : decode cX6_fewest 105 = .ok (.istore 8, 2) := by decide +kernel
theorem dX6_fewest_107 : decode cX6_fewest 107 = .ok (.aload_n 0, 1) := by decide +kernel
theorem dX6_fewest_108 : decode cX6_fewest 108 = .ok (.getfield 14, 3) := by decide +kernel
theorem dX6_fewest_111 : decode cX6_fewest 111 = .ok (.iload 7, 2) := by decide +kernel
theorem dX6_fewest_113 : decode cX6_fewest 113 = .ok (.iload 8, 2) := by decide +kernel
theorem dX6_fewest_115 : decode cX6_fewest 115 = .ok (.invokevirtual 131, 3) := by decide +kernel
theorem dX6_fewest_118 : decode cX6_fewest 118 = .ok (.ifCond .ne 6, 3) := by decide +kernel
theorem dX6_fewest_121 : decode cX6_fewest 121 = .ok (.bipush (-2), 2) := by decide +kernel
theorem dX6_fewest_123 : decode cX6_fewest 123 = .ok (.ireturn, 1) := by decide +kernel
theorem dX6_fewest_124 : decode cX6_fewest 124 = .ok (.aload_n 0, 1) := by decide +kernel
theorem dX6_fewest_125 : decode cX6_fewest 125 = .ok (.getfield 52, 3) := by decide +kernel
theorem dX6_fewest_128 : decode cX6_fewest 128 = .ok (.iload 7, 2) := by decide +kernel
theorem dX6_fewest_130 : decode cX6_fewest 130 = .ok (.iload 8, 2) := by decide +kernel
theorem dX6_fewest_132 : decode cX6_fewest 132 = .ok (.aload_n 0, 1) := by decide +kernel
theorem dX6_fewest_133 : decode cX6_fewest 133 = .ok (.getfield 14, 3) := by decide +kernel
theorem dX6_fewest_136 : decode cX6_fewest 136 = .ok (.getfield 107, 3) := by decide +kernel
theorem dX6_fewest_139 : decode cX6_fewest 139 = .ok (.iload 7, 2) := by decide +kernel
theorem dX6_fewest_141 : decode cX6_fewest 141 = .ok (.iaload, 1) := by decide +kernel
theorem dX6_fewest_142 : decode cX6_fewest 142 = .ok (.isub, 1) := by decide +kernel
theorem dX6_fewest_143 : decode cX6_fewest 143 = .ok (.aload_n 0, 1) := by decide +kernel
theorem dX6_fewest_144 : decode cX6_fewest 144 = .ok (.getfield 14, 3) := by decide +kernel
theorem dX6_fewest_147 : decode cX6_fewest 147 = .ok (.getfield 104, 3) := by decide +kernel
theorem dX6_fewest_150 : decode cX6_fewest 150 = .ok (.iload 7, 2) := by decide +kernel
theorem dX6_fewest_152 : decode cX6_fewest 152 = .ok (.iaload, 1) := by decide +kernel
theorem dX6_fewest_153 : decode cX6_fewest 153 = .ok (.invokestatic 196, 3) := by decide +kernel
theorem dX6_fewest_156 : decode cX6_fewest 156 = .ok (.iastore, 1) := by decide +kernel
theorem dX6_fewest_157 : decode cX6_fewest 157 = .ok (.iinc 7 1, 3) := by decide +kernel
theorem dX6_fewest_160 : decode cX6_fewest 160 = .ok (.goto (-76), 3) := by decide +kernel
theorem dX6_fewest_163 : decode cX6_fewest 163 = .ok (.iload 4, 2) := by decide +kernel
theorem dX6_fewest_165 : decode cX6_fewest 165 = .ok (.iconst (-1), 1) := by decide +kernel
theorem dX6_fewest_166 : decode cX6_fewest 166 = .ok (.if_icmp .ne 21, 3) := by decide +kernel
theorem dX6_fewest_169 : decode cX6_fewest 169 = .ok (.aload_n 0, 1) := by decide +kernel
theorem dX6_fewest_170 : decode cX6_fewest 170 = .ok (.getfield 28, 3) := by decide +kernel
theorem dX6_fewest_173 : decode cX6_fewest 173 = .ok (.aload_n 0, 1) := by decide +kernel
theorem dX6_fewest_174 : decode cX6_fewest 174 = .ok (.getfield 14, 3) := by decide +kernel
theorem dX6_fewest_177 : decode cX6_fewest 177 = .ok (.aload_n 0, 1) := by decide +kernel
theorem dX6_fewest_178 : decode cX6_fewest 178 = .ok (.getfield 52, 3) := by decide +kernel
theorem dX6_fewest_181 : decode cX6_fewest 181 = .ok (.invokevirtual 199, 3) := by decide +kernel
theorem dX6_fewest_184 : decode cX6_fewest 184 = .ok (.goto 20, 3) := by decide +kernel
theorem dX6_fewest_187 : decode cX6_fewest 187 = .ok (.aload_n 0, 1) := by decide +kernel
theorem dX6_fewest_188 : decode cX6_fewest 188 = .ok (.getfield 28, 3) := by decide +kernel
theorem dX6_fewest_191 : decode cX6_fewest 191 = .ok (.aload_n 0, 1) := by decide +kernel
theorem dX6_fewest_192 : decode cX6_fewest 192 = .ok (.getfield 14, 3) := by decide +kernel
theorem dX6_fewest_195 : decode cX6_fewest 195 = .ok (.aload_n 0, 1) := by decide +kernel
theorem dX6_fewest_196 : decode cX6_fewest 196 = .ok (.getfield 52, 3) := by decide +kernel
theorem dX6_fewest_199 : decode cX6_fewest 199 = .ok (.iload 4, 2) := by decide +kernel
theorem dX6_fewest_201 : decode cX6_fewest 201 = .ok (.invokevirtual 203, 3) := by decide +kernel
theorem dX6_fewest_204 : decode cX6_fewest 204 = .ok (.ireturn, 1) := by decide +kernel
theorem dX6_halls_0 : decode cX6_halls 0 = .ok (.aload_n 0, 1) := by decide +kernel
theorem dX6_halls_1 : decode cX6_halls 1 = .ok (.getfield 14, 3) := by decide +kernel
theorem dX6_halls_4 : decode cX6_halls 4 = .ok (.invokevirtual 156, 3) := by decide +kernel
theorem dX6_halls_7 : decode cX6_halls 7 = .ok (.ifCond .eq 8, 3) := by decide +kernel
theorem dX6_halls_10 : decode cX6_halls 10 = .ok (.bipush (-3), 2) := by decide +kernel
theorem dX6_halls_12 : decode cX6_halls 12 = .ok (.goto 21, 3) := by decide +kernel
theorem dX6_halls_15 : decode cX6_halls 15 = .ok (.aload_n 0, 1) := by decide +kernel
theorem dX6_halls_16 : decode cX6_halls 16 = .ok (.getfield 28, 3) := by decide +kernel
theorem dX6_halls_19 : decode cX6_halls 19 = .ok (.aload_n 0, 1) := by decide +kernel
theorem dX6_halls_20 : decode cX6_halls 20 = .ok (.getfield 14, 3) := by decide +kernel
theorem dX6_halls_23 : decode cX6_halls 23 = .ok (.aload_n 0, 1) := by decide +kernel
theorem dX6_halls_24 : decode cX6_halls 24 = .ok (.getfield 14, 3) := by decide +kernel
theorem dX6_halls_27 : decode cX6_halls 27 = .ok (.invokevirtual 207, 3) := by decide +kernel
theorem dX6_halls_30 : decode cX6_halls 30 = .ok (.invokevirtual 210, 3) := by decide +kernel
theorem dX6_halls_33 : decode cX6_halls 33 = .ok (.ireturn, 1) := by decide +kernel
theorem dX6_alone_0 : decode cX6_alone 0 = .ok (.aload_n 0, 1) := by decide +kernel
theorem dX6_alone_1 : decode cX6_alone 1 = .ok (.getfield 14, 3) := by decide +kernel
theorem dX6_alone_4 : decode cX6_alone 4 = .ok (.iload_n 1, 1) := by decide +kernel
theorem dX6_alone_5 : decode cX6_alone 5 = .ok (.invokevirtual 101, 3) := by decide +kernel
theorem dX6_alone_8 : decode cX6_alone 8 = .ok (.ifCond .ne 5, 3) := by decide +kernel
theorem dX6_alone_11 : decode cX6_alone 11 = .ok (.iconst (-1), 1) := by decide +kernel
theorem dX6_alone_12 : decode cX6_alone 12 = .ok (.ireturn, 1) := by decide +kernel
theorem dX6_alone_13 : decode cX6_alone 13 = .ok (.iconst 0, 1) := by decide +kernel
theorem dX6_alone_14 : decode cX6_alone 14 = .ok (.istore_n 2, 1) := by decide +kernel
theorem dX6_alone_15 : decode cX6_alone 15 = .ok (.iload_n 2, 1) := by decide +kernel
theorem dX6_alone_16 : decode cX6_alone 16 = .ok (.aload_n 0, 1) := by decide +kernel
theorem dX6_alone_17 : decode cX6_alone 17 = .ok (.getfield 14, 3) := by decide +kernel
theorem dX6_alone_20 : decode cX6_alone 20 = .ok (.getfield 193, 3) := by decide +kernel
theorem dX6_alone_23 : decode cX6_alone 23 = .ok (.if_icmp .ge 25, 3) := by decide +kernel
theorem dX6_alone_26 : decode cX6_alone 26 = .ok (.aload_n 0, 1) := by decide +kernel
theorem dX6_alone_27 : decode cX6_alone 27 = .ok (.getfield 52, 3) := by decide +kernel
theorem dX6_alone_30 : decode cX6_alone 30 = .ok (.iload_n 2, 1) := by decide +kernel
theorem dX6_alone_31 : decode cX6_alone 31 = .ok (.iload_n 2, 1) := by decide +kernel
theorem dX6_alone_32 : decode cX6_alone 32 = .ok (.iload_n 1, 1) := by decide +kernel
theorem dX6_alone_33 : decode cX6_alone 33 = .ok (.if_icmp .ne 7, 3) := by decide +kernel
theorem dX6_alone_36 : decode cX6_alone 36 = .ok (.iconst 1, 1) := by decide +kernel
theorem dX6_alone_37 : decode cX6_alone 37 = .ok (.goto 4, 3) := by decide +kernel
theorem dX6_alone_40 : decode cX6_alone 40 = .ok (.iconst 0, 1) := by decide +kernel
theorem dX6_alone_41 : decode cX6_alone 41 = .ok (.iastore, 1) := by decide +kernel
theorem dX6_alone_42 : decode cX6_alone 42 = .ok (.iinc 2 1, 3) := by decide +kernel
theorem dX6_alone_45 : decode cX6_alone 45 = .ok (.goto (-30), 3) := by decide +kernel
theorem dX6_alone_48 : decode cX6_alone 48 = .ok (.aload_n 0, 1) := by decide +kernel
theorem dX6_alone_49 : decode cX6_alone 49 = .ok (.getfield 28, 3) := by decide +kernel
theorem dX6_alone_52 : decode cX6_alone 52 = .ok (.aload_n 0, 1) := by decide +kernel
theorem dX6_alone_53 : decode cX6_alone 53 = .ok (.getfield 14, 3) := by decide +kernel
theorem dX6_alone_56 : decode cX6_alone 56 = .ok (.aload_n 0, 1) := by decide +kernel
theorem dX6_alone_57 : decode cX6_alone 57 = .ok (.getfield 52, 3) := by decide +kernel
theorem dX6_alone_60 : decode cX6_alone 60 = .ok (.invokevirtual 199, 3) := by decide +kernel
theorem dX6_alone_63 : decode cX6_alone 63 = .ok (.ireturn, 1) := by decide +kernel
theorem dX6_idle_0 : decode cX6_idle 0 = .ok (.aload_n 0, 1) := by decide +kernel
theorem dX6_idle_1 : decode cX6_idle 1 = .ok (.getfield 14, 3) := by decide +kernel
theorem dX6_idle_4 : decode cX6_idle 4 = .ok (.invokevirtual 156, 3) := by decide +kernel
theorem dX6_idle_7 : decode cX6_idle 7 = .ok (.ifCond .eq 8, 3) := by decide +kernel
theorem dX6_idle_10 : decode cX6_idle 10 = .ok (.bipush (-3), 2) := by decide +kernel
theorem dX6_idle_12 : decode cX6_idle 12 = .ok (.goto 14, 3) := by decide +kernel
theorem dX6_idle_15 : decode cX6_idle 15 = .ok (.aload_n 0, 1) := by decide +kernel
theorem dX6_idle_16 : decode cX6_idle 16 = .ok (.getfield 28, 3) := by decide +kernel
theorem dX6_idle_19 : decode cX6_idle 19 = .ok (.aload_n 0, 1) := by decide +kernel
theorem dX6_idle_20 : decode cX6_idle 20 = .ok (.getfield 14, 3) := by decide +kernel
theorem dX6_idle_23 : decode cX6_idle 23 = .ok (.invokevirtual 214, 3) := by decide +kernel
theorem dX6_idle_26 : decode cX6_idle 26 = .ok (.ireturn, 1) := by decide +kernel
theorem dX6_spare_0 : decode cX6_spare 0 = .ok (.aload_n 0, 1) := by decide +kernel
theorem dX6_spare_1 : decode cX6_spare 1 = .ok (.getfield 14, 3) := by decide +kernel
theorem dX6_spare_4 : decode cX6_spare 4 = .ok (.invokevirtual 156, 3) := by decide +kernel
theorem dX6_spare_7 : decode cX6_spare 7 = .ok (.ifCond .eq 6, 3) := by decide +kernel
theorem dX6_spare_10 : decode cX6_spare 10 = .ok (.bipush (-3), 2) := by decide +kernel
theorem dX6_spare_12 : decode cX6_spare 12 = .ok (.ireturn, 1) := by decide +kernel
theorem dX6_spare_13 : decode cX6_spare 13 = .ok (.aload_n 0, 1) := by decide +kernel
theorem dX6_spare_14 : decode cX6_spare 14 = .ok (.getfield 14, 3) := by decide +kernel
theorem dX6_spare_17 : decode cX6_spare 17 = .ok (.invokevirtual 207, 3) := by decide +kernel
theorem dX6_spare_20 : decode cX6_spare 20 = .ok (.istore_n 1, 1) := by decide +kernel
theorem dX6_spare_21 : decode cX6_spare 21 = .ok (.aload_n 0, 1) := by decide +kernel
theorem dX6_spare_22 : decode cX6_spare 22 = .ok (.getfield 28, 3) := by decide +kernel
theorem dX6_spare_25 : decode cX6_spare 25 = .ok (.aload_n 0, 1) := by decide +kernel
theorem dX6_spare_26 : decode cX6_spare 26 = .ok (.getfield 14, 3) := by decide +kernel
theorem dX6_spare_29 : decode cX6_spare 29 = .ok (.iload_n 1, 1) := by decide +kernel
theorem dX6_spare_30 : decode cX6_spare 30 = .ok (.invokevirtual 210, 3) := by decide +kernel
theorem dX6_spare_33 : decode cX6_spare 33 = .ok (.istore_n 2, 1) := by decide +kernel
theorem dX6_spare_34 : decode cX6_spare 34 = .ok (.iconst 0, 1) := by decide +kernel
theorem dX6_spare_35 : decode cX6_spare 35 = .ok (.istore_n 3, 1) := by decide +kernel
theorem dX6_spare_36 : decode cX6_spare 36 = .ok (.iconst 0, 1) := by decide +kernel
theorem dX6_spare_37 : decode cX6_spare 37 = .ok (.istore 4, 2) := by decide +kernel
theorem dX6_spare_39 : decode cX6_spare 39 = .ok (.iload 4, 2) := by decide +kernel
theorem dX6_spare_41 : decode cX6_spare 41 = .ok (.aload_n 0, 1) := by decide +kernel
theorem dX6_spare_42 : decode cX6_spare 42 = .ok (.getfield 14, 3) := by decide +kernel
theorem dX6_spare_45 : decode cX6_spare 45 = .ok (.getfield 98, 3) := by decide +kernel
theorem dX6_spare_48 : decode cX6_spare 48 = .ok (.if_icmp .ge 39, 3) := by decide +kernel
theorem dX6_spare_51 : decode cX6_spare 51 = .ok (.aload_n 0, 1) := by decide +kernel
theorem dX6_spare_52 : decode cX6_spare 52 = .ok (.getfield 28, 3) := by decide +kernel
theorem dX6_spare_55 : decode cX6_spare 55 = .ok (.aload_n 0, 1) := by decide +kernel
theorem dX6_spare_56 : decode cX6_spare 56 = .ok (.getfield 14, 3) := by decide +kernel
theorem dX6_spare_59 : decode cX6_spare 59 = .ok (.iload_n 1, 1) := by decide +kernel
theorem dX6_spare_60 : decode cX6_spare 60 = .ok (.iconst 1, 1) := by decide +kernel
theorem dX6_spare_61 : decode cX6_spare 61 = .ok (.iload 4, 2) := by decide +kernel
theorem dX6_spare_63 : decode cX6_spare 63 = .ok (.ishl, 1) := by decide +kernel
theorem dX6_spare_64 : decode cX6_spare 64 = .ok (.iconst (-1), 1) := by decide +kernel
theorem dX6_spare_65 : decode cX6_spare 65 = .ok (.ixor, 1) := by decide +kernel
theorem dX6_spare_66 : decode cX6_spare 66 = .ok (.iand, 1) := by decide +kernel
theorem dX6_spare_67 : decode cX6_spare 67 = .ok (.invokevirtual 210, 3) := by decide +kernel
theorem dX6_spare_70 : decode cX6_spare 70 = .ok (.iload_n 2, 1) := by decide +kernel
theorem dX6_spare_71 : decode cX6_spare 71 = .ok (.if_icmp .ne 10, 3) := by decide +kernel
theorem dX6_spare_74 : decode cX6_spare 74 = .ok (.iload_n 3, 1) := by decide +kernel
theorem dX6_spare_75 : decode cX6_spare 75 = .ok (.iconst 1, 1) := by decide +kernel
theorem dX6_spare_76 : decode cX6_spare 76 = .ok (.iload 4, 2) := by decide +kernel
theorem dX6_spare_78 : decode cX6_spare 78 = .ok (.ishl, 1) := by decide +kernel
theorem dX6_spare_79 : decode cX6_spare 79 = .ok (.ior, 1) := by decide +kernel
theorem dX6_spare_80 : decode cX6_spare 80 = .ok (.istore_n 3, 1) := by decide +kernel
theorem dX6_spare_81 : decode cX6_spare 81 = .ok (.iinc 4 1, 3) := by decide +kernel
theorem dX6_spare_84 : decode cX6_spare 84 = .ok (.goto (-45), 3) := by decide +kernel
theorem dX6_spare_87 : decode cX6_spare 87 = .ok (.iload_n 3, 1) := by decide +kernel
theorem dX6_spare_88 : decode cX6_spare 88 = .ok (.ireturn, 1) := by decide +kernel
theorem dX6_reading_0 : decode cX6_reading 0 = .ok (.aload_n 0, 1) := by decide +kernel
theorem dX6_reading_1 : decode cX6_reading 1 = .ok (.getfield 14, 3) := by decide +kernel
theorem dX6_reading_4 : decode cX6_reading 4 = .ok (.iload_n 1, 1) := by decide +kernel
theorem dX6_reading_5 : decode cX6_reading 5 = .ok (.invokevirtual 113, 3) := by decide +kernel
theorem dX6_reading_8 : decode cX6_reading 8 = .ok (.ifCond .eq 14, 3) := by decide +kernel
theorem dX6_reading_11 : decode cX6_reading 11 = .ok (.aload_n 0, 1) := by decide +kernel
theorem dX6_reading_12 : decode cX6_reading 12 = .ok (.getfield 14, 3) := by decide +kernel
theorem dX6_reading_15 : decode cX6_reading 15 = .ok (.iload_n 2, 1) := by decide +kernel
theorem dX6_reading_16 : decode cX6_reading 16 = .ok (.invokevirtual 101, 3) := by decide +kernel
theorem dX6_reading_19 : decode cX6_reading 19 = .ok (.ifCond .ne 5, 3) := by decide +kernel
theorem dX6_reading_22 : decode cX6_reading 22 = .ok (.iconst (-1), 1) := by decide +kernel
theorem dX6_reading_23 : decode cX6_reading 23 = .ok (.ireturn, 1) := by decide +kernel
theorem dX6_reading_24 : decode cX6_reading 24 = .ok (.iload_n 3, 1) := by decide +kernel
theorem dX6_reading_25 : decode cX6_reading 25 = .ok (.iconst 0, 1) := by decide +kernel
theorem dX6_reading_26 : decode cX6_reading 26 = .ok (.iconst 4, 1) := by decide +kernel
theorem dX6_reading_27 : decode cX6_reading 27 = .ok (.invokestatic 134, 3) := by decide +kernel
theorem dX6_reading_30 : decode cX6_reading 30 = .ok (.ifCond .ne 6, 3) := by decide +kernel
theorem dX6_reading_33 : decode cX6_reading 33 = .ok (.bipush (-2), 2) := by decide +kernel
theorem dX6_reading_35 : decode cX6_reading 35 = .ok (.ireturn, 1) := by decide +kernel
theorem dX6_reading_36 : decode cX6_reading 36 = .ok (.aload_n 0, 1) := by decide +kernel
theorem dX6_reading_37 : decode cX6_reading 37 = .ok (.getfield 35, 3) := by decide +kernel
theorem dX6_reading_40 : decode cX6_reading 40 = .ok (.iload_n 1, 1) := by decide +kernel
theorem dX6_reading_41 : decode cX6_reading 41 = .ok (.iload_n 2, 1) := by decide +kernel
theorem dX6_reading_42 : decode cX6_reading 42 = .ok (.iload_n 3, 1) := by decide +kernel
theorem dX6_reading_43 : decode cX6_reading 43 = .ok (.invokevirtual 218, 3) := by decide +kernel
theorem dX6_reading_46 : decode cX6_reading 46 = .ok (.ireturn, 1) := by decide +kernel
theorem dX6_back_0 : decode cX6_back 0 = .ok (.iload_n 1, 1) := by decide +kernel
theorem dX6_back_1 : decode cX6_back 1 = .ok (.iconst 0, 1) := by decide +kernel
theorem dX6_back_2 : decode cX6_back 2 = .ok (.aload_n 0, 1) := by decide +kernel
theorem dX6_back_3 : decode cX6_back 3 = .ok (.getfield 35, 3) := by decide +kernel
theorem dX6_back_6 : decode cX6_back 6 = .ok (.getfield 92, 3) := by decide +kernel
theorem dX6_back_9 : decode cX6_back 9 = .ok (.invokestatic 134, 3) := by decide +kernel
theorem dX6_back_12 : decode cX6_back 12 = .ok (.ifCond .ne 6, 3) := by decide +kernel
theorem dX6_back_15 : decode cX6_back 15 = .ok (.bipush (-2), 2) := by decide +kernel
theorem dX6_back_17 : decode cX6_back 17 = .ok (.ireturn, 1) := by decide +kernel
theorem dX6_back_18 : decode cX6_back 18 = .ok (.aload_n 0, 1) := by decide +kernel
theorem dX6_back_19 : decode cX6_back 19 = .ok (.getfield 35, 3) := by decide +kernel
theorem dX6_back_22 : decode cX6_back 22 = .ok (.dup, 1) := by decide +kernel
theorem dX6_back_23 : decode cX6_back 23 = .ok (.getfield 92, 3) := by decide +kernel
theorem dX6_back_26 : decode cX6_back 26 = .ok (.iload_n 1, 1) := by decide +kernel
theorem dX6_back_27 : decode cX6_back 27 = .ok (.isub, 1) := by decide +kernel
theorem dX6_back_28 : decode cX6_back 28 = .ok (.putfield 92, 3) := by decide +kernel
theorem dX6_back_31 : decode cX6_back 31 = .ok (.aload_n 0, 1) := by decide +kernel
theorem dX6_back_32 : decode cX6_back 32 = .ok (.getfield 35, 3) := by decide +kernel
theorem dX6_back_35 : decode cX6_back 35 = .ok (.getfield 92, 3) := by decide +kernel
theorem dX6_back_38 : decode cX6_back 38 = .ok (.ireturn, 1) := by decide +kernel
theorem dX6_turnings_0 : decode cX6_turnings 0 = .ok (.aload_n 0, 1) := by decide +kernel
theorem dX6_turnings_1 : decode cX6_turnings 1 = .ok (.getfield 14, 3) := by decide +kernel
theorem dX6_turnings_4 : decode cX6_turnings 4 = .ok (.iload_n 1, 1) := by decide +kernel
theorem dX6_turnings_5 : decode cX6_turnings 5 = .ok (.invokevirtual 113, 3) := by decide +kernel
theorem dX6_turnings_8 : decode cX6_turnings 8 = .ok (.ifCond .eq 20, 3) := by decide +kernel
theorem dX6_turnings_11 : decode cX6_turnings 11 = .ok (.aload_n 0, 1) := by decide +kernel
theorem dX6_turnings_12 : decode cX6_turnings 12 = .ok (.aload_n 0, 1) := by decide +kernel
theorem dX6_turnings_13 : decode cX6_turnings 13 = .ok (.getfield 14, 3) := by decide +kernel
theorem dX6_turnings_16 : decode cX6_turnings 16 = .ok (.getfield 119, 3) := by decide +kernel
theorem dX6_turnings_19 : decode cX6_turnings 19 = .ok (.iload_n 1, 1) := by decide +kernel
theorem dX6_turnings_20 : decode cX6_turnings 20 = .ok (.iconst 1, 1) := by decide +kernel
theorem dX6_turnings_21 : decode cX6_turnings 21 = .ok (.iconst 4, 1) := by decide +kernel
theorem dX6_turnings_22 : decode cX6_turnings 22 = .ok (.invokevirtual 221, 3) := by decide +kernel
theorem dX6_turnings_25 : decode cX6_turnings 25 = .ok (.goto 4, 3) := by decide +kernel
theorem dX6_turnings_28 : decode cX6_turnings 28 = .ok (.iconst (-1), 1) := by decide +kernel
theorem dX6_turnings_29 : decode cX6_turnings 29 = .ok (.ireturn, 1) := by decide +kernel
theorem dX6_kinds_0 : decode cX6_kinds 0 = .ok (.aload_n 0, 1) := by decide +kernel
theorem dX6_kinds_1 : decode cX6_kinds 1 = .ok (.getfield 14, 3) := by decide +kernel
theorem dX6_kinds_4 : decode cX6_kinds 4 = .ok (.iload_n 1, 1) := by decide +kernel
theorem dX6_kinds_5 : decode cX6_kinds 5 = .ok (.invokevirtual 113, 3) := by decide +kernel
theorem dX6_kinds_8 : decode cX6_kinds 8 = .ok (.ifCond .eq 20, 3) := by decide +kernel
theorem dX6_kinds_11 : decode cX6_kinds 11 = .ok (.aload_n 0, 1) := by decide +kernel
theorem dX6_kinds_12 : decode cX6_kinds 12 = .ok (.aload_n 0, 1) := by decide +kernel
theorem dX6_kinds_13 : decode cX6_kinds 13 = .ok (.getfield 14, 3) := by decide +kernel
theorem dX6_kinds_16 : decode cX6_kinds 16 = .ok (.getfield 116, 3) := by decide +kernel
theorem dX6_kinds_19 : decode cX6_kinds 19 = .ok (.iload_n 1, 1) := by decide +kernel
theorem dX6_kinds_20 : decode cX6_kinds 20 = .ok (.iconst 0, 1) := by decide +kernel
theorem dX6_kinds_21 : decode cX6_kinds 21 = .ok (.iconst 2, 1) := by decide +kernel
theorem dX6_kinds_22 : decode cX6_kinds 22 = .ok (.invokevirtual 221, 3) := by decide +kernel
theorem dX6_kinds_25 : decode cX6_kinds 25 = .ok (.goto 4, 3) := by decide +kernel
theorem dX6_kinds_28 : decode cX6_kinds 28 = .ok (.iconst (-1), 1) := by decide +kernel
theorem dX6_kinds_29 : decode cX6_kinds 29 = .ok (.ireturn, 1) := by decide +kernel
theorem dX6_shadings_0 : decode cX6_shadings 0 = .ok (.aload_n 0, 1) := by decide +kernel
theorem dX6_shadings_1 : decode cX6_shadings 1 = .ok (.getfield 14, 3) := by decide +kernel
theorem dX6_shadings_4 : decode cX6_shadings 4 = .ok (.iload_n 1, 1) := by decide +kernel
theorem dX6_shadings_5 : decode cX6_shadings 5 = .ok (.invokevirtual 101, 3) := by decide +kernel
theorem dX6_shadings_8 : decode cX6_shadings 8 = .ok (.ifCond .eq 20, 3) := by decide +kernel
theorem dX6_shadings_11 : decode cX6_shadings 11 = .ok (.aload_n 0, 1) := by decide +kernel
theorem dX6_shadings_12 : decode cX6_shadings 12 = .ok (.aload_n 0, 1) := by decide +kernel
theorem dX6_shadings_13 : decode cX6_shadings 13 = .ok (.getfield 14, 3) := by decide +kernel
theorem dX6_shadings_16 : decode cX6_shadings 16 = .ok (.getfield 104, 3) := by decide +kernel
theorem dX6_shadings_19 : decode cX6_shadings 19 = .ok (.iload_n 1, 1) := by decide +kernel
theorem dX6_shadings_20 : decode cX6_shadings 20 = .ok (.iconst 2, 1) := by decide +kernel
theorem dX6_shadings_21 : decode cX6_shadings 21 = .ok (.iconst 5, 1) := by decide +kernel
theorem dX6_shadings_22 : decode cX6_shadings 22 = .ok (.invokevirtual 221, 3) := by decide +kernel
theorem dX6_shadings_25 : decode cX6_shadings 25 = .ok (.goto 4, 3) := by decide +kernel
theorem dX6_shadings_28 : decode cX6_shadings 28 = .ok (.iconst (-1), 1) := by decide +kernel
theorem dX6_shadings_29 : decode cX6_shadings 29 = .ok (.ireturn, 1) := by decide +kernel
theorem dX6_fitting_0 : decode cX6_fitting 0 = .ok (.aload_n 1, 1) := by decide +kernel
theorem dX6_fitting_1 : decode cX6_fitting 1 = .ok (.iload_n 2, 1) := by decide +kernel
theorem dX6_fitting_2 : decode cX6_fitting 2 = .ok (.iaload, 1) := by decide +kernel
theorem dX6_fitting_3 : decode cX6_fitting 3 = .ok (.istore 5, 2) := by decide +kernel
theorem dX6_fitting_5 : decode cX6_fitting 5 = .ok (.iconst 0, 1) := by decide +kernel
theorem dX6_fitting_6 : decode cX6_fitting 6 = .ok (.istore 6, 2) := by decide +kernel
theorem dX6_fitting_8 : decode cX6_fitting 8 = .ok (.iload_n 3, 1) := by decide +kernel
theorem dX6_fitting_9 : decode cX6_fitting 9 = .ok (.istore 7, 2) := by decide +kernel
theorem dX6_fitting_11 : decode cX6_fitting 11 = .ok (.iload 7, 2) := by decide +kernel
theorem dX6_fitting_13 : decode cX6_fitting 13 = .ok (.iload 4, 2) := by decide +kernel
theorem dX6_fitting_15 : decode cX6_fitting 15 = .ok (.if_icmp .gt 37, 3) := by decide +kernel
theorem dX6_fitting_18 : decode cX6_fitting 18 = .ok (.aload_n 1, 1) := by decide +kernel
theorem dX6_fitting_19 : decode cX6_fitting 19 = .ok (.iload_n 2, 1) := by decide +kernel
theorem dX6_fitting_20 : decode cX6_fitting 20 = .ok (.iload 7, 2) := by decide +kernel
theorem dX6_fitting_22 : decode cX6_fitting 22 = .ok (.iastore, 1) := by decide +kernel
theorem dX6_fitting_23 : decode cX6_fitting 23 = .ok (.aload_n 0, 1) := by decide +kernel
theorem dX6_fitting_24 : decode cX6_fitting 24 = .ok (.getfield 35, 3) := by decide +kernel
theorem dX6_fitting_27 : decode cX6_fitting 27 = .ok (.aload_n 0, 1) := by decide +kernel
theorem dX6_fitting_28 : decode cX6_fitting 28 = .ok (.getfield 14, 3) := by decide +kernel
theorem dX6_fitting_31 : decode cX6_fitting 31 = .ok (.invokevirtual 225, 3) := by decide +kernel
theorem dX6_fitting_34 : decode cX6_fitting 34 = .ok (.ifCond .eq 12, 3) := by decide +kernel
theorem dX6_fitting_37 : decode cX6_fitting 37 = .ok (.iload 6, 2) := by decide +kernel
theorem dX6_fitting_39 : decode cX6_fitting 39 = .ok (.iconst 1, 1) := by decide +kernel
theorem dX6_fitting_40 : decode cX6_fitting 40 = .ok (.iload 7, 2) := by decide +kernel
theorem dX6_fitting_42 : decode cX6_fitting 42 = .ok (.ishl, 1) := by decide +kernel
theorem dX6_fitting_43 : decode cX6_fitting 43 = .ok (.ior, 1) := by decide +kernel
theorem dX6_fitting_44 : decode cX6_fitting 44 = .ok (.istore 6, 2) := by decide +kernel
theorem dX6_fitting_46 : decode cX6_fitting 46 = .ok (.iinc 7 1, 3) := by decide +kernel
theorem dX6_fitting_49 : decode cX6_fitting 49 = .ok (.goto (-38), 3) := by decide +kernel
theorem dX6_fitting_52 : decode cX6_fitting 52 = .ok (.aload_n 1, 1) := by decide +kernel
theorem dX6_fitting_53 : decode cX6_fitting 53 = .ok (.iload_n 2, 1) := by decide +kernel
theorem dX6_fitting_54 : decode cX6_fitting 54 = .ok (.iload 5, 2) := by decide +kernel
theorem dX6_fitting_56 : decode cX6_fitting 56 = .ok (.iastore, 1) := by decide +kernel
theorem dX6_fitting_57 : decode cX6_fitting 57 = .ok (.iload 6, 2) := by decide +kernel
theorem dX6_fitting_59 : decode cX6_fitting 59 = .ok (.ireturn, 1) := by decide +kernel
theorem dX6_odds_0 : decode cX6_odds 0 = .ok (.iload_n 1, 1) := by decide +kernel
theorem dX6_odds_1 : decode cX6_odds 1 = .ok (.iconst 0, 1) := by decide +kernel
theorem dX6_odds_2 : decode cX6_odds 2 = .ok (.iconst 4, 1) := by decide +kernel
theorem dX6_odds_3 : decode cX6_odds 3 = .ok (.invokestatic 134, 3) := by decide +kernel
theorem dX6_odds_6 : decode cX6_odds 6 = .ok (.ifCond .eq 22, 3) := by decide +kernel
theorem dX6_odds_9 : decode cX6_odds 9 = .ok (.iload_n 2, 1) := by decide +kernel
theorem dX6_odds_10 : decode cX6_odds 10 = .ok (.iconst 0, 1) := by decide +kernel
theorem dX6_odds_11 : decode cX6_odds 11 = .ok (.iconst 1, 1) := by decide +kernel
theorem dX6_odds_12 : decode cX6_odds 12 = .ok (.invokestatic 134, 3) := by decide +kernel
theorem dX6_odds_15 : decode cX6_odds 15 = .ok (.ifCond .eq 13, 3) := by decide +kernel
theorem dX6_odds_18 : decode cX6_odds 18 = .ok (.aload_n 0, 1) := by decide +kernel
theorem dX6_odds_19 : decode cX6_odds 19 = .ok (.getfield 14, 3) := by decide +kernel
theorem dX6_odds_22 : decode cX6_odds 22 = .ok (.invokevirtual 156, 3) := by decide +kernel
theorem dX6_odds_25 : decode cX6_odds 25 = .ok (.ifCond .eq 7, 3) := by decide +kernel
theorem dX6_odds_28 : decode cX6_odds 28 = .ok (.ldc2_w 229, 3) := by decide +kernel
theorem dX6_odds_31 : decode cX6_odds 31 = .ok (.lreturn, 1) := by decide +kernel
theorem dX6_odds_32 : decode cX6_odds 32 = .ok (.iconst 1, 1) := by decide +kernel
theorem dX6_odds_33 : decode cX6_odds 33 = .ok (.istore_n 3, 1) := by decide +kernel
theorem dX6_odds_34 : decode cX6_odds 34 = .ok (.iconst 0, 1) := by decide +kernel
theorem dX6_odds_35 : decode cX6_odds 35 = .ok (.istore 4, 2) := by decide +kernel
theorem dX6_odds_37 : decode cX6_odds 37 = .ok (.iload 4, 2) := by decide +kernel
theorem dX6_odds_39 : decode cX6_odds 39 = .ok (.iload_n 1, 1) := by decide +kernel
theorem dX6_odds_40 : decode cX6_odds 40 = .ok (.if_icmp .ge 19, 3) := by decide +kernel
theorem dX6_odds_43 : decode cX6_odds 43 = .ok (.iload_n 3, 1) := by decide +kernel
theorem dX6_odds_44 : decode cX6_odds 44 = .ok (.aload_n 0, 1) := by decide +kernel
theorem dX6_odds_45 : decode cX6_odds 45 = .ok (.getfield 14, 3) := by decide +kernel
theorem dX6_odds_48 : decode cX6_odds 48 = .ok (.getfield 98, 3) := by decide +kernel
theorem dX6_odds_51 : decode cX6_odds 51 = .ok (.imul, 1) := by decide +kernel
theorem dX6_odds_52 : decode cX6_odds 52 = .ok (.istore_n 3, 1) := by decide +kernel
theorem dX6_odds_53 : decode cX6_odds 53 = .ok (.iinc 4 1, 3) := by decide +kernel
theorem dX6_odds_56 : decode cX6_odds 56 = .ok (.goto (-19), 3) := by decide +kernel
theorem dX6_odds_59 : decode cX6_odds 59 = .ok (.aload_n 0, 1) := by decide +kernel
theorem dX6_odds_60 : decode cX6_odds 60 = .ok (.getfield 14, 3) := by decide +kernel
theorem dX6_odds_63 : decode cX6_odds 63 = .ok (.getfield 107, 3) := by decide +kernel
theorem dX6_odds_66 : decode cX6_odds 66 = .ok (.iconst 0, 1) := by decide +kernel
theorem dX6_odds_67 : decode cX6_odds 67 = .ok (.aload_n 0, 1) := by decide +kernel
theorem dX6_odds_68 : decode cX6_odds 68 = .ok (.getfield 52, 3) := by decide +kernel
theorem dX6_odds_71 : decode cX6_odds 71 = .ok (.iconst 0, 1) := by decide +kernel
theorem dX6_odds_72 : decode cX6_odds 72 = .ok (.iconst 5, 1) := by decide +kernel
theorem dX6_odds_73 : decode cX6_odds 73 = .ok (.invokestatic 231, 3) := by decide +kernel
theorem dX6_odds_76 : decode cX6_odds 76 = .ok (.aload_n 0, 1) := by decide +kernel
theorem dX6_odds_77 : decode cX6_odds 77 = .ok (.getfield 14, 3) := by decide +kernel
theorem dX6_odds_80 : decode cX6_odds 80 = .ok (.aload_n 0, 1) := by decide +kernel
theorem dX6_odds_81 : decode cX6_odds 81 = .ok (.getfield 52, 3) := by decide +kernel
theorem dX6_odds_84 : decode cX6_odds 84 = .ok (.iload_n 1, 1) := by decide +kernel
theorem dX6_odds_85 : decode cX6_odds 85 = .ok (.invokestatic 237, 3) := by decide +kernel
theorem dX6_odds_88 : decode cX6_odds 88 = .ok (.istore 4, 2) := by decide +kernel
theorem dX6_odds_90 : decode cX6_odds 90 = .ok (.iload_n 3, 1) := by decide +kernel
theorem dX6_odds_91 : decode cX6_odds 91 = .ok (.iload 4, 2) := by decide +kernel
theorem dX6_odds_93 : decode cX6_odds 93 = .ok (.invokestatic 240, 3) := by decide +kernel
theorem dX6_odds_96 : decode cX6_odds 96 = .ok (.istore 5, 2) := by decide +kernel
theorem dX6_odds_98 : decode cX6_odds 98 = .ok (.iload 5, 2) := by decide +kernel
theorem dX6_odds_100 : decode cX6_odds 100 = .ok (.ifCond .ne 7, 3) := by decide +kernel
theorem dX6_odds_103 : decode cX6_odds 103 = .ok (.ldc2_w 229, 3) := by decide +kernel
theorem dX6_odds_106 : decode cX6_odds 106 = .ok (.lreturn, 1) := by decide +kernel
theorem dX6_odds_107 : decode cX6_odds 107 = .ok (.iload_n 2, 1) := by decide +kernel
theorem dX6_odds_108 : decode cX6_odds 108 = .ok (.ifCond .ne 8, 3) := by decide +kernel
theorem dX6_odds_111 : decode cX6_odds 111 = .ok (.iload 4, 2) := by decide +kernel
theorem dX6_odds_113 : decode cX6_odds 113 = .ok (.goto 4, 3) := by decide +kernel
theorem dX6_odds_116 : decode cX6_odds 116 = .ok (.iload_n 3, 1) := by decide +kernel
theorem dX6_odds_117 : decode cX6_odds 117 = .ok (.iload 5, 2) := by decide +kernel
theorem dX6_odds_119 : decode cX6_odds 119 = .ok (.idiv, 1) := by decide +kernel
theorem dX6_odds_120 : decode cX6_odds 120 = .ok (.i2l, 1) := by decide +kernel
theorem dX6_odds_121 : decode cX6_odds 121 = .ok (.lreturn, 1) := by decide +kernel
theorem dX6_darkRows_0 : decode cX6_darkRows 0 = .ok (.iload_n 2, 1) := by decide +kernel
theorem dX6_darkRows_1 : decode cX6_darkRows 1 = .ok (.ifCond .le 8, 3) := by decide +kernel
theorem dX6_darkRows_4 : decode cX6_darkRows 4 = .ok (.iload_n 2, 1) := by decide +kernel
theorem dX6_darkRows_5 : decode cX6_darkRows 5 = .ok (.iconst 4, 1) := by decide +kernel
theorem dX6_darkRows_6 : decode cX6_darkRows 6 = .ok (.if_icmp .le 21, 3) := by decide +kernel
theorem dX6_darkRows_9 : decode cX6_darkRows 9 = .ok (.aload_n 0, 1) := by decide +kernel
theorem dX6_darkRows_10 : decode cX6_darkRows 10 = .ok (.aload_n 1, 1) := by decide +kernel
theorem dX6_darkRows_11 : decode cX6_darkRows 11 = .ok (.invokevirtual 145, 3) := by decide +kernel
theorem dX6_darkRows_14 : decode cX6_darkRows 14 = .ok (.aload_n 0, 1) := by decide +kernel
theorem dX6_darkRows_15 : decode cX6_darkRows 15 = .ok (.getfield 193, 3) := by decide +kernel
theorem dX6_darkRows_18 : decode cX6_darkRows 18 = .ok (.if_icmp .ne 7, 3) := by decide +kernel
theorem dX6_darkRows_21 : decode cX6_darkRows 21 = .ok (.iconst 1, 1) := by decide +kernel
theorem dX6_darkRows_22 : decode cX6_darkRows 22 = .ok (.goto 4, 3) := by decide +kernel
theorem dX6_darkRows_25 : decode cX6_darkRows 25 = .ok (.iconst 0, 1) := by decide +kernel
theorem dX6_darkRows_26 : decode cX6_darkRows 26 = .ok (.ireturn, 1) := by decide +kernel
theorem dX6_darkRows_27 : decode cX6_darkRows 27 = .ok (.iconst 0, 1) := by decide +kernel
theorem dX6_darkRows_28 : decode cX6_darkRows 28 = .ok (.istore_n 3, 1) := by decide +kernel
theorem dX6_darkRows_29 : decode cX6_darkRows 29 = .ok (.iconst 0, 1) := by decide +kernel
theorem dX6_darkRows_30 : decode cX6_darkRows 30 = .ok (.istore 4, 2) := by decide +kernel
theorem dX6_darkRows_32 : decode cX6_darkRows 32 = .ok (.iload 4, 2) := by decide +kernel
theorem dX6_darkRows_34 : decode cX6_darkRows 34 = .ok (.aload_n 0, 1) := by decide +kernel
theorem dX6_darkRows_35 : decode cX6_darkRows 35 = .ok (.getfield 98, 3) := by decide +kernel
theorem dX6_darkRows_38 : decode cX6_darkRows 38 = .ok (.if_icmp .ge 36, 3) := by decide +kernel
theorem dX6_darkRows_41 : decode cX6_darkRows 41 = .ok (.aload_n 0, 1) := by decide +kernel
theorem dX6_darkRows_42 : decode cX6_darkRows 42 = .ok (.aload_n 1, 1) := by decide +kernel
theorem dX6_darkRows_43 : decode cX6_darkRows 43 = .ok (.iload 4, 2) := by decide +kernel
theorem dX6_darkRows_45 : decode cX6_darkRows 45 = .ok (.iconst 1, 1) := by decide +kernel
theorem dX6_darkRows_46 : decode cX6_darkRows 46 = .ok (.invokevirtual 141, 3) := by decide +kernel
theorem dX6_darkRows_49 : decode cX6_darkRows 49 = .ok (.iload_n 3, 1) := by decide +kernel
theorem dX6_darkRows_50 : decode cX6_darkRows 50 = .ok (.aload_n 0, 1) := by decide +kernel
theorem dX6_darkRows_51 : decode cX6_darkRows 51 = .ok (.aload_n 1, 1) := by decide +kernel
theorem dX6_darkRows_52 : decode cX6_darkRows 52 = .ok (.iload_n 2, 1) := by decide +kernel
theorem dX6_darkRows_53 : decode cX6_darkRows 53 = .ok (.iconst 1, 1) := by decide +kernel
theorem dX6_darkRows_54 : decode cX6_darkRows 54 = .ok (.isub, 1) := by decide +kernel
theorem dX6_darkRows_55 : decode cX6_darkRows 55 = .ok (.invokestatic 237, 3) := by decide +kernel
theorem dX6_darkRows_58 : decode cX6_darkRows 58 = .ok (.iadd, 1) := by decide +kernel
theorem dX6_darkRows_59 : decode cX6_darkRows 59 = .ok (.istore_n 3, 1) := by decide +kernel
theorem dX6_darkRows_60 : decode cX6_darkRows 60 = .ok (.aload_n 0, 1) := by decide +kernel
theorem dX6_darkRows_61 : decode cX6_darkRows 61 = .ok (.aload_n 1, 1) := by decide +kernel
theorem dX6_darkRows_62 : decode cX6_darkRows 62 = .ok (.iload 4, 2) := by decide +kernel
theorem dX6_darkRows_64 : decode cX6_darkRows 64 = .ok (.iconst (-1), 1) := by decide +kernel
theorem dX6_darkRows_65 : decode cX6_darkRows 65 = .ok (.invokevirtual 141, 3) := by decide +kernel
theorem dX6_darkRows_68 : decode cX6_darkRows 68 = .ok (.iinc 4 1, 3) := by decide +kernel
theorem dX6_darkRows_71 : decode cX6_darkRows 71 = .ok (.goto (-39), 3) := by decide +kernel
theorem dX6_darkRows_74 : decode cX6_darkRows 74 = .ok (.iload_n 3, 1) := by decide +kernel
theorem dX6_darkRows_75 : decode cX6_darkRows 75 = .ok (.ireturn, 1) := by decide +kernel
theorem dX6_commonDivisor_0 : decode cX6_commonDivisor 0 = .ok (.iload_n 0, 1) := by decide +kernel
theorem dX6_commonDivisor_1 : decode cX6_commonDivisor 1 = .ok (.istore_n 2, 1) := by decide +kernel
theorem dX6_commonDivisor_2 : decode cX6_commonDivisor 2 = .ok (.iload_n 1, 1) := by decide +kernel
theorem dX6_commonDivisor_3 : decode cX6_commonDivisor 3 = .ok (.istore_n 3, 1) := by decide +kernel
theorem dX6_commonDivisor_4 : decode cX6_commonDivisor 4 = .ok (.iconst 0, 1) := by decide +kernel
theorem dX6_commonDivisor_5 : decode cX6_commonDivisor 5 = .ok (.istore 4, 2) := by decide +kernel
theorem dX6_commonDivisor_7 : decode cX6_commonDivisor 7 = .ok (.iload 4, 2) := by decide +kernel
theorem dX6_commonDivisor_9 : decode cX6_commonDivisor 9 = .ok (.bipush 64, 2) := by decide +kernel
theorem dX6_commonDivisor_11 : decode cX6_commonDivisor 11 = .ok (.if_icmp .ge 23, 3) := by decide +kernel
theorem dX6_commonDivisor_14 : decode cX6_commonDivisor 14 = .ok (.iload_n 3, 1) := by decide +kernel
theorem dX6_commonDivisor_15 : decode cX6_commonDivisor 15 = .ok (.ifCond .le 19, 3) := by decide +kernel
theorem dX6_commonDivisor_18 : decode cX6_commonDivisor 18 = .ok (.iload_n 2, 1) := by decide +kernel
theorem dX6_commonDivisor_19 : decode cX6_commonDivisor 19 = .ok (.iload_n 3, 1) := by decide +kernel
theorem dX6_commonDivisor_20 : decode cX6_commonDivisor 20 = .ok (.irem, 1) := by decide +kernel
theorem dX6_commonDivisor_21 : decode cX6_commonDivisor 21 = .ok (.istore 5, 2) := by decide +kernel
theorem dX6_commonDivisor_23 : decode cX6_commonDivisor 23 = .ok (.iload_n 3, 1) := by decide +kernel
theorem dX6_commonDivisor_24 : decode cX6_commonDivisor 24 = .ok (.istore_n 2, 1) := by decide +kernel
theorem dX6_commonDivisor_25 : decode cX6_commonDivisor 25 = .ok (.iload 5, 2) := by decide +kernel
theorem dX6_commonDivisor_27 : decode cX6_commonDivisor 27 = .ok (.istore_n 3, 1) := by decide +kernel
theorem dX6_commonDivisor_28 : decode cX6_commonDivisor 28 = .ok (.iinc 4 1, 3) := by decide +kernel
theorem dX6_commonDivisor_31 : decode cX6_commonDivisor 31 = .ok (.goto (-24), 3) := by decide +kernel
theorem dX6_commonDivisor_34 : decode cX6_commonDivisor 34 = .ok (.iload_n 2, 1) := by decide +kernel
theorem dX6_commonDivisor_35 : decode cX6_commonDivisor 35 = .ok (.ireturn, 1) := by decide +kernel
theorem dX6_sheet_0 : decode cX6_sheet 0 = .ok (.aload_n 0, 1) := by decide +kernel
theorem dX6_sheet_1 : decode cX6_sheet 1 = .ok (.iconst 0, 1) := by decide +kernel
theorem dX6_sheet_2 : decode cX6_sheet 2 = .ok (.putfield 57, 3) := by decide +kernel
theorem dX6_sheet_5 : decode cX6_sheet 5 = .ok (.aload_n 0, 1) := by decide +kernel
theorem dX6_sheet_6 : decode cX6_sheet 6 = .ok (.iload_n 1, 1) := by decide +kernel
theorem dX6_sheet_7 : decode cX6_sheet 7 = .ok (.invokevirtual 61, 3) := by decide +kernel
theorem dX6_sheet_10 : decode cX6_sheet 10 = .ok (.astore 4, 2) := by decide +kernel
theorem dX6_sheet_12 : decode cX6_sheet 12 = .ok (.aload 4, 2) := by decide +kernel
theorem dX6_sheet_14 : decode cX6_sheet 14 = .ok (.ifnonnull 5, 3) := by decide +kernel
theorem dX6_sheet_17 : decode cX6_sheet 17 = .ok (.iconst (-1), 1) := by decide +kernel
theorem dX6_sheet_18 : decode cX6_sheet 18 = .ok (.ireturn, 1) := by decide +kernel
theorem dX6_sheet_19 : decode cX6_sheet 19 = .ok (.iload_n 2, 1) := by decide +kernel
theorem dX6_sheet_20 : decode cX6_sheet 20 = .ok (.invokestatic 65, 3) := by decide +kernel
theorem dX6_sheet_23 : decode cX6_sheet 23 = .ok (.ifCond .eq 9, 3) := by decide +kernel
theorem dX6_sheet_26 : decode cX6_sheet 26 = .ok (.iload_n 3, 1) := by decide +kernel
theorem dX6_sheet_27 : decode cX6_sheet 27 = .ok (.bipush 60, 2) := by decide +kernel
theorem dX6_sheet_29 : decode cX6_sheet 29 = .ok (.if_icmp .le 6, 3) := by decide +kernel
theorem dX6_sheet_32 : decode cX6_sheet 32 = .ok (.bipush (-2), 2) := by decide +kernel
theorem dX6_sheet_34 : decode cX6_sheet 34 = .ok (.ireturn, 1) := by decide +kernel
theorem dX6_sheet_35 : decode cX6_sheet 35 = .ok (.iload_n 3, 1) := by decide +kernel
theorem dX6_sheet_36 : decode cX6_sheet 36 = .ok (.ifCond .ge 9, 3) := by decide +kernel
theorem dX6_sheet_39 : decode cX6_sheet 39 = .ok (.aload_n 0, 1) := by decide +kernel
theorem dX6_sheet_40 : decode cX6_sheet 40 = .ok (.iconst 4, 1) := by decide +kernel
theorem dX6_sheet_41 : decode cX6_sheet 41 = .ok (.invokevirtual 77, 3) := by decide +kernel
theorem dX6_sheet_44 : decode cX6_sheet 44 = .ok (.ireturn, 1) := by decide +kernel
theorem dX6_sheet_45 : decode cX6_sheet 45 = .ok (.aload 4, 2) := by decide +kernel
theorem dX6_sheet_47 : decode cX6_sheet 47 = .ok (.iload_n 2, 1) := by decide +kernel
theorem dX6_sheet_48 : decode cX6_sheet 48 = .ok (.iload_n 3, 1) := by decide +kernel
theorem dX6_sheet_49 : decode cX6_sheet 49 = .ok (.invokevirtual 243, 3) := by decide +kernel
theorem dX6_sheet_52 : decode cX6_sheet 52 = .ok (.iconst 1, 1) := by decide +kernel
theorem dX6_sheet_53 : decode cX6_sheet 53 = .ok (.ireturn, 1) := by decide +kernel
theorem dX6_lose_0 : decode cX6_lose 0 = .ok (.aload_n 0, 1) := by decide +kernel
theorem dX6_lose_1 : decode cX6_lose 1 = .ok (.iload_n 1, 1) := by decide +kernel
theorem dX6_lose_2 : decode cX6_lose 2 = .ok (.invokevirtual 61, 3) := by decide +kernel
theorem dX6_lose_5 : decode cX6_lose 5 = .ok (.astore_n 2, 1) := by decide +kernel
theorem dX6_lose_6 : decode cX6_lose 6 = .ok (.aload_n 2, 1) := by decide +kernel
theorem dX6_lose_7 : decode cX6_lose 7 = .ok (.ifnonnull 5, 3) := by decide +kernel
theorem dX6_lose_10 : decode cX6_lose 10 = .ok (.iconst (-1), 1) := by decide +kernel
theorem dX6_lose_11 : decode cX6_lose 11 = .ok (.ireturn, 1) := by decide +kernel
theorem dX6_lose_12 : decode cX6_lose 12 = .ok (.aload_n 2, 1) := by decide +kernel
theorem dX6_lose_13 : decode cX6_lose 13 = .ok (.invokevirtual 247, 3) := by decide +kernel
theorem dX6_lose_16 : decode cX6_lose 16 = .ok (.ifCond .eq 5, 3) := by decide +kernel
theorem dX6_lose_19 : decode cX6_lose 19 = .ok (.iconst 0, 1) := by decide +kernel
theorem dX6_lose_20 : decode cX6_lose 20 = .ok (.ireturn, 1) := by decide +kernel
theorem dX6_lose_21 : decode cX6_lose 21 = .ok (.aload_n 2, 1) := by decide +kernel
theorem dX6_lose_22 : decode cX6_lose 22 = .ok (.invokevirtual 250, 3) := by decide +kernel
theorem dX6_lose_25 : decode cX6_lose 25 = .ok (.iconst 1, 1) := by decide +kernel
theorem dX6_lose_26 : decode cX6_lose 26 = .ok (.ireturn, 1) := by decide +kernel
theorem dX6_put_0 : decode cX6_put 0 = .ok (.aload_n 0, 1) := by decide +kernel
theorem dX6_put_1 : decode cX6_put 1 = .ok (.iconst 0, 1) := by decide +kernel
theorem dX6_put_2 : decode cX6_put 2 = .ok (.putfield 57, 3) := by decide +kernel
theorem dX6_put_5 : decode cX6_put 5 = .ok (.aload_n 0, 1) := by decide +kernel
theorem dX6_put_6 : decode cX6_put 6 = .ok (.iload_n 1, 1) := by decide +kernel
theorem dX6_put_7 : decode cX6_put 7 = .ok (.invokevirtual 61, 3) := by decide +kernel
theorem dX6_put_10 : decode cX6_put 10 = .ok (.astore 4, 2) := by decide +kernel
theorem dX6_put_12 : decode cX6_put 12 = .ok (.aload 4, 2) := by decide +kernel
theorem dX6_put_14 : decode cX6_put 14 = .ok (.ifnonnull 5, 3) := by decide +kernel
theorem dX6_put_17 : decode cX6_put 17 = .ok (.iconst (-1), 1) := by decide +kernel
theorem dX6_put_18 : decode cX6_put 18 = .ok (.ireturn, 1) := by decide +kernel
theorem dX6_put_19 : decode cX6_put 19 = .ok (.aload 4, 2) := by decide +kernel
theorem dX6_put_21 : decode cX6_put 21 = .ok (.invokevirtual 247, 3) := by decide +kernel
theorem dX6_put_24 : decode cX6_put 24 = .ok (.ifCond .eq 9, 3) := by decide +kernel
theorem dX6_put_27 : decode cX6_put 27 = .ok (.aload_n 0, 1) := by decide +kernel
theorem dX6_put_28 : decode cX6_put 28 = .ok (.iconst 1, 1) := by decide +kernel
theorem dX6_put_29 : decode cX6_put 29 = .ok (.invokevirtual 77, 3) := by decide +kernel
theorem dX6_put_32 : decode cX6_put 32 = .ok (.ireturn, 1) := by decide +kernel
theorem dX6_put_33 : decode cX6_put 33 = .ok (.aload 4, 2) := by decide +kernel
theorem dX6_put_35 : decode cX6_put 35 = .ok (.iload_n 2, 1) := by decide +kernel
theorem dX6_put_36 : decode cX6_put 36 = .ok (.iconst 1, 1) := by decide +kernel
theorem dX6_put_37 : decode cX6_put 37 = .ok (.invokevirtual 73, 3) := by decide +kernel
theorem dX6_put_40 : decode cX6_put 40 = .ok (.ifCond .ne 9, 3) := by decide +kernel
theorem dX6_put_43 : decode cX6_put 43 = .ok (.aload_n 0, 1) := by decide +kernel
theorem dX6_put_44 : decode cX6_put 44 = .ok (.iconst 3, 1) := by decide +kernel
theorem dX6_put_45 : decode cX6_put 45 = .ok (.invokevirtual 77, 3) := by decide +kernel
theorem dX6_put_48 : decode cX6_put 48 = .ok (.ireturn, 1) := by decide +kernel
theorem dX6_put_49 : decode cX6_put 49 = .ok (.aload 4, 2) := by decide +kernel
theorem dX6_put_51 : decode cX6_put 51 = .ok (.iload_n 2, 1) := by decide +kernel
theorem dX6_put_52 : decode cX6_put 52 = .ok (.iload_n 3, 1) := by decide +kernel
theorem dX6_put_53 : decode cX6_put 53 = .ok (.invokevirtual 253, 3) := by decide +kernel
theorem dX6_put_56 : decode cX6_put 56 = .ok (.iconst 1, 1) := by decide +kernel
theorem dX6_put_57 : decode cX6_put 57 = .ok (.ireturn, 1) := by decide +kernel
theorem dX6_cell_0 : decode cX6_cell 0 = .ok (.aload_n 0, 1) := by decide +kernel
theorem dX6_cell_1 : decode cX6_cell 1 = .ok (.iconst 0, 1) := by decide +kernel
theorem dX6_cell_2 : decode cX6_cell 2 = .ok (.putfield 57, 3) := by decide +kernel
theorem dX6_cell_5 : decode cX6_cell 5 = .ok (.aload_n 0, 1) := by decide +kernel
theorem dX6_cell_6 : decode cX6_cell 6 = .ok (.iload_n 1, 1) := by decide +kernel
theorem dX6_cell_7 : decode cX6_cell 7 = .ok (.invokevirtual 61, 3) := by decide +kernel
theorem dX6_cell_10 : decode cX6_cell 10 = .ok (.astore 4, 2) := by decide +kernel
theorem dX6_cell_12 : decode cX6_cell 12 = .ok (.aload 4, 2) := by decide +kernel
theorem dX6_cell_14 : decode cX6_cell 14 = .ok (.ifnull 10, 3) := by decide +kernel
theorem dX6_cell_17 : decode cX6_cell 17 = .ok (.iload_n 3, 1) := by decide +kernel
theorem dX6_cell_18 : decode cX6_cell 18 = .ok (.invokestatic 65, 3) := by decide +kernel
theorem dX6_cell_21 : decode cX6_cell 21 = .ok (.ifCond .ne 7, 3) := by decide +kernel
theorem dX6_cell_24 : decode cX6_cell 24 = .ok (.ldc2_w 229, 3) := by decide +kernel
theorem dX6_cell_27 : decode cX6_cell 27 = .ok (.lreturn, 1) := by decide +kernel
theorem dX6_cell_28 : decode cX6_cell 28 = .ok (.aload 4, 2) := by decide +kernel
theorem dX6_cell_30 : decode cX6_cell 30 = .ok (.iload_n 3, 1) := by decide +kernel
theorem dX6_cell_31 : decode cX6_cell 31 = .ok (.iload_n 2, 1) := by decide +kernel
theorem dX6_cell_32 : decode cX6_cell 32 = .ok (.iconst 1, 1) := by decide +kernel
theorem dX6_cell_33 : decode cX6_cell 33 = .ok (.invokevirtual 152, 3) := by decide +kernel
theorem dX6_cell_36 : decode cX6_cell 36 = .ok (.istore 5, 2) := by decide +kernel
theorem dX6_cell_38 : decode cX6_cell 38 = .ok (.iload 5, 2) := by decide +kernel
theorem dX6_cell_40 : decode cX6_cell 40 = .ok (.ifCond .eq 13, 3) := by decide +kernel
theorem dX6_cell_43 : decode cX6_cell 43 = .ok (.aload_n 0, 1) := by decide +kernel
theorem dX6_cell_44 : decode cX6_cell 44 = .ok (.iload 5, 2) := by decide +kernel
theorem dX6_cell_46 : decode cX6_cell 46 = .ok (.putfield 57, 3) := by decide +kernel
theorem dX6_cell_49 : decode cX6_cell 49 = .ok (.ldc2_w 229, 3) := by decide +kernel
theorem dX6_cell_52 : decode cX6_cell 52 = .ok (.lreturn, 1) := by decide +kernel
theorem dX6_cell_53 : decode cX6_cell 53 = .ok (.aload 4, 2) := by decide +kernel
theorem dX6_cell_55 : decode cX6_cell 55 = .ok (.iload_n 2, 1) := by decide +kernel
theorem dX6_cell_56 : decode cX6_cell 56 = .ok (.invokevirtual 171, 3) := by decide +kernel
theorem dX6_cell_59 : decode cX6_cell 59 = .ok (.i2l, 1) := by decide +kernel
theorem dX6_cell_60 : decode cX6_cell 60 = .ok (.lreturn, 1) := by decide +kernel
theorem dX6_copy_0 : decode cX6_copy 0 = .ok (.aload_n 0, 1) := by decide +kernel
theorem dX6_copy_1 : decode cX6_copy 1 = .ok (.iconst 0, 1) := by decide +kernel
theorem dX6_copy_2 : decode cX6_copy 2 = .ok (.putfield 57, 3) := by decide +kernel
theorem dX6_copy_5 : decode cX6_copy 5 = .ok (.aload_n 0, 1) := by decide +kernel
theorem dX6_copy_6 : decode cX6_copy 6 = .ok (.iload_n 1, 1) := by decide +kernel
theorem dX6_copy_7 : decode cX6_copy 7 = .ok (.invokevirtual 61, 3) := by decide +kernel
theorem dX6_copy_10 : decode cX6_copy 10 = .ok (.astore 6, 2) := by decide +kernel
theorem dX6_copy_12 : decode cX6_copy 12 = .ok (.aload_n 0, 1) := by decide +kernel
theorem dX6_copy_13 : decode cX6_copy 13 = .ok (.iload_n 3, 1) := by decide +kernel
theorem dX6_copy_14 : decode cX6_copy 14 = .ok (.invokevirtual 61, 3) := by decide +kernel
theorem dX6_copy_17 : decode cX6_copy 17 = .ok (.astore 7, 2) := by decide +kernel
theorem dX6_copy_19 : decode cX6_copy 19 = .ok (.aload 6, 2) := by decide +kernel
theorem dX6_copy_21 : decode cX6_copy 21 = .ok (.ifnull 8, 3) := by decide +kernel
theorem dX6_copy_24 : decode cX6_copy 24 = .ok (.aload 7, 2) := by decide +kernel
theorem dX6_copy_26 : decode cX6_copy 26 = .ok (.ifnonnull 5, 3) := by decide +kernel
theorem dX6_copy_29 : decode cX6_copy 29 = .ok (.iconst (-1), 1) := by decide +kernel
theorem dX6_copy_30 : decode cX6_copy 30 = .ok (.ireturn, 1) := by decide +kernel
theorem dX6_copy_31 : decode cX6_copy 31 = .ok (.aload 6, 2) := by decide +kernel
theorem dX6_copy_33 : decode cX6_copy 33 = .ok (.invokevirtual 247, 3) := by decide +kernel
theorem dX6_copy_36 : decode cX6_copy 36 = .ok (.ifCond .ne 11, 3) := by decide +kernel
theorem dX6_copy_39 : decode cX6_copy 39 = .ok (.aload 7, 2) := by decide +kernel
theorem dX6_copy_41 : decode cX6_copy 41 = .ok (.invokevirtual 247, 3) := by decide +kernel
theorem dX6_copy_44 : decode cX6_copy 44 = .ok (.ifCond .eq 9, 3) := by decide +kernel
theorem dX6_copy_47 : decode cX6_copy 47 = .ok (.aload_n 0, 1) := by decide +kernel
theorem dX6_copy_48 : decode cX6_copy 48 = .ok (.iconst 1, 1) := by decide +kernel
theorem dX6_copy_49 : decode cX6_copy 49 = .ok (.invokevirtual 77, 3) := by decide +kernel
theorem dX6_copy_52 : decode cX6_copy 52 = .ok (.ireturn, 1) := by decide +kernel
theorem dX6_copy_53 : decode cX6_copy 53 = .ok (.aload 6, 2) := by decide +kernel
theorem dX6_copy_55 : decode cX6_copy 55 = .ok (.getfield 256, 3) := by decide +kernel
theorem dX6_copy_58 : decode cX6_copy 58 = .ok (.aload 7, 2) := by decide +kernel
theorem dX6_copy_60 : decode cX6_copy 60 = .ok (.getfield 256, 3) := by decide +kernel
theorem dX6_copy_63 : decode cX6_copy 63 = .ok (.if_icmp .eq 9, 3) := by decide +kernel
theorem dX6_copy_66 : decode cX6_copy 66 = .ok (.aload_n 0, 1) := by decide +kernel
theorem dX6_copy_67 : decode cX6_copy 67 = .ok (.iconst 2, 1) := by decide +kernel
theorem dX6_copy_68 : decode cX6_copy 68 = .ok (.invokevirtual 77, 3) := by decide +kernel
theorem dX6_copy_71 : decode cX6_copy 71 = .ok (.ireturn, 1) := by decide +kernel
theorem dX6_copy_72 : decode cX6_copy 72 = .ok (.aload 6, 2) := by decide +kernel
theorem dX6_copy_74 : decode cX6_copy 74 = .ok (.iload_n 2, 1) := by decide +kernel
theorem dX6_copy_75 : decode cX6_copy 75 = .ok (.iload 5, 2) := by decide +kernel
theorem dX6_copy_77 : decode cX6_copy 77 = .ok (.invokevirtual 73, 3) := by decide +kernel
theorem dX6_copy_80 : decode cX6_copy 80 = .ok (.ifCond .eq 15, 3) := by decide +kernel
theorem dX6_copy_83 : decode cX6_copy 83 = .ok (.aload 7, 2) := by decide +kernel
theorem dX6_copy_85 : decode cX6_copy 85 = .ok (.iload 4, 2) := by decide +kernel
theorem dX6_copy_87 : decode cX6_copy 87 = .ok (.iload 5, 2) := by decide +kernel
theorem dX6_copy_89 : decode cX6_copy 89 = .ok (.invokevirtual 73, 3) := by decide +kernel
theorem dX6_copy_92 : decode cX6_copy 92 = .ok (.ifCond .ne 9, 3) := by decide +kernel
theorem dX6_copy_95 : decode cX6_copy 95 = .ok (.aload_n 0, 1) := by decide +kernel
theorem dX6_copy_96 : decode cX6_copy 96 = .ok (.iconst 3, 1) := by decide +kernel
theorem dX6_copy_97 : decode cX6_copy 97 = .ok (.invokevirtual 77, 3) := by decide +kernel
theorem dX6_copy_100 : decode cX6_copy 100 = .ok (.ireturn, 1) := by decide +kernel
theorem dX6_copy_101 : decode cX6_copy 101 = .ok (.aload 6, 2) := by decide +kernel
theorem dX6_copy_103 : decode cX6_copy 103 = .ok (.getfield 259, 3) := by decide +kernel
theorem dX6_copy_106 : decode cX6_copy 106 = .ok (.iload_n 2, 1) := by decide +kernel
theorem dX6_copy_107 : decode cX6_copy 107 = .ok (.aload 7, 2) := by decide +kernel
theorem dX6_copy_109 : decode cX6_copy 109 = .ok (.getfield 259, 3) := by decide +kernel
theorem dX6_copy_112 : decode cX6_copy 112 = .ok (.iload 4, 2) := by decide +kernel
theorem dX6_copy_114 : decode cX6_copy 114 = .ok (.iload 5, 2) := by decide +kernel
theorem dX6_copy_116 : decode cX6_copy 116 = .ok (.invokestatic 231, 3) := by decide +kernel
theorem dX6_copy_119 : decode cX6_copy 119 = .ok (.iload 5, 2) := by decide +kernel
theorem dX6_copy_121 : decode cX6_copy 121 = .ok (.ireturn, 1) := by decide +kernel
theorem dX6_tell_0 : decode cX6_tell 0 = .ok (.aload_n 0, 1) := by decide +kernel
theorem dX6_tell_1 : decode cX6_tell 1 = .ok (.getfield 14, 3) := by decide +kernel
theorem dX6_tell_4 : decode cX6_tell 4 = .ok (.iload_n 1, 1) := by decide +kernel
theorem dX6_tell_5 : decode cX6_tell 5 = .ok (.invokevirtual 113, 3) := by decide +kernel
theorem dX6_tell_8 : decode cX6_tell 8 = .ok (.ifCond .ne 5, 3) := by decide +kernel
theorem dX6_tell_11 : decode cX6_tell 11 = .ok (.iconst (-1), 1) := by decide +kernel
theorem dX6_tell_12 : decode cX6_tell 12 = .ok (.ireturn, 1) := by decide +kernel
theorem dX6_tell_13 : decode cX6_tell 13 = .ok (.aload_n 0, 1) := by decide +kernel
theorem dX6_tell_14 : decode cX6_tell 14 = .ok (.getfield 14, 3) := by decide +kernel
theorem dX6_tell_17 : decode cX6_tell 17 = .ok (.getfield 116, 3) := by decide +kernel
theorem dX6_tell_20 : decode cX6_tell 20 = .ok (.iload_n 1, 1) := by decide +kernel
theorem dX6_tell_21 : decode cX6_tell 21 = .ok (.iaload, 1) := by decide +kernel
theorem dX6_tell_22 : decode cX6_tell 22 = .ok (.lookupswitch 54 #[(1, 40), (2, 26)], 26) := by decide +kernel
theorem dX6_tell_48 : decode cX6_tell 48 = .ok (.aload_n 0, 1) := by decide +kernel
theorem dX6_tell_49 : decode cX6_tell 49 = .ok (.aload_n 0, 1) := by decide +kernel
theorem dX6_tell_50 : decode cX6_tell 50 = .ok (.getfield 14, 3) := by decide +kernel
theorem dX6_tell_53 : decode cX6_tell 53 = .ok (.getfield 119, 3) := by decide +kernel
theorem dX6_tell_56 : decode cX6_tell 56 = .ok (.iload_n 1, 1) := by decide +kernel
theorem dX6_tell_57 : decode cX6_tell 57 = .ok (.iaload, 1) := by decide +kernel
theorem dX6_tell_58 : decode cX6_tell 58 = .ok (.invokevirtual 262, 3) := by decide +kernel
theorem dX6_tell_61 : decode cX6_tell 61 = .ok (.ireturn, 1) := by decide +kernel
theorem dX6_tell_62 : decode cX6_tell 62 = .ok (.aload_n 0, 1) := by decide +kernel
theorem dX6_tell_63 : decode cX6_tell 63 = .ok (.aload_n 0, 1) := by decide +kernel
theorem dX6_tell_64 : decode cX6_tell 64 = .ok (.getfield 14, 3) := by decide +kernel
theorem dX6_tell_67 : decode cX6_tell 67 = .ok (.getfield 119, 3) := by decide +kernel
theorem dX6_tell_70 : decode cX6_tell 70 = .ok (.iload_n 1, 1) := by decide +kernel
theorem dX6_tell_71 : decode cX6_tell 71 = .ok (.iaload, 1) := by decide +kernel
theorem dX6_tell_72 : decode cX6_tell 72 = .ok (.invokevirtual 265, 3) := by decide +kernel
theorem dX6_tell_75 : decode cX6_tell 75 = .ok (.ireturn, 1) := by decide +kernel
theorem dX6_tell_76 : decode cX6_tell 76 = .ok (.aload_n 0, 1) := by decide +kernel
theorem dX6_tell_77 : decode cX6_tell 77 = .ok (.aload_n 0, 1) := by decide +kernel
theorem dX6_tell_78 : decode cX6_tell 78 = .ok (.getfield 14, 3) := by decide +kernel
theorem dX6_tell_81 : decode cX6_tell 81 = .ok (.getfield 119, 3) := by decide +kernel
theorem dX6_tell_84 : decode cX6_tell 84 = .ok (.iload_n 1, 1) := by decide +kernel
theorem dX6_tell_85 : decode cX6_tell 85 = .ok (.iaload, 1) := by decide +kernel
theorem dX6_tell_86 : decode cX6_tell 86 = .ok (.invokevirtual 268, 3) := by decide +kernel
theorem dX6_tell_89 : decode cX6_tell 89 = .ok (.ireturn, 1) := by decide +kernel
theorem dX6_plainBody_0 : decode cX6_plainBody 0 = .ok (.aload_n 0, 1) := by decide +kernel
theorem dX6_plainBody_1 : decode cX6_plainBody 1 = .ok (.iconst 1, 1) := by decide +kernel
theorem dX6_plainBody_2 : decode cX6_plainBody 2 = .ok (.invokevirtual 271, 3) := by decide +kernel
theorem dX6_plainBody_5 : decode cX6_plainBody 5 = .ok (.iload_n 1, 1) := by decide +kernel
theorem dX6_plainBody_6 : decode cX6_plainBody 6 = .ok (.ireturn, 1) := by decide +kernel
theorem dX6_broadBody_0 : decode cX6_broadBody 0 = .ok (.aload_n 0, 1) := by decide +kernel
theorem dX6_broadBody_1 : decode cX6_broadBody 1 = .ok (.iconst 2, 1) := by decide +kernel
theorem dX6_broadBody_2 : decode cX6_broadBody 2 = .ok (.invokevirtual 271, 3) := by decide +kernel
theorem dX6_broadBody_5 : decode cX6_broadBody 5 = .ok (.aload_n 0, 1) := by decide +kernel
theorem dX6_broadBody_6 : decode cX6_broadBody 6 = .ok (.iload_n 1, 1) := by decide +kernel
theorem dX6_broadBody_7 : decode cX6_broadBody 7 = .ok (.invokevirtual 268, 3) := by decide +kernel
theorem dX6_broadBody_10 : decode cX6_broadBody 10 = .ok (.bipush 100, 2) := by decide +kernel
theorem dX6_broadBody_12 : decode cX6_broadBody 12 = .ok (.iadd, 1) := by decide +kernel
theorem dX6_broadBody_13 : decode cX6_broadBody 13 = .ok (.ireturn, 1) := by decide +kernel
theorem dX6_doubleBody_0 : decode cX6_doubleBody 0 = .ok (.aload_n 0, 1) := by decide +kernel
theorem dX6_doubleBody_1 : decode cX6_doubleBody 1 = .ok (.iconst 3, 1) := by decide +kernel
theorem dX6_doubleBody_2 : decode cX6_doubleBody 2 = .ok (.invokevirtual 271, 3) := by decide +kernel
theorem dX6_doubleBody_5 : decode cX6_doubleBody 5 = .ok (.aload_n 0, 1) := by decide +kernel
theorem dX6_doubleBody_6 : decode cX6_doubleBody 6 = .ok (.iload_n 1, 1) := by decide +kernel
theorem dX6_doubleBody_7 : decode cX6_doubleBody 7 = .ok (.invokevirtual 265, 3) := by decide +kernel
theorem dX6_doubleBody_10 : decode cX6_doubleBody 10 = .ok (.istore_n 2, 1) := by decide +kernel
theorem dX6_doubleBody_11 : decode cX6_doubleBody 11 = .ok (.iload_n 2, 1) := by decide +kernel
theorem dX6_doubleBody_12 : decode cX6_doubleBody 12 = .ok (.aload_n 0, 1) := by decide +kernel
theorem dX6_doubleBody_13 : decode cX6_doubleBody 13 = .ok (.iload_n 1, 1) := by decide +kernel
theorem dX6_doubleBody_14 : decode cX6_doubleBody 14 = .ok (.invokevirtual 268, 3) := by decide +kernel
theorem dX6_doubleBody_17 : decode cX6_doubleBody 17 = .ok (.iadd, 1) := by decide +kernel
theorem dX6_doubleBody_18 : decode cX6_doubleBody 18 = .ok (.ireturn, 1) := by decide +kernel
theorem dX6_feel_0 : decode cX6_feel 0 = .ok (.aload_n 0, 1) := by decide +kernel
theorem dX6_feel_1 : decode cX6_feel 1 = .ok (.getfield 14, 3) := by decide +kernel
theorem dX6_feel_4 : decode cX6_feel 4 = .ok (.iload_n 1, 1) := by decide +kernel
theorem dX6_feel_5 : decode cX6_feel 5 = .ok (.invokevirtual 113, 3) := by decide +kernel
theorem dX6_feel_8 : decode cX6_feel 8 = .ok (.ifCond .ne 5, 3) := by decide +kernel
theorem dX6_feel_11 : decode cX6_feel 11 = .ok (.iconst (-1), 1) := by decide +kernel
theorem dX6_feel_12 : decode cX6_feel 12 = .ok (.ireturn, 1) := by decide +kernel
theorem dX6_feel_13 : decode cX6_feel 13 = .ok (.aload_n 0, 1) := by decide +kernel
theorem dX6_feel_14 : decode cX6_feel 14 = .ok (.getfield 14, 3) := by decide +kernel
theorem dX6_feel_17 : decode cX6_feel 17 = .ok (.getfield 116, 3) := by decide +kernel
theorem dX6_feel_20 : decode cX6_feel 20 = .ok (.iload_n 1, 1) := by decide +kernel
theorem dX6_feel_21 : decode cX6_feel 21 = .ok (.iaload, 1) := by decide +kernel
theorem dX6_feel_22 : decode cX6_feel 22 = .ok (.iconst 2, 1) := by decide +kernel
theorem dX6_feel_23 : decode cX6_feel 23 = .ok (.if_icmp .ne 10, 3) := by decide +kernel
theorem dX6_feel_26 : decode cX6_feel 26 = .ok (.aload_n 0, 1) := by decide +kernel
theorem dX6_feel_27 : decode cX6_feel 27 = .ok (.invokevirtual 275, 3) := by decide +kernel
theorem dX6_feel_30 : decode cX6_feel 30 = .ok (.goto 8, 3) := by decide +kernel
theorem dX6_feel_33 : decode cX6_feel 33 = .ok (.aload_n 0, 1) := by decide +kernel
theorem dX6_feel_34 : decode cX6_feel 34 = .ok (.iload_n 1, 1) := by decide +kernel
theorem dX6_feel_35 : decode cX6_feel 35 = .ok (.invokevirtual 278, 3) := by decide +kernel
theorem dX6_feel_38 : decode cX6_feel 38 = .ok (.ireturn, 1) := by decide +kernel
theorem dX6_lentBody_0 : decode cX6_lentBody 0 = .ok (.aload_n 0, 1) := by decide +kernel
theorem dX6_lentBody_1 : decode cX6_lentBody 1 = .ok (.iconst 4, 1) := by decide +kernel
theorem dX6_lentBody_2 : decode cX6_lentBody 2 = .ok (.invokevirtual 271, 3) := by decide +kernel
theorem dX6_lentBody_5 : decode cX6_lentBody 5 = .ok (.iload_n 1, 1) := by decide +kernel
theorem dX6_lentBody_6 : decode cX6_lentBody 6 = .ok (.ireturn, 1) := by decide +kernel
theorem dX6_ownBody_0 : decode cX6_ownBody 0 = .ok (.aload_n 0, 1) := by decide +kernel
theorem dX6_ownBody_1 : decode cX6_ownBody 1 = .ok (.iconst 5, 1) := by decide +kernel
theorem dX6_ownBody_2 : decode cX6_ownBody 2 = .ok (.invokevirtual 271, 3) := by decide +kernel
theorem dX6_ownBody_5 : decode cX6_ownBody 5 = .ok (.bipush 70, 2) := by decide +kernel
theorem dX6_ownBody_7 : decode cX6_ownBody 7 = .ok (.ireturn, 1) := by decide +kernel
theorem dX6_leave_0 : decode cX6_leave 0 = .ok (.aload_n 0, 1) := by decide +kernel
theorem dX6_leave_1 : decode cX6_leave 1 = .ok (.bipush 31, 2) := by decide +kernel
theorem dX6_leave_3 : decode cX6_leave 3 = .ok (.aload_n 0, 1) := by decide +kernel
theorem dX6_leave_4 : decode cX6_leave 4 = .ok (.getfield 281, 3) := by decide +kernel
theorem dX6_leave_7 : decode cX6_leave 7 = .ok (.imul, 1) := by decide +kernel
theorem dX6_leave_8 : decode cX6_leave 8 = .ok (.iload_n 1, 1) := by decide +kernel
theorem dX6_leave_9 : decode cX6_leave 9 = .ok (.iadd, 1) := by decide +kernel
theorem dX6_leave_10 : decode cX6_leave 10 = .ok (.putfield 281, 3) := by decide +kernel
theorem dX6_leave_13 : decode cX6_leave 13 = .ok (.return_, 1) := by decide +kernel
theorem dX6_as_0 : decode cX6_as 0 = .ok (.aload_n 0, 1) := by decide +kernel
theorem dX6_as_1 : decode cX6_as 1 = .ok (.iconst 0, 1) := by decide +kernel
theorem dX6_as_2 : decode cX6_as 2 = .ok (.putfield 57, 3) := by decide +kernel
theorem dX6_as_5 : decode cX6_as 5 = .ok (.aload_n 0, 1) := by decide +kernel
theorem dX6_as_6 : decode cX6_as 6 = .ok (.getfield 14, 3) := by decide +kernel
theorem dX6_as_9 : decode cX6_as 9 = .ok (.iload_n 1, 1) := by decide +kernel
theorem dX6_as_10 : decode cX6_as 10 = .ok (.invokevirtual 113, 3) := by decide +kernel
theorem dX6_as_13 : decode cX6_as 13 = .ok (.ifCond .ne 5, 3) := by decide +kernel
theorem dX6_as_16 : decode cX6_as 16 = .ok (.iconst (-1), 1) := by decide +kernel
theorem dX6_as_17 : decode cX6_as 17 = .ok (.ireturn, 1) := by decide +kernel
theorem dX6_as_18 : decode cX6_as 18 = .ok (.iload_n 2, 1) := by decide +kernel
theorem dX6_as_19 : decode cX6_as 19 = .ok (.iconst 0, 1) := by decide +kernel
theorem dX6_as_20 : decode cX6_as 20 = .ok (.iconst 2, 1) := by decide +kernel
theorem dX6_as_21 : decode cX6_as 21 = .ok (.invokestatic 134, 3) := by decide +kernel
theorem dX6_as_24 : decode cX6_as 24 = .ok (.ifCond .ne 6, 3) := by decide +kernel
theorem dX6_as_27 : decode cX6_as 27 = .ok (.bipush (-2), 2) := by decide +kernel
theorem dX6_as_29 : decode cX6_as 29 = .ok (.ireturn, 1) := by decide +kernel
theorem dX6_as_30 : decode cX6_as 30 = .ok (.aload_n 0, 1) := by decide +kernel
theorem dX6_as_31 : decode cX6_as 31 = .ok (.getfield 14, 3) := by decide +kernel
theorem dX6_as_34 : decode cX6_as 34 = .ok (.getfield 116, 3) := by decide +kernel
theorem dX6_as_37 : decode cX6_as 37 = .ok (.iload_n 1, 1) := by decide +kernel
theorem dX6_as_38 : decode cX6_as 38 = .ok (.iaload, 1) := by decide +kernel
theorem dX6_as_39 : decode cX6_as 39 = .ok (.iload_n 2, 1) := by decide +kernel
theorem dX6_as_40 : decode cX6_as 40 = .ok (.if_icmp .lt 7, 3) := by decide +kernel
theorem dX6_as_43 : decode cX6_as 43 = .ok (.iconst 1, 1) := by decide +kernel
theorem dX6_as_44 : decode cX6_as 44 = .ok (.goto 8, 3) := by decide +kernel
theorem dX6_as_47 : decode cX6_as 47 = .ok (.aload_n 0, 1) := by decide +kernel
theorem dX6_as_48 : decode cX6_as 48 = .ok (.iconst 2, 1) := by decide +kernel
theorem dX6_as_49 : decode cX6_as 49 = .ok (.invokevirtual 77, 3) := by decide +kernel
theorem dX6_as_52 : decode cX6_as 52 = .ok (.ireturn, 1) := by decide +kernel
theorem dX6_trace_0 : decode cX6_trace 0 = .ok (.aload_n 0, 1) := by decide +kernel
theorem dX6_trace_1 : decode cX6_trace 1 = .ok (.getfield 281, 3) := by decide +kernel
theorem dX6_trace_4 : decode cX6_trace 4 = .ok (.ireturn, 1) := by decide +kernel
theorem dX6_fault_0 : decode cX6_fault 0 = .ok (.aload_n 0, 1) := by decide +kernel
theorem dX6_fault_1 : decode cX6_fault 1 = .ok (.getfield 57, 3) := by decide +kernel
theorem dX6_fault_4 : decode cX6_fault 4 = .ok (.ireturn, 1) := by decide +kernel
theorem dX6_many_0 : decode cX6_many 0 = .ok (.iload_n 1, 1) := by decide +kernel
theorem dX6_many_1 : decode cX6_many 1 = .ok (.tableswitch 82 0 4 #[35, 43, 51, 66, 74], 35) := by decide +kernel
theorem dX6_many_36 : decode cX6_many 36 = .ok (.aload_n 0, 1) := by decide +kernel
theorem dX6_many_37 : decode cX6_many 37 = .ok (.getfield 14, 3) := by decide +kernel
theorem dX6_many_40 : decode cX6_many 40 = .ok (.getfield 193, 3) := by decide +kernel
theorem dX6_many_43 : decode cX6_many 43 = .ok (.ireturn, 1) := by decide +kernel
theorem dX6_many_44 : decode cX6_many 44 = .ok (.aload_n 0, 1) := by decide +kernel
theorem dX6_many_45 : decode cX6_many 45 = .ok (.getfield 14, 3) := by decide +kernel
theorem dX6_many_48 : decode cX6_many 48 = .ok (.getfield 98, 3) := by decide +kernel
theorem dX6_many_51 : decode cX6_many 51 = .ok (.ireturn, 1) := by decide +kernel
theorem dX6_many_52 : decode cX6_many 52 = .ok (.aload_n 0, 1) := by decide +kernel
theorem dX6_many_53 : decode cX6_many 53 = .ok (.getfield 14, 3) := by decide +kernel
theorem dX6_many_56 : decode cX6_many 56 = .ok (.aload_n 0, 1) := by decide +kernel
theorem dX6_many_57 : decode cX6_many 57 = .ok (.getfield 14, 3) := by decide +kernel
theorem dX6_many_60 : decode cX6_many 60 = .ok (.getfield 107, 3) := by decide +kernel
theorem dX6_many_63 : decode cX6_many 63 = .ok (.invokevirtual 145, 3) := by decide +kernel
theorem dX6_many_66 : decode cX6_many 66 = .ok (.ireturn, 1) := by decide +kernel
theorem dX6_many_67 : decode cX6_many 67 = .ok (.aload_n 0, 1) := by decide +kernel
theorem dX6_many_68 : decode cX6_many 68 = .ok (.getfield 14, 3) := by decide +kernel
theorem dX6_many_71 : decode cX6_many 71 = .ok (.invokevirtual 284, 3) := by decide +kernel
theorem dX6_many_74 : decode cX6_many 74 = .ok (.ireturn, 1) := by decide +kernel
theorem dX6_many_75 : decode cX6_many 75 = .ok (.aload_n 0, 1) := by decide +kernel
theorem dX6_many_76 : decode cX6_many 76 = .ok (.getfield 35, 3) := by decide +kernel
theorem dX6_many_79 : decode cX6_many 79 = .ok (.getfield 92, 3) := by decide +kernel
theorem dX6_many_82 : decode cX6_many 82 = .ok (.ireturn, 1) := by decide +kernel
theorem dX6_many_83 : decode cX6_many 83 = .ok (.bipush (-2), 2) := by decide +kernel
theorem dX6_many_85 : decode cX6_many 85 = .ok (.ireturn, 1) := by decide +kernel
theorem dX6_sheetAt_0 : decode cX6_sheetAt 0 = .ok (.iload_n 1, 1) := by decide +kernel
theorem dX6_sheetAt_1 : decode cX6_sheetAt 1 = .ok (.ifCond .lt 17, 3) := by decide +kernel
theorem dX6_sheetAt_4 : decode cX6_sheetAt 4 = .ok (.iload_n 1, 1) := by decide +kernel
theorem dX6_sheetAt_5 : decode cX6_sheetAt 5 = .ok (.iconst 4, 1) := by decide +kernel
theorem dX6_sheetAt_6 : decode cX6_sheetAt 6 = .ok (.if_icmp .ge 12, 3) := by decide +kernel
theorem dX6_sheetAt_9 : decode cX6_sheetAt 9 = .ok (.aload_n 0, 1) := by decide +kernel
theorem dX6_sheetAt_10 : decode cX6_sheetAt 10 = .ok (.getfield 48, 3) := by decide +kernel
theorem dX6_sheetAt_13 : decode cX6_sheetAt 13 = .ok (.iload_n 1, 1) := by decide +kernel
theorem dX6_sheetAt_14 : decode cX6_sheetAt 14 = .ok (.aaload, 1) := by decide +kernel
theorem dX6_sheetAt_15 : decode cX6_sheetAt 15 = .ok (.goto 4, 3) := by decide +kernel
theorem dX6_sheetAt_18 : decode cX6_sheetAt 18 = .ok (.aconst_null, 1) := by decide +kernel
theorem dX6_sheetAt_19 : decode cX6_sheetAt 19 = .ok (.areturn, 1) := by decide +kernel
theorem dX6_faulted_0 : decode cX6_faulted 0 = .ok (.aload_n 0, 1) := by decide +kernel
theorem dX6_faulted_1 : decode cX6_faulted 1 = .ok (.iload_n 1, 1) := by decide +kernel
theorem dX6_faulted_2 : decode cX6_faulted 2 = .ok (.putfield 57, 3) := by decide +kernel
theorem dX6_faulted_5 : decode cX6_faulted 5 = .ok (.bipush (-10), 2) := by decide +kernel
theorem dX6_faulted_7 : decode cX6_faulted 7 = .ok (.iload_n 1, 1) := by decide +kernel
theorem dX6_faulted_8 : decode cX6_faulted 8 = .ok (.isub, 1) := by decide +kernel
theorem dX6_faulted_9 : decode cX6_faulted 9 = .ok (.ireturn, 1) := by decide +kernel
theorem dX6_isLane_0 : decode cX6_isLane 0 = .ok (.iload_n 0, 1) := by decide +kernel
theorem dX6_isLane_1 : decode cX6_isLane 1 = .ok (.iconst 0, 1) := by decide +kernel
theorem dX6_isLane_2 : decode cX6_isLane 2 = .ok (.iconst 2, 1) := by decide +kernel
theorem dX6_isLane_3 : decode cX6_isLane 3 = .ok (.invokestatic 134, 3) := by decide +kernel
theorem dX6_isLane_6 : decode cX6_isLane 6 = .ok (.ireturn, 1) := by decide +kernel
theorem dX6_isIn_0 : decode cX6_isIn 0 = .ok (.iload_n 0, 1) := by decide +kernel
theorem dX6_isIn_1 : decode cX6_isIn 1 = .ok (.iload_n 1, 1) := by decide +kernel
theorem dX6_isIn_2 : decode cX6_isIn 2 = .ok (.if_icmp .lt 12, 3) := by decide +kernel
theorem dX6_isIn_5 : decode cX6_isIn 5 = .ok (.iload_n 0, 1) := by decide +kernel
theorem dX6_isIn_6 : decode cX6_isIn 6 = .ok (.iload_n 2, 1) := by decide +kernel
theorem dX6_isIn_7 : decode cX6_isIn 7 = .ok (.if_icmp .gt 7, 3) := by decide +kernel
theorem dX6_isIn_10 : decode cX6_isIn 10 = .ok (.iconst 1, 1) := by decide +kernel
theorem dX6_isIn_11 : decode cX6_isIn 11 = .ok (.goto 4, 3) := by decide +kernel
theorem dX6_isIn_14 : decode cX6_isIn 14 = .ok (.iconst 0, 1) := by decide +kernel
theorem dX6_isIn_15 : decode cX6_isIn 15 = .ok (.ireturn, 1) := by decide +kernel
theorem dX6_wrapped_0 : decode cX6_wrapped 0 = .ok (.iload_n 1, 1) := by decide +kernel
theorem dX6_wrapped_1 : decode cX6_wrapped 1 = .ok (.iconst 1, 1) := by decide +kernel
theorem dX6_wrapped_2 : decode cX6_wrapped 2 = .ok (.if_icmp .ge 7, 3) := by decide +kernel
theorem dX6_wrapped_5 : decode cX6_wrapped 5 = .ok (.iconst 0, 1) := by decide +kernel
theorem dX6_wrapped_6 : decode cX6_wrapped 6 = .ok (.goto 8, 3) := by decide +kernel
theorem dX6_wrapped_9 : decode cX6_wrapped 9 = .ok (.iload_n 0, 1) := by decide +kernel
theorem dX6_wrapped_10 : decode cX6_wrapped 10 = .ok (.iload_n 1, 1) := by decide +kernel
theorem dX6_wrapped_11 : decode cX6_wrapped 11 = .ok (.invokestatic 287, 3) := by decide +kernel
theorem dX6_wrapped_14 : decode cX6_wrapped 14 = .ok (.ireturn, 1) := by decide +kernel
theorem dX7_init_0 : decode cX7_init 0 = .ok (.aload_n 0, 1) := by decide +kernel
theorem dX7_init_1 : decode cX7_init 1 = .ok (.invokespecial 1, 3) := by decide +kernel
theorem dX7_init_4 : decode cX7_init 4 = .ok (.aload_n 0, 1) := by decide +kernel
theorem dX7_init_5 : decode cX7_init 5 = .ok (.iconst 4, 1) := by decide +kernel
theorem dX7_init_6 : decode cX7_init 6 = .ok (.newarray .int, 2) := by decide +kernel
theorem dX7_init_8 : decode cX7_init 8 = .ok (.dup, 1) := by decide +kernel
theorem dX7_init_9 : decode cX7_init 9 = .ok (.iconst 0, 1) := by decide +kernel
theorem dX7_init_10 : decode cX7_init 10 = .ok (.bipush (-9), 2) := by decide +kernel
theorem dX7_init_12 : decode cX7_init 12 = .ok (.iastore, 1) := by decide +kernel
theorem dX7_init_13 : decode cX7_init 13 = .ok (.dup, 1) := by decide +kernel
theorem dX7_init_14 : decode cX7_init 14 = .ok (.iconst 1, 1) := by decide +kernel
theorem dX7_init_15 : decode cX7_init 15 = .ok (.bipush (-9), 2) := by decide +kernel
theorem dX7_init_17 : decode cX7_init 17 = .ok (.iastore, 1) := by decide +kernel
theorem dX7_init_18 : decode cX7_init 18 = .ok (.dup, 1) := by decide +kernel
theorem dX7_init_19 : decode cX7_init 19 = .ok (.iconst 2, 1) := by decide +kernel
theorem dX7_init_20 : decode cX7_init 20 = .ok (.bipush (-9), 2) := by decide +kernel
theorem dX7_init_22 : decode cX7_init 22 = .ok (.iastore, 1) := by decide +kernel
theorem dX7_init_23 : decode cX7_init 23 = .ok (.dup, 1) := by decide +kernel
theorem dX7_init_24 : decode cX7_init 24 = .ok (.iconst 3, 1) := by decide +kernel
theorem dX7_init_25 : decode cX7_init 25 = .ok (.bipush (-9), 2) := by decide +kernel
theorem dX7_init_27 : decode cX7_init 27 = .ok (.iastore, 1) := by decide +kernel
theorem dX7_init_28 : decode cX7_init 28 = .ok (.putfield 9, 3) := by decide +kernel
theorem dX7_init_31 : decode cX7_init 31 = .ok (.aload_n 0, 1) := by decide +kernel
theorem dX7_init_32 : decode cX7_init 32 = .ok (.iconst 4, 1) := by decide +kernel
theorem dX7_init_33 : decode cX7_init 33 = .ok (.newarray .int, 2) := by decide +kernel
theorem dX7_init_35 : decode cX7_init 35 = .ok (.putfield 13, 3) := by decide +kernel
theorem dX7_init_38 : decode cX7_init 38 = .ok (.aload_n 0, 1) := by decide +kernel
theorem dX7_init_39 : decode cX7_init 39 = .ok (.sipush 240, 3) := by decide +kernel
theorem dX7_init_42 : decode cX7_init 42 = .ok (.newarray .int, 2) := by decide +kernel
theorem dX7_init_44 : decode cX7_init 44 = .ok (.putfield 16, 3) := by decide +kernel
theorem dX7_init_47 : decode cX7_init 47 = .ok (.aload_n 0, 1) := by decide +kernel
theorem dX7_init_48 : decode cX7_init 48 = .ok (.iconst 5, 1) := by decide +kernel
theorem dX7_init_49 : decode cX7_init 49 = .ok (.newarray .int, 2) := by decide +kernel
theorem dX7_init_51 : decode cX7_init 51 = .ok (.putfield 19, 3) := by decide +kernel
theorem dX7_init_54 : decode cX7_init 54 = .ok (.aload_n 0, 1) := by decide +kernel
theorem dX7_init_55 : decode cX7_init 55 = .ok (.iconst 5, 1) := by decide +kernel
theorem dX7_init_56 : decode cX7_init 56 = .ok (.newarray .int, 2) := by decide +kernel
theorem dX7_init_58 : decode cX7_init 58 = .ok (.putfield 22, 3) := by decide +kernel
theorem dX7_init_61 : decode cX7_init 61 = .ok (.aload_n 0, 1) := by decide +kernel
theorem dX7_init_62 : decode cX7_init 62 = .ok (.iconst 5, 1) := by decide +kernel
theorem dX7_init_63 : decode cX7_init 63 = .ok (.newarray .int, 2) := by decide +kernel
theorem dX7_init_65 : decode cX7_init 65 = .ok (.putfield 25, 3) := by decide +kernel
theorem dX7_init_68 : decode cX7_init 68 = .ok (.aload_n 0, 1) := by decide +kernel
theorem dX7_init_69 : decode cX7_init 69 = .ok (.iconst 5, 1) := by decide +kernel
theorem dX7_init_70 : decode cX7_init 70 = .ok (.newarray .int, 2) := by decide +kernel
theorem dX7_init_72 : decode cX7_init 72 = .ok (.putfield 28, 3) := by decide +kernel
theorem dX7_init_75 : decode cX7_init 75 = .ok (.aload_n 0, 1) := by decide +kernel
theorem dX7_init_76 : decode cX7_init 76 = .ok (.iconst 5, 1) := by decide +kernel
theorem dX7_init_77 : decode cX7_init 77 = .ok (.newarray .int, 2) := by decide +kernel
theorem dX7_init_79 : decode cX7_init 79 = .ok (.putfield 31, 3) := by decide +kernel
theorem dX7_init_82 : decode cX7_init 82 = .ok (.aload_n 0, 1) := by decide +kernel
theorem dX7_init_83 : decode cX7_init 83 = .ok (.iconst 5, 1) := by decide +kernel
theorem dX7_init_84 : decode cX7_init 84 = .ok (.newarray .int, 2) := by decide +kernel
theorem dX7_init_86 : decode cX7_init 86 = .ok (.putfield 34, 3) := by decide +kernel
theorem dX7_init_89 : decode cX7_init 89 = .ok (.aload_n 0, 1) := by decide +kernel
theorem dX7_init_90 : decode cX7_init 90 = .ok (.iconst 5, 1) := by decide +kernel
theorem dX7_init_91 : decode cX7_init 91 = .ok (.newarray .int, 2) := by decide +kernel
theorem dX7_init_93 : decode cX7_init 93 = .ok (.putfield 37, 3) := by decide +kernel
theorem dX7_init_96 : decode cX7_init 96 = .ok (.aload_n 0, 1) := by decide +kernel
theorem dX7_init_97 : decode cX7_init 97 = .ok (.bipush 15, 2) := by decide +kernel
theorem dX7_init_99 : decode cX7_init 99 = .ok (.newarray .int, 2) := by decide +kernel
theorem dX7_init_101 : decode cX7_init 101 = .ok (.putfield 40, 3) := by decide +kernel
theorem dX7_init_104 : decode cX7_init 104 = .ok (.aload_n 0, 1) := by decide +kernel
theorem dX7_init_105 : decode cX7_init 105 = .ok (.iconst 5, 1) := by decide +kernel
theorem dX7_init_106 : decode cX7_init 106 = .ok (.newarray .int, 2) := by decide +kernel
theorem dX7_init_108 : decode cX7_init 108 = .ok (.putfield 43, 3) := by decide +kernel
theorem dX7_init_111 : decode cX7_init 111 = .ok (.aload_n 0, 1) := by decide +kernel
theorem dX7_init_112 : decode cX7_init 112 = .ok (.sipush 3125, 3) := by decide +kernel
theorem dX7_init_115 : decode cX7_init 115 = .ok (.newarray .int, 2) := by decide +kernel
theorem dX7_init_117 : decode cX7_init 117 = .ok (.putfield 46, 3) := by decide +kernel
theorem dX7_init_120 : decode cX7_init 120 = .ok (.aload_n 0, 1) := by decide +kernel
theorem dX7_init_121 : decode cX7_init 121 = .ok (.sipush 3125, 3) := by decide +kernel
theorem dX7_init_124 : decode cX7_init 124 = .ok (.newarray .int, 2) := by decide +kernel
theorem dX7_init_126 : decode cX7_init 126 = .ok (.putfield 49, 3) := by decide +kernel
theorem dX7_init_129 : decode cX7_init 129 = .ok (.aload_n 0, 1) := by decide +kernel
theorem dX7_init_130 : decode cX7_init 130 = .ok (.bipush 8, 2) := by decide +kernel
theorem dX7_init_132 : decode cX7_init 132 = .ok (.newarray .int, 2) := by decide +kernel
theorem dX7_init_134 : decode cX7_init 134 = .ok (.putfield 52, 3) := by decide +kernel
theorem dX7_init_137 : decode cX7_init 137 = .ok (.aload_n 0, 1) := by decide +kernel
theorem dX7_init_138 : decode cX7_init 138 = .ok (.bipush 8, 2) := by decide +kernel
theorem dX7_init_140 : decode cX7_init 140 = .ok (.newarray .int, 2) := by decide +kernel
theorem dX7_init_142 : decode cX7_init 142 = .ok (.putfield 55, 3) := by decide +kernel
theorem dX7_init_145 : decode cX7_init 145 = .ok (.aload_n 0, 1) := by decide +kernel
theorem dX7_init_146 : decode cX7_init 146 = .ok (.bipush 8, 2) := by decide +kernel
theorem dX7_init_148 : decode cX7_init 148 = .ok (.newarray .int, 2) := by decide +kernel
theorem dX7_init_150 : decode cX7_init 150 = .ok (.putfield 58, 3) := by decide +kernel
theorem dX7_init_153 : decode cX7_init 153 = .ok (.return_, 1) := by decide +kernel
theorem dX7_fails_0 : decode cX7_fails 0 = .ok (.aload_n 0, 1) := by decide +kernel
theorem dX7_fails_1 : decode cX7_fails 1 = .ok (.iload_n 1, 1) := by decide +kernel
theorem dX7_fails_2 : decode cX7_fails 2 = .ok (.putfield 61, 3) := by decide +kernel
theorem dX7_fails_5 : decode cX7_fails 5 = .ok (.bipush (-10), 2) := by decide +kernel
theorem dX7_fails_7 : decode cX7_fails 7 = .ok (.iload_n 1, 1) := by decide +kernel
theorem dX7_fails_8 : decode cX7_fails 8 = .ok (.isub, 1) := by decide +kernel
theorem dX7_fails_9 : decode cX7_fails 9 = .ok (.ireturn, 1) := by decide +kernel
theorem dX7_lost_0 : decode cX7_lost 0 = .ok (.aload_n 0, 1) := by decide +kernel
theorem dX7_lost_1 : decode cX7_lost 1 = .ok (.iload_n 1, 1) := by decide +kernel
theorem dX7_lost_2 : decode cX7_lost 2 = .ok (.putfield 61, 3) := by decide +kernel
theorem dX7_lost_5 : decode cX7_lost 5 = .ok (.ldc2_w 65, 3) := by decide +kernel
theorem dX7_lost_8 : decode cX7_lost 8 = .ok (.lreturn, 1) := by decide +kernel
theorem dX7_within_0 : decode cX7_within 0 = .ok (.iload_n 0, 1) := by decide +kernel
theorem dX7_within_1 : decode cX7_within 1 = .ok (.iload_n 1, 1) := by decide +kernel
theorem dX7_within_2 : decode cX7_within 2 = .ok (.if_icmp .lt 12, 3) := by decide +kernel
theorem dX7_within_5 : decode cX7_within 5 = .ok (.iload_n 0, 1) := by decide +kernel
theorem dX7_within_6 : decode cX7_within 6 = .ok (.iload_n 2, 1) := by decide +kernel
theorem dX7_within_7 : decode cX7_within 7 = .ok (.if_icmp .gt 7, 3) := by decide +kernel
theorem dX7_within_10 : decode cX7_within 10 = .ok (.iconst 1, 1) := by decide +kernel
theorem dX7_within_11 : decode cX7_within 11 = .ok (.goto 4, 3) := by decide +kernel
theorem dX7_within_14 : decode cX7_within 14 = .ok (.iconst 0, 1) := by decide +kernel
theorem dX7_within_15 : decode cX7_within 15 = .ok (.ireturn, 1) := by decide +kernel
theorem dX7_isSheet_0 : decode cX7_isSheet 0 = .ok (.iload_n 0, 1) := by decide +kernel
theorem dX7_isSheet_1 : decode cX7_isSheet 1 = .ok (.iconst 0, 1) := by decide +kernel
theorem dX7_isSheet_2 : decode cX7_isSheet 2 = .ok (.iconst 3, 1) := by decide +kernel
theorem dX7_isSheet_3 : decode cX7_isSheet 3 = .ok (.invokestatic 67, 3) := by decide +kernel
theorem dX7_isSheet_6 : decode cX7_isSheet 6 = .ok (.ireturn, 1) := by decide +kernel
theorem dX7_isSort_0 : decode cX7_isSort 0 = .ok (.iload_n 0, 1) := by decide +kernel
theorem dX7_isSort_1 : decode cX7_isSort 1 = .ok (.iconst 0, 1) := by decide +kernel
theorem dX7_isSort_2 : decode cX7_isSort 2 = .ok (.iconst 2, 1) := by decide +kernel
theorem dX7_isSort_3 : decode cX7_isSort 3 = .ok (.invokestatic 67, 3) := by decide +kernel
theorem dX7_isSort_6 : decode cX7_isSort 6 = .ok (.ireturn, 1) := by decide +kernel
theorem dX7_against_0 : decode cX7_against 0 = .ok (.aload_n 0, 1) := by decide +kernel
theorem dX7_against_1 : decode cX7_against 1 = .ok (.getfield 9, 3) := by decide +kernel
theorem dX7_against_4 : decode cX7_against 4 = .ok (.iload_n 1, 1) := by decide +kernel
theorem dX7_against_5 : decode cX7_against 5 = .ok (.iaload, 1) := by decide +kernel
theorem dX7_against_6 : decode cX7_against 6 = .ok (.bipush (-9), 2) := by decide +kernel
theorem dX7_against_8 : decode cX7_against 8 = .ok (.if_icmp .eq 15, 3) := by decide +kernel
theorem dX7_against_11 : decode cX7_against 11 = .ok (.aload_n 0, 1) := by decide +kernel
theorem dX7_against_12 : decode cX7_against 12 = .ok (.getfield 9, 3) := by decide +kernel
theorem dX7_against_15 : decode cX7_against 15 = .ok (.iload_n 1, 1) := by decide +kernel
theorem dX7_against_16 : decode cX7_against 16 = .ok (.iaload, 1) := by decide +kernel
theorem dX7_against_17 : decode cX7_against 17 = .ok (.iload_n 2, 1) := by decide +kernel
theorem dX7_against_18 : decode cX7_against 18 = .ok (.if_icmp .eq 5, 3) := by decide +kernel
theorem dX7_against_21 : decode cX7_against 21 = .ok (.iconst 2, 1) := by decide +kernel
theorem dX7_against_22 : decode cX7_against 22 = .ok (.ireturn, 1) := by decide +kernel
theorem dX7_against_23 : decode cX7_against 23 = .ok (.aload_n 0, 1) := by decide +kernel
theorem dX7_against_24 : decode cX7_against 24 = .ok (.getfield 9, 3) := by decide +kernel
theorem dX7_against_27 : decode cX7_against 27 = .ok (.iload_n 1, 1) := by decide +kernel
theorem dX7_against_28 : decode cX7_against 28 = .ok (.iaload, 1) := by decide +kernel
theorem dX7_against_29 : decode cX7_against 29 = .ok (.bipush (-9), 2) := by decide +kernel
theorem dX7_against_31 : decode cX7_against 31 = .ok (.if_icmp .ne 5, 3) := by decide +kernel
theorem dX7_against_34 : decode cX7_against 34 = .ok (.iconst 1, 1) := by decide +kernel
theorem dX7_against_35 : decode cX7_against 35 = .ok (.ireturn, 1) := by decide +kernel
theorem dX7_against_36 : decode cX7_against 36 = .ok (.iload 4, 2) := by decide +kernel
theorem dX7_against_38 : decode cX7_against 38 = .ok (.ifCond .ge 5, 3) := by decide +kernel
theorem dX7_against_41 : decode cX7_against 41 = .ok (.iconst 4, 1) := by decide +kernel
theorem dX7_against_42 : decode cX7_against 42 = .ok (.ireturn, 1) := by decide +kernel
theorem dX7_against_43 : decode cX7_against 43 = .ok (.iload_n 3, 1) := by decide +kernel
theorem dX7_against_44 : decode cX7_against 44 = .ok (.ifCond .lt 26, 3) := by decide +kernel
theorem dX7_against_47 : decode cX7_against 47 = .ok (.iload_n 3, 1) := by decide +kernel
theorem dX7_against_48 : decode cX7_against 48 = .ok (.aload_n 0, 1) := by decide +kernel
theorem dX7_against_49 : decode cX7_against 49 = .ok (.getfield 13, 3) := by decide +kernel
theorem dX7_against_52 : decode cX7_against 52 = .ok (.iload_n 1, 1) := by decide +kernel
theorem dX7_against_53 : decode cX7_against 53 = .ok (.iaload, 1) := by decide +kernel
theorem dX7_against_54 : decode cX7_against 54 = .ok (.if_icmp .gt 16, 3) := by decide +kernel
theorem dX7_against_57 : decode cX7_against 57 = .ok (.iload 4, 2) := by decide +kernel
theorem dX7_against_59 : decode cX7_against 59 = .ok (.aload_n 0, 1) := by decide +kernel
theorem dX7_against_60 : decode cX7_against 60 = .ok (.getfield 13, 3) := by decide +kernel
theorem dX7_against_63 : decode cX7_against 63 = .ok (.iload_n 1, 1) := by decide +kernel
theorem dX7_against_64 : decode cX7_against 64 = .ok (.iaload, 1) := by decide +kernel
theorem dX7_against_65 : decode cX7_against 65 = .ok (.iload_n 3, 1) := by decide +kernel
theorem dX7_against_66 : decode cX7_against 66 = .ok (.isub, 1) := by decide +kernel
theorem dX7_against_67 : decode cX7_against 67 = .ok (.if_icmp .le 7, 3) := by decide +kernel
theorem dX7_against_70 : decode cX7_against 70 = .ok (.iconst 3, 1) := by decide +kernel
theorem dX7_against_71 : decode cX7_against 71 = .ok (.goto 4, 3) := by decide +kernel
theorem dX7_against_74 : decode cX7_against 74 = .ok (.iconst 0, 1) := by decide +kernel
theorem dX7_against_75 : decode cX7_against 75 = .ok (.ireturn, 1) := by decide +kernel
theorem dX7_isLamp_0 : decode cX7_isLamp 0 = .ok (.iload_n 1, 1) := by decide +kernel
theorem dX7_isLamp_1 : decode cX7_isLamp 1 = .ok (.ifCond .lt 15, 3) := by decide +kernel
theorem dX7_isLamp_4 : decode cX7_isLamp 4 = .ok (.iload_n 1, 1) := by decide +kernel
theorem dX7_isLamp_5 : decode cX7_isLamp 5 = .ok (.aload_n 0, 1) := by decide +kernel
theorem dX7_isLamp_6 : decode cX7_isLamp 6 = .ok (.getfield 71, 3) := by decide +kernel
theorem dX7_isLamp_9 : decode cX7_isLamp 9 = .ok (.if_icmp .ge 7, 3) := by decide +kernel
theorem dX7_isLamp_12 : decode cX7_isLamp 12 = .ok (.iconst 1, 1) := by decide +kernel
theorem dX7_isLamp_13 : decode cX7_isLamp 13 = .ok (.goto 4, 3) := by decide +kernel
theorem dX7_isLamp_16 : decode cX7_isLamp 16 = .ok (.iconst 0, 1) := by decide +kernel
theorem dX7_isLamp_17 : decode cX7_isLamp 17 = .ok (.ireturn, 1) := by decide +kernel
theorem dX7_isSwitch_0 : decode cX7_isSwitch 0 = .ok (.iload_n 1, 1) := by decide +kernel
theorem dX7_isSwitch_1 : decode cX7_isSwitch 1 = .ok (.ifCond .lt 15, 3) := by decide +kernel
theorem dX7_isSwitch_4 : decode cX7_isSwitch 4 = .ok (.iload_n 1, 1) := by decide +kernel
theorem dX7_isSwitch_5 : decode cX7_isSwitch 5 = .ok (.aload_n 0, 1) := by decide +kernel
theorem dX7_isSwitch_6 : decode cX7_isSwitch 6 = .ok (.getfield 74, 3) := by decide +kernel
theorem dX7_isSwitch_9 : decode cX7_isSwitch 9 = .ok (.if_icmp .ge 7, 3) := by decide +kernel
theorem dX7_isSwitch_12 : decode cX7_isSwitch 12 = .ok (.iconst 1, 1) := by decide +kernel
theorem dX7_isSwitch_13 : decode cX7_isSwitch 13 = .ok (.goto 4, 3) := by decide +kernel
theorem dX7_isSwitch_16 : decode cX7_isSwitch 16 = .ok (.iconst 0, 1) := by decide +kernel
theorem dX7_isSwitch_17 : decode cX7_isSwitch 17 = .ok (.ireturn, 1) := by decide +kernel
theorem dX7_isOf_0 : decode cX7_isOf 0 = .ok (.iload_n 0, 1) := by decide +kernel
theorem dX7_isOf_1 : decode cX7_isOf 1 = .ok (.iload_n 1, 1) := by decide +kernel
theorem dX7_isOf_2 : decode cX7_isOf 2 = .ok (.ishr, 1) := by decide +kernel
theorem dX7_isOf_3 : decode cX7_isOf 3 = .ok (.iconst 1, 1) := by decide +kernel
theorem dX7_isOf_4 : decode cX7_isOf 4 = .ok (.iand, 1) := by decide +kernel
theorem dX7_isOf_5 : decode cX7_isOf 5 = .ok (.iconst 1, 1) := by decide +kernel
theorem dX7_isOf_6 : decode cX7_isOf 6 = .ok (.if_icmp .ne 7, 3) := by decide +kernel
theorem dX7_isOf_9 : decode cX7_isOf 9 = .ok (.iconst 1, 1) := by decide +kernel
theorem dX7_isOf_10 : decode cX7_isOf 10 = .ok (.goto 4, 3) := by decide +kernel
theorem dX7_isOf_13 : decode cX7_isOf 13 = .ok (.iconst 0, 1) := by decide +kernel
theorem dX7_isOf_14 : decode cX7_isOf 14 = .ok (.ireturn, 1) := by decide +kernel
theorem dX7_digit_0 : decode cX7_digit 0 = .ok (.aload_n 0, 1) := by decide +kernel
theorem dX7_digit_1 : decode cX7_digit 1 = .ok (.getfield 77, 3) := by decide +kernel
theorem dX7_digit_4 : decode cX7_digit 4 = .ok (.iload_n 1, 1) := by decide +kernel
theorem dX7_digit_5 : decode cX7_digit 5 = .ok (.if_icmp .ge 26, 3) := by decide +kernel
theorem dX7_digit_8 : decode cX7_digit 8 = .ok (.aload_n 0, 1) := by decide +kernel
theorem dX7_digit_9 : decode cX7_digit 9 = .ok (.getfield 16, 3) := by decide +kernel
theorem dX7_digit_12 : decode cX7_digit 12 = .ok (.aload_n 0, 1) := by decide +kernel
theorem dX7_digit_13 : decode cX7_digit 13 = .ok (.getfield 77, 3) := by decide +kernel
theorem dX7_digit_16 : decode cX7_digit 16 = .ok (.iaload, 1) := by decide +kernel
theorem dX7_digit_17 : decode cX7_digit 17 = .ok (.bipush 48, 2) := by decide +kernel
theorem dX7_digit_19 : decode cX7_digit 19 = .ok (.iload_n 2, 1) := by decide +kernel
theorem dX7_digit_20 : decode cX7_digit 20 = .ok (.iadd, 1) := by decide +kernel
theorem dX7_digit_21 : decode cX7_digit 21 = .ok (.bipush 48, 2) := by decide +kernel
theorem dX7_digit_23 : decode cX7_digit 23 = .ok (.iload_n 3, 1) := by decide +kernel
theorem dX7_digit_24 : decode cX7_digit 24 = .ok (.iadd, 1) := by decide +kernel
theorem dX7_digit_25 : decode cX7_digit 25 = .ok (.invokestatic 67, 3) := by decide +kernel
theorem dX7_digit_28 : decode cX7_digit 28 = .ok (.ifCond .ne 6, 3) := by decide +kernel
theorem dX7_digit_31 : decode cX7_digit 31 = .ok (.bipush (-9), 2) := by decide +kernel
theorem dX7_digit_33 : decode cX7_digit 33 = .ok (.ireturn, 1) := by decide +kernel
theorem dX7_digit_34 : decode cX7_digit 34 = .ok (.aload_n 0, 1) := by decide +kernel
theorem dX7_digit_35 : decode cX7_digit 35 = .ok (.dup, 1) := by decide +kernel
theorem dX7_digit_36 : decode cX7_digit 36 = .ok (.getfield 77, 3) := by decide +kernel
theorem dX7_digit_39 : decode cX7_digit 39 = .ok (.iconst 1, 1) := by decide +kernel
theorem dX7_digit_40 : decode cX7_digit 40 = .ok (.iadd, 1) := by decide +kernel
theorem dX7_digit_41 : decode cX7_digit 41 = .ok (.putfield 77, 3) := by decide +kernel
theorem dX7_digit_44 : decode cX7_digit 44 = .ok (.aload_n 0, 1) := by decide +kernel
theorem dX7_digit_45 : decode cX7_digit 45 = .ok (.getfield 16, 3) := by decide +kernel
theorem dX7_digit_48 : decode cX7_digit 48 = .ok (.aload_n 0, 1) := by decide +kernel
theorem dX7_digit_49 : decode cX7_digit 49 = .ok (.getfield 77, 3) := by decide +kernel
theorem dX7_digit_52 : decode cX7_digit 52 = .ok (.iconst 1, 1) := by decide +kernel
theorem dX7_digit_53 : decode cX7_digit 53 = .ok (.isub, 1) := by decide +kernel
theorem dX7_digit_54 : decode cX7_digit 54 = .ok (.iaload, 1) := by decide +kernel
theorem dX7_digit_55 : decode cX7_digit 55 = .ok (.bipush 48, 2) := by decide +kernel
theorem dX7_digit_57 : decode cX7_digit 57 = .ok (.isub, 1) := by decide +kernel
theorem dX7_digit_58 : decode cX7_digit 58 = .ok (.ireturn, 1) := by decide +kernel
theorem dX7_isSign_0 : decode cX7_isSign 0 = .ok (.aload_n 0, 1) := by decide +kernel
theorem dX7_isSign_1 : decode cX7_isSign 1 = .ok (.getfield 77, 3) := by decide +kernel
theorem dX7_isSign_4 : decode cX7_isSign 4 = .ok (.iload_n 1, 1) := by decide +kernel
theorem dX7_isSign_5 : decode cX7_isSign 5 = .ok (.if_icmp .ge 16, 3) := by decide +kernel
theorem dX7_isSign_8 : decode cX7_isSign 8 = .ok (.aload_n 0, 1) := by decide +kernel
theorem dX7_isSign_9 : decode cX7_isSign 9 = .ok (.getfield 16, 3) := by decide +kernel
theorem dX7_isSign_12 : decode cX7_isSign 12 = .ok (.aload_n 0, 1) := by decide +kernel
theorem dX7_isSign_13 : decode cX7_isSign 13 = .ok (.getfield 77, 3) := by decide +kernel
theorem dX7_isSign_16 : decode cX7_isSign 16 = .ok (.iaload, 1) := by decide +kernel
theorem dX7_isSign_17 : decode cX7_isSign 17 = .ok (.iload_n 2, 1) := by decide +kernel
theorem dX7_isSign_18 : decode cX7_isSign 18 = .ok (.if_icmp .eq 5, 3) := by decide +kernel
theorem dX7_isSign_21 : decode cX7_isSign 21 = .ok (.iconst 0, 1) := by decide +kernel
theorem dX7_isSign_22 : decode cX7_isSign 22 = .ok (.ireturn, 1) := by decide +kernel
theorem dX7_isSign_23 : decode cX7_isSign 23 = .ok (.aload_n 0, 1) := by decide +kernel
theorem dX7_isSign_24 : decode cX7_isSign 24 = .ok (.dup, 1) := by decide +kernel
theorem dX7_isSign_25 : decode cX7_isSign 25 = .ok (.getfield 77, 3) := by decide +kernel
theorem dX7_isSign_28 : decode cX7_isSign 28 = .ok (.iconst 1, 1) := by decide +kernel
theorem dX7_isSign_29 : decode cX7_isSign 29 = .ok (.iadd, 1) := by decide +kernel
theorem dX7_isSign_30 : decode cX7_isSign 30 = .ok (.putfield 77, 3) := by decide +kernel
theorem dX7_isSign_33 : decode cX7_isSign 33 = .ok (.iconst 1, 1) := by decide +kernel
theorem dX7_isSign_34 : decode cX7_isSign 34 = .ok (.ireturn, 1) := by decide +kernel
theorem dX7_hall_0 : decode cX7_hall 0 = .ok (.aload_n 0, 1) := by decide +kernel
theorem dX7_hall_1 : decode cX7_hall 1 = .ok (.iconst 0, 1) := by decide +kernel
theorem dX7_hall_2 : decode cX7_hall 2 = .ok (.putfield 61, 3) := by decide +kernel
theorem dX7_hall_5 : decode cX7_hall 5 = .ok (.iload_n 1, 1) := by decide +kernel
theorem dX7_hall_6 : decode cX7_hall 6 = .ok (.invokestatic 80, 3) := by decide +kernel
theorem dX7_hall_9 : decode cX7_hall 9 = .ok (.ifCond .ne 5, 3) := by decide +kernel
theorem dX7_hall_12 : decode cX7_hall 12 = .ok (.iconst (-1), 1) := by decide +kernel
theorem dX7_hall_13 : decode cX7_hall 13 = .ok (.ireturn, 1) := by decide +kernel
theorem dX7_hall_14 : decode cX7_hall 14 = .ok (.iload_n 2, 1) := by decide +kernel
theorem dX7_hall_15 : decode cX7_hall 15 = .ok (.invokestatic 84, 3) := by decide +kernel
theorem dX7_hall_18 : decode cX7_hall 18 = .ok (.ifCond .ne 6, 3) := by decide +kernel
theorem dX7_hall_21 : decode cX7_hall 21 = .ok (.bipush (-2), 2) := by decide +kernel
theorem dX7_hall_23 : decode cX7_hall 23 = .ok (.ireturn, 1) := by decide +kernel
theorem dX7_hall_24 : decode cX7_hall 24 = .ok (.aload_n 0, 1) := by decide +kernel
theorem dX7_hall_25 : decode cX7_hall 25 = .ok (.iload_n 1, 1) := by decide +kernel
theorem dX7_hall_26 : decode cX7_hall 26 = .ok (.iload_n 2, 1) := by decide +kernel
theorem dX7_hall_27 : decode cX7_hall 27 = .ok (.iload_n 3, 1) := by decide +kernel
theorem dX7_hall_28 : decode cX7_hall 28 = .ok (.iload 4, 2) := by decide +kernel
theorem dX7_hall_30 : decode cX7_hall 30 = .ok (.invokevirtual 87, 3) := by decide +kernel
theorem dX7_hall_33 : decode cX7_hall 33 = .ok (.istore 5, 2) := by decide +kernel
theorem dX7_hall_35 : decode cX7_hall 35 = .ok (.iload 5, 2) := by decide +kernel
theorem dX7_hall_37 : decode cX7_hall 37 = .ok (.ifCond .eq 10, 3) := by decide +kernel
theorem dX7_hall_40 : decode cX7_hall 40 = .ok (.aload_n 0, 1) := by decide +kernel
theorem dX7_hall_41 : decode cX7_hall 41 = .ok (.iload 5, 2) := by decide +kernel
theorem dX7_hall_43 : decode cX7_hall 43 = .ok (.invokevirtual 91, 3) := by decide +kernel
theorem dX7_hall_46 : decode cX7_hall 46 = .ok (.ireturn, 1) := by decide +kernel
theorem dX7_hall_47 : decode cX7_hall 47 = .ok (.bipush 60, 2) := by decide +kernel
theorem dX7_hall_49 : decode cX7_hall 49 = .ok (.iload_n 1, 1) := by decide +kernel
theorem dX7_hall_50 : decode cX7_hall 50 = .ok (.imul, 1) := by decide +kernel
theorem dX7_hall_51 : decode cX7_hall 51 = .ok (.iload_n 3, 1) := by decide +kernel
theorem dX7_hall_52 : decode cX7_hall 52 = .ok (.iadd, 1) := by decide +kernel
theorem dX7_hall_53 : decode cX7_hall 53 = .ok (.istore 6, 2) := by decide +kernel
theorem dX7_hall_55 : decode cX7_hall 55 = .ok (.aload_n 0, 1) := by decide +kernel
theorem dX7_hall_56 : decode cX7_hall 56 = .ok (.iload 6, 2) := by decide +kernel
theorem dX7_hall_58 : decode cX7_hall 58 = .ok (.putfield 77, 3) := by decide +kernel
theorem dX7_hall_61 : decode cX7_hall 61 = .ok (.aload_n 0, 1) := by decide +kernel
theorem dX7_hall_62 : decode cX7_hall 62 = .ok (.iload 6, 2) := by decide +kernel
theorem dX7_hall_64 : decode cX7_hall 64 = .ok (.iload 4, 2) := by decide +kernel
theorem dX7_hall_66 : decode cX7_hall 66 = .ok (.iadd, 1) := by decide +kernel
theorem dX7_hall_67 : decode cX7_hall 67 = .ok (.invokevirtual 95, 3) := by decide +kernel
theorem dX7_hall_70 : decode cX7_hall 70 = .ok (.ifCond .ne 14, 3) := by decide +kernel
theorem dX7_hall_73 : decode cX7_hall 73 = .ok (.bipush (-100), 2) := by decide +kernel
theorem dX7_hall_75 : decode cX7_hall 75 = .ok (.aload_n 0, 1) := by decide +kernel
theorem dX7_hall_76 : decode cX7_hall 76 = .ok (.getfield 77, 3) := by decide +kernel
theorem dX7_hall_79 : decode cX7_hall 79 = .ok (.iload 6, 2) := by decide +kernel
theorem dX7_hall_81 : decode cX7_hall 81 = .ok (.isub, 1) := by decide +kernel
theorem dX7_hall_82 : decode cX7_hall 82 = .ok (.isub, 1) := by decide +kernel
theorem dX7_hall_83 : decode cX7_hall 83 = .ok (.ireturn, 1) := by decide +kernel
theorem dX7_hall_84 : decode cX7_hall 84 = .ok (.aload_n 0, 1) := by decide +kernel
theorem dX7_hall_85 : decode cX7_hall 85 = .ok (.invokevirtual 98, 3) := by decide +kernel
theorem dX7_hall_88 : decode cX7_hall 88 = .ok (.aload_n 0, 1) := by decide +kernel
theorem dX7_hall_89 : decode cX7_hall 89 = .ok (.getfield 74, 3) := by decide +kernel
theorem dX7_hall_92 : decode cX7_hall 92 = .ok (.ireturn, 1) := by decide +kernel
theorem dX7_takeHall_0 : decode cX7_takeHall 0 = .ok (.aload_n 0, 1) := by decide +kernel
theorem dX7_takeHall_1 : decode cX7_takeHall 1 = .ok (.aload_n 0, 1) := by decide +kernel
theorem dX7_takeHall_2 : decode cX7_takeHall 2 = .ok (.getfield 101, 3) := by decide +kernel
theorem dX7_takeHall_5 : decode cX7_takeHall 5 = .ok (.putfield 71, 3) := by decide +kernel
theorem dX7_takeHall_8 : decode cX7_takeHall 8 = .ok (.aload_n 0, 1) := by decide +kernel
theorem dX7_takeHall_9 : decode cX7_takeHall 9 = .ok (.aload_n 0, 1) := by decide +kernel
theorem dX7_takeHall_10 : decode cX7_takeHall 10 = .ok (.getfield 104, 3) := by decide +kernel
theorem dX7_takeHall_13 : decode cX7_takeHall 13 = .ok (.putfield 74, 3) := by decide +kernel
theorem dX7_takeHall_16 : decode cX7_takeHall 16 = .ok (.iconst 0, 1) := by decide +kernel
theorem dX7_takeHall_17 : decode cX7_takeHall 17 = .ok (.istore_n 1, 1) := by decide +kernel
theorem dX7_takeHall_18 : decode cX7_takeHall 18 = .ok (.iload_n 1, 1) := by decide +kernel
theorem dX7_takeHall_19 : decode cX7_takeHall 19 = .ok (.aload_n 0, 1) := by decide +kernel
theorem dX7_takeHall_20 : decode cX7_takeHall 20 = .ok (.getfield 71, 3) := by decide +kernel
theorem dX7_takeHall_23 : decode cX7_takeHall 23 = .ok (.if_icmp .ge 28, 3) := by decide +kernel
theorem dX7_takeHall_26 : decode cX7_takeHall 26 = .ok (.aload_n 0, 1) := by decide +kernel
theorem dX7_takeHall_27 : decode cX7_takeHall 27 = .ok (.getfield 19, 3) := by decide +kernel
theorem dX7_takeHall_30 : decode cX7_takeHall 30 = .ok (.iload_n 1, 1) := by decide +kernel
theorem dX7_takeHall_31 : decode cX7_takeHall 31 = .ok (.aload_n 0, 1) := by decide +kernel
theorem dX7_takeHall_32 : decode cX7_takeHall 32 = .ok (.getfield 37, 3) := by decide +kernel
theorem dX7_takeHall_35 : decode cX7_takeHall 35 = .ok (.iload_n 1, 1) := by decide +kernel
theorem dX7_takeHall_36 : decode cX7_takeHall 36 = .ok (.iaload, 1) := by decide +kernel
theorem dX7_takeHall_37 : decode cX7_takeHall 37 = .ok (.iastore, 1) := by decide +kernel
theorem dX7_takeHall_38 : decode cX7_takeHall 38 = .ok (.aload_n 0, 1) := by decide +kernel
theorem dX7_takeHall_39 : decode cX7_takeHall 39 = .ok (.getfield 22, 3) := by decide +kernel
theorem dX7_takeHall_42 : decode cX7_takeHall 42 = .ok (.iload_n 1, 1) := by decide +kernel
theorem dX7_takeHall_43 : decode cX7_takeHall 43 = .ok (.iconst 0, 1) := by decide +kernel
theorem dX7_takeHall_44 : decode cX7_takeHall 44 = .ok (.iastore, 1) := by decide +kernel
theorem dX7_takeHall_45 : decode cX7_takeHall 45 = .ok (.iinc 1 1, 3) := by decide +kernel
theorem dX7_takeHall_48 : decode cX7_takeHall 48 = .ok (.goto (-30), 3) := by decide +kernel
theorem dX7_takeHall_51 : decode cX7_takeHall 51 = .ok (.iconst 0, 1) := by decide +kernel
theorem dX7_takeHall_52 : decode cX7_takeHall 52 = .ok (.istore_n 1, 1) := by decide +kernel
theorem dX7_takeHall_53 : decode cX7_takeHall 53 = .ok (.iload_n 1, 1) := by decide +kernel
theorem dX7_takeHall_54 : decode cX7_takeHall 54 = .ok (.aload_n 0, 1) := by decide +kernel
theorem dX7_takeHall_55 : decode cX7_takeHall 55 = .ok (.getfield 74, 3) := by decide +kernel
theorem dX7_takeHall_58 : decode cX7_takeHall 58 = .ok (.if_icmp .ge 62, 3) := by decide +kernel
theorem dX7_takeHall_61 : decode cX7_takeHall 61 = .ok (.aload_n 0, 1) := by decide +kernel
theorem dX7_takeHall_62 : decode cX7_takeHall 62 = .ok (.getfield 25, 3) := by decide +kernel
theorem dX7_takeHall_65 : decode cX7_takeHall 65 = .ok (.iload_n 1, 1) := by decide +kernel
theorem dX7_takeHall_66 : decode cX7_takeHall 66 = .ok (.aload_n 0, 1) := by decide +kernel
theorem dX7_takeHall_67 : decode cX7_takeHall 67 = .ok (.getfield 40, 3) := by decide +kernel
theorem dX7_takeHall_70 : decode cX7_takeHall 70 = .ok (.iconst 3, 1) := by decide +kernel
theorem dX7_takeHall_71 : decode cX7_takeHall 71 = .ok (.iload_n 1, 1) := by decide +kernel
theorem dX7_takeHall_72 : decode cX7_takeHall 72 = .ok (.imul, 1) := by decide +kernel
theorem dX7_takeHall_73 : decode cX7_takeHall 73 = .ok (.iaload, 1) := by decide +kernel
theorem dX7_takeHall_74 : decode cX7_takeHall 74 = .ok (.iastore, 1) := by decide +kernel
theorem dX7_takeHall_75 : decode cX7_takeHall 75 = .ok (.aload_n 0, 1) := by decide +kernel
theorem dX7_takeHall_76 : decode cX7_takeHall 76 = .ok (.getfield 28, 3) := by decide +kernel
theorem dX7_takeHall_79 : decode cX7_takeHall 79 = .ok (.iload_n 1, 1) := by decide +kernel
theorem dX7_takeHall_80 : decode cX7_takeHall 80 = .ok (.aload_n 0, 1) := by decide +kernel
theorem dX7_takeHall_81 : decode cX7_takeHall 81 = .ok (.getfield 40, 3) := by decide +kernel
theorem dX7_takeHall_84 : decode cX7_takeHall 84 = .ok (.iconst 3, 1) := by decide +kernel
theorem dX7_takeHall_85 : decode cX7_takeHall 85 = .ok (.iload_n 1, 1) := by decide +kernel
theorem dX7_takeHall_86 : decode cX7_takeHall 86 = .ok (.imul, 1) := by decide +kernel
theorem dX7_takeHall_87 : decode cX7_takeHall 87 = .ok (.iconst 1, 1) := by decide +kernel
theorem dX7_takeHall_88 : decode cX7_takeHall 88 = .ok (.iadd, 1) := by decide +kernel
theorem dX7_takeHall_89 : decode cX7_takeHall 89 = .ok (.iaload, 1) := by decide +kernel
theorem dX7_takeHall_90 : decode cX7_takeHall 90 = .ok (.iastore, 1) := by decide +kernel
theorem dX7_takeHall_91 : decode cX7_takeHall 91 = .ok (.aload_n 0, 1) := by decide +kernel
theorem dX7_takeHall_92 : decode cX7_takeHall 92 = .ok (.getfield 31, 3) := by decide +kernel
theorem dX7_takeHall_95 : decode cX7_takeHall 95 = .ok (.iload_n 1, 1) := by decide +kernel
theorem dX7_takeHall_96 : decode cX7_takeHall 96 = .ok (.aload_n 0, 1) := by decide +kernel
theorem dX7_takeHall_97 : decode cX7_takeHall 97 = .ok (.getfield 40, 3) := by decide +kernel
theorem dX7_takeHall_100 : decode cX7_takeHall 100 = .ok (.iconst 3, 1) := by decide +kernel
theorem dX7_takeHall_101 : decode cX7_takeHall 101 = .ok (.iload_n 1, 1) := by decide +kernel
theorem dX7_takeHall_102 : decode cX7_takeHall 102 = .ok (.imul, 1) := by decide +kernel
theorem dX7_takeHall_103 : decode cX7_takeHall 103 = .ok (.iconst 2, 1) := by decide +kernel
theorem dX7_takeHall_104 : decode cX7_takeHall 104 = .ok (.iadd, 1) := by decide +kernel
theorem dX7_takeHall_105 : decode cX7_takeHall 105 = .ok (.iaload, 1) := by decide +kernel
theorem dX7_takeHall_106 : decode cX7_takeHall 106 = .ok (.iastore, 1) := by decide +kernel
theorem dX7_takeHall_107 : decode cX7_takeHall 107 = .ok (.aload_n 0, 1) := by decide +kernel
theorem dX7_takeHall_108 : decode cX7_takeHall 108 = .ok (.getfield 34, 3) := by decide +kernel
theorem dX7_takeHall_111 : decode cX7_takeHall 111 = .ok (.iload_n 1, 1) := by decide +kernel
theorem dX7_takeHall_112 : decode cX7_takeHall 112 = .ok (.iconst 0, 1) := by decide +kernel
theorem dX7_takeHall_113 : decode cX7_takeHall 113 = .ok (.iastore, 1) := by decide +kernel
theorem dX7_takeHall_114 : decode cX7_takeHall 114 = .ok (.iinc 1 1, 3) := by decide +kernel
theorem dX7_takeHall_117 : decode cX7_takeHall 117 = .ok (.goto (-64), 3) := by decide +kernel
theorem dX7_takeHall_120 : decode cX7_takeHall 120 = .ok (.aload_n 0, 1) := by decide +kernel
theorem dX7_takeHall_121 : decode cX7_takeHall 121 = .ok (.iconst 0, 1) := by decide +kernel
theorem dX7_takeHall_122 : decode cX7_takeHall 122 = .ok (.putfield 107, 3) := by decide +kernel
theorem dX7_takeHall_125 : decode cX7_takeHall 125 = .ok (.aload_n 0, 1) := by decide +kernel
theorem dX7_takeHall_126 : decode cX7_takeHall 126 = .ok (.iconst 0, 1) := by decide +kernel
theorem dX7_takeHall_127 : decode cX7_takeHall 127 = .ok (.putfield 110, 3) := by decide +kernel
theorem dX7_takeHall_130 : decode cX7_takeHall 130 = .ok (.return_, 1) := by decide +kernel
theorem dX7_readHall_0 : decode cX7_readHall 0 = .ok (.aload_n 0, 1) := by decide +kernel
theorem dX7_readHall_1 : decode cX7_readHall 1 = .ok (.iconst 0, 1) := by decide +kernel
theorem dX7_readHall_2 : decode cX7_readHall 2 = .ok (.putfield 101, 3) := by decide +kernel
theorem dX7_readHall_5 : decode cX7_readHall 5 = .ok (.aload_n 0, 1) := by decide +kernel
theorem dX7_readHall_6 : decode cX7_readHall 6 = .ok (.iconst 0, 1) := by decide +kernel
theorem dX7_readHall_7 : decode cX7_readHall 7 = .ok (.putfield 104, 3) := by decide +kernel
theorem dX7_readHall_10 : decode cX7_readHall 10 = .ok (.aload_n 0, 1) := by decide +kernel
theorem dX7_readHall_11 : decode cX7_readHall 11 = .ok (.iload_n 1, 1) := by decide +kernel
theorem dX7_readHall_12 : decode cX7_readHall 12 = .ok (.bipush 108, 2) := by decide +kernel
theorem dX7_readHall_14 : decode cX7_readHall 14 = .ok (.invokevirtual 113, 3) := by decide +kernel
theorem dX7_readHall_17 : decode cX7_readHall 17 = .ok (.ifCond .ne 5, 3) := by decide +kernel
theorem dX7_readHall_20 : decode cX7_readHall 20 = .ok (.iconst 0, 1) := by decide +kernel
theorem dX7_readHall_21 : decode cX7_readHall 21 = .ok (.ireturn, 1) := by decide +kernel
theorem dX7_readHall_22 : decode cX7_readHall 22 = .ok (.aload_n 0, 1) := by decide +kernel
theorem dX7_readHall_23 : decode cX7_readHall 23 = .ok (.iload_n 1, 1) := by decide +kernel
theorem dX7_readHall_24 : decode cX7_readHall 24 = .ok (.iconst 2, 1) := by decide +kernel
theorem dX7_readHall_25 : decode cX7_readHall 25 = .ok (.iconst 5, 1) := by decide +kernel
theorem dX7_readHall_26 : decode cX7_readHall 26 = .ok (.invokevirtual 117, 3) := by decide +kernel
theorem dX7_readHall_29 : decode cX7_readHall 29 = .ok (.istore_n 2, 1) := by decide +kernel
theorem dX7_readHall_30 : decode cX7_readHall 30 = .ok (.iload_n 2, 1) := by decide +kernel
theorem dX7_readHall_31 : decode cX7_readHall 31 = .ok (.bipush (-9), 2) := by decide +kernel
theorem dX7_readHall_33 : decode cX7_readHall 33 = .ok (.if_icmp .eq 47, 3) := by decide +kernel
theorem dX7_readHall_36 : decode cX7_readHall 36 = .ok (.aload_n 0, 1) := by decide +kernel
theorem dX7_readHall_37 : decode cX7_readHall 37 = .ok (.getfield 37, 3) := by decide +kernel
theorem dX7_readHall_40 : decode cX7_readHall 40 = .ok (.aload_n 0, 1) := by decide +kernel
theorem dX7_readHall_41 : decode cX7_readHall 41 = .ok (.getfield 101, 3) := by decide +kernel
theorem dX7_readHall_44 : decode cX7_readHall 44 = .ok (.iload_n 2, 1) := by decide +kernel
theorem dX7_readHall_45 : decode cX7_readHall 45 = .ok (.iastore, 1) := by decide +kernel
theorem dX7_readHall_46 : decode cX7_readHall 46 = .ok (.aload_n 0, 1) := by decide +kernel
theorem dX7_readHall_47 : decode cX7_readHall 47 = .ok (.dup, 1) := by decide +kernel
theorem dX7_readHall_48 : decode cX7_readHall 48 = .ok (.getfield 101, 3) := by decide +kernel
theorem dX7_readHall_51 : decode cX7_readHall 51 = .ok (.iconst 1, 1) := by decide +kernel
theorem dX7_readHall_52 : decode cX7_readHall 52 = .ok (.iadd, 1) := by decide +kernel
theorem dX7_readHall_53 : decode cX7_readHall 53 = .ok (.putfield 101, 3) := by decide +kernel
theorem dX7_readHall_56 : decode cX7_readHall 56 = .ok (.aload_n 0, 1) := by decide +kernel
theorem dX7_readHall_57 : decode cX7_readHall 57 = .ok (.getfield 101, 3) := by decide +kernel
theorem dX7_readHall_60 : decode cX7_readHall 60 = .ok (.iconst 5, 1) := by decide +kernel
theorem dX7_readHall_61 : decode cX7_readHall 61 = .ok (.if_icmp .ge 13, 3) := by decide +kernel
theorem dX7_readHall_64 : decode cX7_readHall 64 = .ok (.aload_n 0, 1) := by decide +kernel
theorem dX7_readHall_65 : decode cX7_readHall 65 = .ok (.iload_n 1, 1) := by decide +kernel
theorem dX7_readHall_66 : decode cX7_readHall 66 = .ok (.iconst 2, 1) := by decide +kernel
theorem dX7_readHall_67 : decode cX7_readHall 67 = .ok (.iconst 5, 1) := by decide +kernel
theorem dX7_readHall_68 : decode cX7_readHall 68 = .ok (.invokevirtual 117, 3) := by decide +kernel
theorem dX7_readHall_71 : decode cX7_readHall 71 = .ok (.goto 5, 3) := by decide +kernel
theorem dX7_readHall_74 : decode cX7_readHall 74 = .ok (.bipush (-9), 2) := by decide +kernel
theorem dX7_readHall_76 : decode cX7_readHall 76 = .ok (.istore_n 2, 1) := by decide +kernel
theorem dX7_readHall_77 : decode cX7_readHall 77 = .ok (.goto (-47), 3) := by decide +kernel
theorem dX7_readHall_80 : decode cX7_readHall 80 = .ok (.aload_n 0, 1) := by decide +kernel
theorem dX7_readHall_81 : decode cX7_readHall 81 = .ok (.getfield 101, 3) := by decide +kernel
theorem dX7_readHall_84 : decode cX7_readHall 84 = .ok (.ifCond .ne 5, 3) := by decide +kernel
theorem dX7_readHall_87 : decode cX7_readHall 87 = .ok (.iconst 0, 1) := by decide +kernel
theorem dX7_readHall_88 : decode cX7_readHall 88 = .ok (.ireturn, 1) := by decide +kernel
theorem dX7_readHall_89 : decode cX7_readHall 89 = .ok (.aload_n 0, 1) := by decide +kernel
theorem dX7_readHall_90 : decode cX7_readHall 90 = .ok (.getfield 104, 3) := by decide +kernel
theorem dX7_readHall_93 : decode cX7_readHall 93 = .ok (.ifCond .eq 19, 3) := by decide +kernel
theorem dX7_readHall_96 : decode cX7_readHall 96 = .ok (.aload_n 0, 1) := by decide +kernel
theorem dX7_readHall_97 : decode cX7_readHall 97 = .ok (.getfield 104, 3) := by decide +kernel
theorem dX7_readHall_100 : decode cX7_readHall 100 = .ok (.iconst 5, 1) := by decide +kernel
theorem dX7_readHall_101 : decode cX7_readHall 101 = .ok (.if_icmp .ge 31, 3) := by decide +kernel
theorem dX7_readHall_104 : decode cX7_readHall 104 = .ok (.aload_n 0, 1) := by decide +kernel
theorem dX7_readHall_105 : decode cX7_readHall 105 = .ok (.getfield 77, 3) := by decide +kernel
theorem dX7_readHall_108 : decode cX7_readHall 108 = .ok (.iload_n 1, 1) := by decide +kernel
theorem dX7_readHall_109 : decode cX7_readHall 109 = .ok (.if_icmp .ge 23, 3) := by decide +kernel
theorem dX7_readHall_112 : decode cX7_readHall 112 = .ok (.aload_n 0, 1) := by decide +kernel
theorem dX7_readHall_113 : decode cX7_readHall 113 = .ok (.iload_n 1, 1) := by decide +kernel
theorem dX7_readHall_114 : decode cX7_readHall 114 = .ok (.bipush 59, 2) := by decide +kernel
theorem dX7_readHall_116 : decode cX7_readHall 116 = .ok (.invokevirtual 113, 3) := by decide +kernel
theorem dX7_readHall_119 : decode cX7_readHall 119 = .ok (.ifCond .eq 11, 3) := by decide +kernel
theorem dX7_readHall_122 : decode cX7_readHall 122 = .ok (.aload_n 0, 1) := by decide +kernel
theorem dX7_readHall_123 : decode cX7_readHall 123 = .ok (.iload_n 1, 1) := by decide +kernel
theorem dX7_readHall_124 : decode cX7_readHall 124 = .ok (.invokevirtual 121, 3) := by decide +kernel
theorem dX7_readHall_127 : decode cX7_readHall 127 = .ok (.ifCond .ne (-38), 3) := by decide +kernel
theorem dX7_readHall_130 : decode cX7_readHall 130 = .ok (.iconst 0, 1) := by decide +kernel
theorem dX7_readHall_131 : decode cX7_readHall 131 = .ok (.ireturn, 1) := by decide +kernel
theorem dX7_readHall_132 : decode cX7_readHall 132 = .ok (.aload_n 0, 1) := by decide +kernel
theorem dX7_readHall_133 : decode cX7_readHall 133 = .ok (.getfield 77, 3) := by decide +kernel
theorem dX7_readHall_136 : decode cX7_readHall 136 = .ok (.iload_n 1, 1) := by decide +kernel
theorem dX7_readHall_137 : decode cX7_readHall 137 = .ok (.if_icmp .ne 7, 3) := by decide +kernel
theorem dX7_readHall_140 : decode cX7_readHall 140 = .ok (.iconst 1, 1) := by decide +kernel
theorem dX7_readHall_141 : decode cX7_readHall 141 = .ok (.goto 4, 3) := by decide +kernel
theorem dX7_readHall_144 : decode cX7_readHall 144 = .ok (.iconst 0, 1) := by decide +kernel
theorem dX7_readHall_145 : decode cX7_readHall 145 = .ok (.ireturn, 1) := by decide +kernel
theorem dX7_readSwitch_0 : decode cX7_readSwitch 0 = .ok (.aload_n 0, 1) := by decide +kernel
theorem dX7_readSwitch_1 : decode cX7_readSwitch 1 = .ok (.getfield 77, 3) := by decide +kernel
theorem dX7_readSwitch_4 : decode cX7_readSwitch 4 = .ok (.iload_n 1, 1) := by decide +kernel
theorem dX7_readSwitch_5 : decode cX7_readSwitch 5 = .ok (.if_icmp .ge 15, 3) := by decide +kernel
theorem dX7_readSwitch_8 : decode cX7_readSwitch 8 = .ok (.aload_n 0, 1) := by decide +kernel
theorem dX7_readSwitch_9 : decode cX7_readSwitch 9 = .ok (.getfield 16, 3) := by decide +kernel
theorem dX7_readSwitch_12 : decode cX7_readSwitch 12 = .ok (.aload_n 0, 1) := by decide +kernel
theorem dX7_readSwitch_13 : decode cX7_readSwitch 13 = .ok (.getfield 77, 3) := by decide +kernel
theorem dX7_readSwitch_16 : decode cX7_readSwitch 16 = .ok (.iaload, 1) := by decide +kernel
theorem dX7_readSwitch_17 : decode cX7_readSwitch 17 = .ok (.goto 4, 3) := by decide +kernel
theorem dX7_readSwitch_20 : decode cX7_readSwitch 20 = .ok (.iconst 0, 1) := by decide +kernel
theorem dX7_readSwitch_21 : decode cX7_readSwitch 21 = .ok (.istore_n 2, 1) := by decide +kernel
theorem dX7_readSwitch_22 : decode cX7_readSwitch 22 = .ok (.iconst 3, 1) := by decide +kernel
theorem dX7_readSwitch_23 : decode cX7_readSwitch 23 = .ok (.aload_n 0, 1) := by decide +kernel
theorem dX7_readSwitch_24 : decode cX7_readSwitch 24 = .ok (.getfield 104, 3) := by decide +kernel
theorem dX7_readSwitch_27 : decode cX7_readSwitch 27 = .ok (.imul, 1) := by decide +kernel
theorem dX7_readSwitch_28 : decode cX7_readSwitch 28 = .ok (.istore_n 3, 1) := by decide +kernel
theorem dX7_readSwitch_29 : decode cX7_readSwitch 29 = .ok (.aload_n 0, 1) := by decide +kernel
theorem dX7_readSwitch_30 : decode cX7_readSwitch 30 = .ok (.getfield 40, 3) := by decide +kernel
theorem dX7_readSwitch_33 : decode cX7_readSwitch 33 = .ok (.iload_n 3, 1) := by decide +kernel
theorem dX7_readSwitch_34 : decode cX7_readSwitch 34 = .ok (.iload_n 2, 1) := by decide +kernel
theorem dX7_readSwitch_35 : decode cX7_readSwitch 35 = .ok (.bipush 112, 2) := by decide +kernel
