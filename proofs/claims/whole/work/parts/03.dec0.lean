theorem dX0_init_0 : decode cX0_init 0 = .ok (.aload_n 0, 1) := by decide +kernel
theorem dX0_init_1 : decode cX0_init 1 = .ok (.invokespecial 3, 3) := by decide +kernel
theorem dX0_init_4 : decode cX0_init 4 = .ok (.aload_n 0, 1) := by decide +kernel
theorem dX0_init_5 : decode cX0_init 5 = .ok (.iconst 5, 1) := by decide +kernel
theorem dX0_init_6 : decode cX0_init 6 = .ok (.newarray .int, 2) := by decide +kernel
theorem dX0_init_8 : decode cX0_init 8 = .ok (.putfield 9, 3) := by decide +kernel
theorem dX0_init_11 : decode cX0_init 11 = .ok (.return_, 1) := by decide +kernel
theorem dX0_goThrough_0 : decode cX0_goThrough 0 = .ok (.aload_n 1, 1) := by decide +kernel
theorem dX0_goThrough_1 : decode cX0_goThrough 1 = .ok (.getfield 15, 3) := by decide +kernel
theorem dX0_goThrough_4 : decode cX0_goThrough 4 = .ok (.iconst 0, 1) := by decide +kernel
theorem dX0_goThrough_5 : decode cX0_goThrough 5 = .ok (.aload_n 0, 1) := by decide +kernel
theorem dX0_goThrough_6 : decode cX0_goThrough 6 = .ok (.getfield 9, 3) := by decide +kernel
theorem dX0_goThrough_9 : decode cX0_goThrough 9 = .ok (.iconst 0, 1) := by decide +kernel
theorem dX0_goThrough_10 : decode cX0_goThrough 10 = .ok (.iconst 5, 1) := by decide +kernel
theorem dX0_goThrough_11 : decode cX0_goThrough 11 = .ok (.invokestatic 20, 3) := by decide +kernel
theorem dX0_goThrough_14 : decode cX0_goThrough 14 = .ok (.aload_n 0, 1) := by decide +kernel
theorem dX0_goThrough_15 : decode cX0_goThrough 15 = .ok (.bipush (-9), 2) := by decide +kernel
theorem dX0_goThrough_17 : decode cX0_goThrough 17 = .ok (.putfield 26, 3) := by decide +kernel
theorem dX0_goThrough_20 : decode cX0_goThrough 20 = .ok (.aload_n 0, 1) := by decide +kernel
theorem dX0_goThrough_21 : decode cX0_goThrough 21 = .ok (.iconst 0, 1) := by decide +kernel
theorem dX0_goThrough_22 : decode cX0_goThrough 22 = .ok (.putfield 30, 3) := by decide +kernel
theorem dX0_goThrough_25 : decode cX0_goThrough 25 = .ok (.aload_n 0, 1) := by decide +kernel
theorem dX0_goThrough_26 : decode cX0_goThrough 26 = .ok (.iconst 0, 1) := by decide +kernel
theorem dX0_goThrough_27 : decode cX0_goThrough 27 = .ok (.putfield 33, 3) := by decide +kernel
theorem dX0_goThrough_30 : decode cX0_goThrough 30 = .ok (.iconst 0, 1) := by decide +kernel
theorem dX0_goThrough_31 : decode cX0_goThrough 31 = .ok (.istore 5, 2) := by decide +kernel
theorem dX0_goThrough_33 : decode cX0_goThrough 33 = .ok (.iload 5, 2) := by decide +kernel
theorem dX0_goThrough_35 : decode cX0_goThrough 35 = .ok (.iload 4, 2) := by decide +kernel
theorem dX0_goThrough_37 : decode cX0_goThrough 37 = .ok (.if_icmp .ge 71, 3) := by decide +kernel
theorem dX0_goThrough_40 : decode cX0_goThrough 40 = .ok (.aload_n 0, 1) := by decide +kernel
theorem dX0_goThrough_41 : decode cX0_goThrough 41 = .ok (.aload_n 1, 1) := by decide +kernel
theorem dX0_goThrough_42 : decode cX0_goThrough 42 = .ok (.aload_n 2, 1) := by decide +kernel
theorem dX0_goThrough_43 : decode cX0_goThrough 43 = .ok (.iload_n 3, 1) := by decide +kernel
theorem dX0_goThrough_44 : decode cX0_goThrough 44 = .ok (.iconst 2, 1) := by decide +kernel
theorem dX0_goThrough_45 : decode cX0_goThrough 45 = .ok (.iload 5, 2) := by decide +kernel
theorem dX0_goThrough_47 : decode cX0_goThrough 47 = .ok (.imul, 1) := by decide +kernel
theorem dX0_goThrough_48 : decode cX0_goThrough 48 = .ok (.iadd, 1) := by decide +kernel
theorem dX0_goThrough_49 : decode cX0_goThrough 49 = .ok (.invokevirtual 36, 3) := by decide +kernel
theorem dX0_goThrough_52 : decode cX0_goThrough 52 = .ok (.aload_n 2, 1) := by decide +kernel
theorem dX0_goThrough_53 : decode cX0_goThrough 53 = .ok (.iload_n 3, 1) := by decide +kernel
theorem dX0_goThrough_54 : decode cX0_goThrough 54 = .ok (.iconst 2, 1) := by decide +kernel
theorem dX0_goThrough_55 : decode cX0_goThrough 55 = .ok (.iload 5, 2) := by decide +kernel
theorem dX0_goThrough_57 : decode cX0_goThrough 57 = .ok (.imul, 1) := by decide +kernel
theorem dX0_goThrough_58 : decode cX0_goThrough 58 = .ok (.iadd, 1) := by decide +kernel
theorem dX0_goThrough_59 : decode cX0_goThrough 59 = .ok (.iconst 1, 1) := by decide +kernel
theorem dX0_goThrough_60 : decode cX0_goThrough 60 = .ok (.iadd, 1) := by decide +kernel
theorem dX0_goThrough_61 : decode cX0_goThrough 61 = .ok (.invokevirtual 36, 3) := by decide +kernel
theorem dX0_goThrough_64 : decode cX0_goThrough 64 = .ok (.invokevirtual 42, 3) := by decide +kernel
theorem dX0_goThrough_67 : decode cX0_goThrough 67 = .ok (.ifCond .ne 10, 3) := by decide +kernel
theorem dX0_goThrough_70 : decode cX0_goThrough 70 = .ok (.aload_n 0, 1) := by decide +kernel
theorem dX0_goThrough_71 : decode cX0_goThrough 71 = .ok (.iload 5, 2) := by decide +kernel
theorem dX0_goThrough_73 : decode cX0_goThrough 73 = .ok (.putfield 26, 3) := by decide +kernel
theorem dX0_goThrough_76 : decode cX0_goThrough 76 = .ok (.return_, 1) := by decide +kernel
theorem dX0_goThrough_77 : decode cX0_goThrough 77 = .ok (.aload_n 1, 1) := by decide +kernel
theorem dX0_goThrough_78 : decode cX0_goThrough 78 = .ok (.aload_n 0, 1) := by decide +kernel
theorem dX0_goThrough_79 : decode cX0_goThrough 79 = .ok (.getfield 9, 3) := by decide +kernel
theorem dX0_goThrough_82 : decode cX0_goThrough 82 = .ok (.invokevirtual 46, 3) := by decide +kernel
theorem dX0_goThrough_85 : decode cX0_goThrough 85 = .ok (.aload_n 1, 1) := by decide +kernel
theorem dX0_goThrough_86 : decode cX0_goThrough 86 = .ok (.getfield 50, 3) := by decide +kernel
theorem dX0_goThrough_89 : decode cX0_goThrough 89 = .ok (.if_icmp .ne 13, 3) := by decide +kernel
theorem dX0_goThrough_92 : decode cX0_goThrough 92 = .ok (.aload_n 0, 1) := by decide +kernel
theorem dX0_goThrough_93 : decode cX0_goThrough 93 = .ok (.dup, 1) := by decide +kernel
theorem dX0_goThrough_94 : decode cX0_goThrough 94 = .ok (.getfield 33, 3) := by decide +kernel
theorem dX0_goThrough_97 : decode cX0_goThrough 97 = .ok (.iconst 1, 1) := by decide +kernel
theorem dX0_goThrough_98 : decode cX0_goThrough 98 = .ok (.iadd, 1) := by decide +kernel
theorem dX0_goThrough_99 : decode cX0_goThrough 99 = .ok (.putfield 33, 3) := by decide +kernel
theorem dX0_goThrough_102 : decode cX0_goThrough 102 = .ok (.iinc 5 1, 3) := by decide +kernel
theorem dX0_goThrough_105 : decode cX0_goThrough 105 = .ok (.goto (-72), 3) := by decide +kernel
theorem dX0_goThrough_108 : decode cX0_goThrough 108 = .ok (.return_, 1) := by decide +kernel
theorem dX0_happens_0 : decode cX0_happens 0 = .ok (.iload_n 3, 1) := by decide +kernel
theorem dX0_happens_1 : decode cX0_happens 1 = .ok (.bipush 10, 2) := by decide +kernel
theorem dX0_happens_3 : decode cX0_happens 3 = .ok (.if_icmp .lt 31, 3) := by decide +kernel
theorem dX0_happens_6 : decode cX0_happens 6 = .ok (.iload_n 3, 1) := by decide +kernel
theorem dX0_happens_7 : decode cX0_happens 7 = .ok (.bipush 10, 2) := by decide +kernel
theorem dX0_happens_9 : decode cX0_happens 9 = .ok (.isub, 1) := by decide +kernel
theorem dX0_happens_10 : decode cX0_happens 10 = .ok (.istore 4, 2) := by decide +kernel
theorem dX0_happens_12 : decode cX0_happens 12 = .ok (.aload_n 1, 1) := by decide +kernel
theorem dX0_happens_13 : decode cX0_happens 13 = .ok (.iload 4, 2) := by decide +kernel
theorem dX0_happens_15 : decode cX0_happens 15 = .ok (.iload_n 2, 1) := by decide +kernel
theorem dX0_happens_16 : decode cX0_happens 16 = .ok (.invokevirtual 53, 3) := by decide +kernel
theorem dX0_happens_19 : decode cX0_happens 19 = .ok (.ifCond .ne 5, 3) := by decide +kernel
theorem dX0_happens_22 : decode cX0_happens 22 = .ok (.iconst 0, 1) := by decide +kernel
theorem dX0_happens_23 : decode cX0_happens 23 = .ok (.ireturn, 1) := by decide +kernel
theorem dX0_happens_24 : decode cX0_happens 24 = .ok (.aload_n 0, 1) := by decide +kernel
theorem dX0_happens_25 : decode cX0_happens 25 = .ok (.getfield 9, 3) := by decide +kernel
theorem dX0_happens_28 : decode cX0_happens 28 = .ok (.iload 4, 2) := by decide +kernel
theorem dX0_happens_30 : decode cX0_happens 30 = .ok (.iload_n 2, 1) := by decide +kernel
theorem dX0_happens_31 : decode cX0_happens 31 = .ok (.iastore, 1) := by decide +kernel
theorem dX0_happens_32 : decode cX0_happens 32 = .ok (.iconst 1, 1) := by decide +kernel
theorem dX0_happens_33 : decode cX0_happens 33 = .ok (.ireturn, 1) := by decide +kernel
theorem dX0_happens_34 : decode cX0_happens 34 = .ok (.aload_n 1, 1) := by decide +kernel
theorem dX0_happens_35 : decode cX0_happens 35 = .ok (.iload_n 2, 1) := by decide +kernel
theorem dX0_happens_36 : decode cX0_happens 36 = .ok (.invokevirtual 57, 3) := by decide +kernel
theorem dX0_happens_39 : decode cX0_happens 39 = .ok (.ifCond .ne 5, 3) := by decide +kernel
theorem dX0_happens_42 : decode cX0_happens 42 = .ok (.iconst 0, 1) := by decide +kernel
theorem dX0_happens_43 : decode cX0_happens 43 = .ok (.ireturn, 1) := by decide +kernel
theorem dX0_happens_44 : decode cX0_happens 44 = .ok (.aload_n 1, 1) := by decide +kernel
theorem dX0_happens_45 : decode cX0_happens 45 = .ok (.aload_n 0, 1) := by decide +kernel
theorem dX0_happens_46 : decode cX0_happens 46 = .ok (.getfield 9, 3) := by decide +kernel
theorem dX0_happens_49 : decode cX0_happens 49 = .ok (.iload_n 2, 1) := by decide +kernel
theorem dX0_happens_50 : decode cX0_happens 50 = .ok (.iload_n 3, 1) := by decide +kernel
theorem dX0_happens_51 : decode cX0_happens 51 = .ok (.invokevirtual 61, 3) := by decide +kernel
theorem dX0_happens_54 : decode cX0_happens 54 = .ok (.aload_n 0, 1) := by decide +kernel
theorem dX0_happens_55 : decode cX0_happens 55 = .ok (.dup, 1) := by decide +kernel
theorem dX0_happens_56 : decode cX0_happens 56 = .ok (.getfield 30, 3) := by decide +kernel
theorem dX0_happens_59 : decode cX0_happens 59 = .ok (.iload_n 3, 1) := by decide +kernel
theorem dX0_happens_60 : decode cX0_happens 60 = .ok (.iadd, 1) := by decide +kernel
theorem dX0_happens_61 : decode cX0_happens 61 = .ok (.putfield 30, 3) := by decide +kernel
theorem dX0_happens_64 : decode cX0_happens 64 = .ok (.iconst 1, 1) := by decide +kernel
theorem dX0_happens_65 : decode cX0_happens 65 = .ok (.ireturn, 1) := by decide +kernel
theorem dX1_init_0 : decode cX1_init 0 = .ok (.aload_n 0, 1) := by decide +kernel
theorem dX1_init_1 : decode cX1_init 1 = .ok (.invokespecial 3, 3) := by decide +kernel
theorem dX1_init_4 : decode cX1_init 4 = .ok (.aload_n 0, 1) := by decide +kernel
theorem dX1_init_5 : decode cX1_init 5 = .ok (.iconst 5, 1) := by decide +kernel
theorem dX1_init_6 : decode cX1_init 6 = .ok (.newarray .int, 2) := by decide +kernel
theorem dX1_init_8 : decode cX1_init 8 = .ok (.putfield 9, 3) := by decide +kernel
theorem dX1_init_11 : decode cX1_init 11 = .ok (.aload_n 0, 1) := by decide +kernel
theorem dX1_init_12 : decode cX1_init 12 = .ok (.iconst 5, 1) := by decide +kernel
theorem dX1_init_13 : decode cX1_init 13 = .ok (.newarray .int, 2) := by decide +kernel
theorem dX1_init_15 : decode cX1_init 15 = .ok (.putfield 15, 3) := by decide +kernel
theorem dX1_init_18 : decode cX1_init 18 = .ok (.aload_n 0, 1) := by decide +kernel
theorem dX1_init_19 : decode cX1_init 19 = .ok (.iconst 5, 1) := by decide +kernel
theorem dX1_init_20 : decode cX1_init 20 = .ok (.newarray .int, 2) := by decide +kernel
theorem dX1_init_22 : decode cX1_init 22 = .ok (.putfield 18, 3) := by decide +kernel
theorem dX1_init_25 : decode cX1_init 25 = .ok (.aload_n 0, 1) := by decide +kernel
theorem dX1_init_26 : decode cX1_init 26 = .ok (.iconst 5, 1) := by decide +kernel
theorem dX1_init_27 : decode cX1_init 27 = .ok (.newarray .int, 2) := by decide +kernel
theorem dX1_init_29 : decode cX1_init 29 = .ok (.putfield 21, 3) := by decide +kernel
theorem dX1_init_32 : decode cX1_init 32 = .ok (.aload_n 0, 1) := by decide +kernel
theorem dX1_init_33 : decode cX1_init 33 = .ok (.iconst 5, 1) := by decide +kernel
theorem dX1_init_34 : decode cX1_init 34 = .ok (.newarray .int, 2) := by decide +kernel
theorem dX1_init_36 : decode cX1_init 36 = .ok (.putfield 24, 3) := by decide +kernel
theorem dX1_init_39 : decode cX1_init 39 = .ok (.aload_n 0, 1) := by decide +kernel
theorem dX1_init_40 : decode cX1_init 40 = .ok (.iconst 5, 1) := by decide +kernel
theorem dX1_init_41 : decode cX1_init 41 = .ok (.newarray .int, 2) := by decide +kernel
theorem dX1_init_43 : decode cX1_init 43 = .ok (.putfield 27, 3) := by decide +kernel
theorem dX1_init_46 : decode cX1_init 46 = .ok (.return_, 1) := by decide +kernel
theorem dX1_isMissing_0 : decode cX1_isMissing 0 = .ok (.aload_n 0, 1) := by decide +kernel
theorem dX1_isMissing_1 : decode cX1_isMissing 1 = .ok (.getfield 30, 3) := by decide +kernel
theorem dX1_isMissing_4 : decode cX1_isMissing 4 = .ok (.ifCond .ne 7, 3) := by decide +kernel
theorem dX1_isMissing_7 : decode cX1_isMissing 7 = .ok (.iconst 1, 1) := by decide +kernel
theorem dX1_isMissing_8 : decode cX1_isMissing 8 = .ok (.goto 4, 3) := by decide +kernel
theorem dX1_isMissing_11 : decode cX1_isMissing 11 = .ok (.iconst 0, 1) := by decide +kernel
theorem dX1_isMissing_12 : decode cX1_isMissing 12 = .ok (.ireturn, 1) := by decide +kernel
theorem dX1_hasLamp_0 : decode cX1_hasLamp 0 = .ok (.iload_n 1, 1) := by decide +kernel
theorem dX1_hasLamp_1 : decode cX1_hasLamp 1 = .ok (.ifCond .lt 15, 3) := by decide +kernel
theorem dX1_hasLamp_4 : decode cX1_hasLamp 4 = .ok (.iload_n 1, 1) := by decide +kernel
theorem dX1_hasLamp_5 : decode cX1_hasLamp 5 = .ok (.aload_n 0, 1) := by decide +kernel
theorem dX1_hasLamp_6 : decode cX1_hasLamp 6 = .ok (.getfield 30, 3) := by decide +kernel
theorem dX1_hasLamp_9 : decode cX1_hasLamp 9 = .ok (.if_icmp .ge 7, 3) := by decide +kernel
theorem dX1_hasLamp_12 : decode cX1_hasLamp 12 = .ok (.iconst 1, 1) := by decide +kernel
theorem dX1_hasLamp_13 : decode cX1_hasLamp 13 = .ok (.goto 4, 3) := by decide +kernel
theorem dX1_hasLamp_16 : decode cX1_hasLamp 16 = .ok (.iconst 0, 1) := by decide +kernel
theorem dX1_hasLamp_17 : decode cX1_hasLamp 17 = .ok (.ireturn, 1) := by decide +kernel
theorem dX1_hasSwitch_0 : decode cX1_hasSwitch 0 = .ok (.iload_n 1, 1) := by decide +kernel
theorem dX1_hasSwitch_1 : decode cX1_hasSwitch 1 = .ok (.ifCond .lt 15, 3) := by decide +kernel
theorem dX1_hasSwitch_4 : decode cX1_hasSwitch 4 = .ok (.iload_n 1, 1) := by decide +kernel
theorem dX1_hasSwitch_5 : decode cX1_hasSwitch 5 = .ok (.aload_n 0, 1) := by decide +kernel
theorem dX1_hasSwitch_6 : decode cX1_hasSwitch 6 = .ok (.getfield 34, 3) := by decide +kernel
theorem dX1_hasSwitch_9 : decode cX1_hasSwitch 9 = .ok (.if_icmp .ge 7, 3) := by decide +kernel
theorem dX1_hasSwitch_12 : decode cX1_hasSwitch 12 = .ok (.iconst 1, 1) := by decide +kernel
theorem dX1_hasSwitch_13 : decode cX1_hasSwitch 13 = .ok (.goto 4, 3) := by decide +kernel
theorem dX1_hasSwitch_16 : decode cX1_hasSwitch 16 = .ok (.iconst 0, 1) := by decide +kernel
theorem dX1_hasSwitch_17 : decode cX1_hasSwitch 17 = .ok (.ireturn, 1) := by decide +kernel
theorem dX1_hasShade_0 : decode cX1_hasShade 0 = .ok (.aload_n 0, 1) := by decide +kernel
theorem dX1_hasShade_1 : decode cX1_hasShade 1 = .ok (.iload_n 1, 1) := by decide +kernel
theorem dX1_hasShade_2 : decode cX1_hasShade 2 = .ok (.invokevirtual 37, 3) := by decide +kernel
theorem dX1_hasShade_5 : decode cX1_hasShade 5 = .ok (.ifCond .eq 21, 3) := by decide +kernel
theorem dX1_hasShade_8 : decode cX1_hasShade 8 = .ok (.iload_n 2, 1) := by decide +kernel
theorem dX1_hasShade_9 : decode cX1_hasShade 9 = .ok (.ifCond .lt 17, 3) := by decide +kernel
theorem dX1_hasShade_12 : decode cX1_hasShade 12 = .ok (.iload_n 2, 1) := by decide +kernel
theorem dX1_hasShade_13 : decode cX1_hasShade 13 = .ok (.aload_n 0, 1) := by decide +kernel
theorem dX1_hasShade_14 : decode cX1_hasShade 14 = .ok (.getfield 9, 3) := by decide +kernel
theorem dX1_hasShade_17 : decode cX1_hasShade 17 = .ok (.iload_n 1, 1) := by decide +kernel
theorem dX1_hasShade_18 : decode cX1_hasShade 18 = .ok (.iaload, 1) := by decide +kernel
theorem dX1_hasShade_19 : decode cX1_hasShade 19 = .ok (.if_icmp .ge 7, 3) := by decide +kernel
theorem dX1_hasShade_22 : decode cX1_hasShade 22 = .ok (.iconst 1, 1) := by decide +kernel
theorem dX1_hasShade_23 : decode cX1_hasShade 23 = .ok (.goto 4, 3) := by decide +kernel
theorem dX1_hasShade_26 : decode cX1_hasShade 26 = .ok (.iconst 0, 1) := by decide +kernel
theorem dX1_hasShade_27 : decode cX1_hasShade 27 = .ok (.ireturn, 1) := by decide +kernel
theorem dX1_allSwitches_0 : decode cX1_allSwitches 0 = .ok (.iconst 1, 1) := by decide +kernel
theorem dX1_allSwitches_1 : decode cX1_allSwitches 1 = .ok (.aload_n 0, 1) := by decide +kernel
theorem dX1_allSwitches_2 : decode cX1_allSwitches 2 = .ok (.getfield 34, 3) := by decide +kernel
theorem dX1_allSwitches_5 : decode cX1_allSwitches 5 = .ok (.ishl, 1) := by decide +kernel
theorem dX1_allSwitches_6 : decode cX1_allSwitches 6 = .ok (.iconst 1, 1) := by decide +kernel
theorem dX1_allSwitches_7 : decode cX1_allSwitches 7 = .ok (.isub, 1) := by decide +kernel
theorem dX1_allSwitches_8 : decode cX1_allSwitches 8 = .ok (.ireturn, 1) := by decide +kernel
theorem dX1_isWired_0 : decode cX1_isWired 0 = .ok (.aload_n 0, 1) := by decide +kernel
theorem dX1_isWired_1 : decode cX1_isWired 1 = .ok (.getfield 24, 3) := by decide +kernel
theorem dX1_isWired_4 : decode cX1_isWired 4 = .ok (.iload_n 1, 1) := by decide +kernel
theorem dX1_isWired_5 : decode cX1_isWired 5 = .ok (.iaload, 1) := by decide +kernel
theorem dX1_isWired_6 : decode cX1_isWired 6 = .ok (.iload_n 2, 1) := by decide +kernel
theorem dX1_isWired_7 : decode cX1_isWired 7 = .ok (.ishr, 1) := by decide +kernel
theorem dX1_isWired_8 : decode cX1_isWired 8 = .ok (.iconst 1, 1) := by decide +kernel
theorem dX1_isWired_9 : decode cX1_isWired 9 = .ok (.iand, 1) := by decide +kernel
theorem dX1_isWired_10 : decode cX1_isWired 10 = .ok (.iconst 1, 1) := by decide +kernel
theorem dX1_isWired_11 : decode cX1_isWired 11 = .ok (.if_icmp .ne 7, 3) := by decide +kernel
theorem dX1_isWired_14 : decode cX1_isWired 14 = .ok (.iconst 1, 1) := by decide +kernel
theorem dX1_isWired_15 : decode cX1_isWired 15 = .ok (.goto 4, 3) := by decide +kernel
theorem dX1_isWired_18 : decode cX1_isWired 18 = .ok (.iconst 0, 1) := by decide +kernel
theorem dX1_isWired_19 : decode cX1_isWired 19 = .ok (.ireturn, 1) := by decide +kernel
theorem dX1_switchesTo_0 : decode cX1_switchesTo 0 = .ok (.iconst 0, 1) := by decide +kernel
theorem dX1_switchesTo_1 : decode cX1_switchesTo 1 = .ok (.istore_n 2, 1) := by decide +kernel
theorem dX1_switchesTo_2 : decode cX1_switchesTo 2 = .ok (.iconst 0, 1) := by decide +kernel
theorem dX1_switchesTo_3 : decode cX1_switchesTo 3 = .ok (.istore_n 3, 1) := by decide +kernel
theorem dX1_switchesTo_4 : decode cX1_switchesTo 4 = .ok (.iload_n 3, 1) := by decide +kernel
theorem dX1_switchesTo_5 : decode cX1_switchesTo 5 = .ok (.aload_n 0, 1) := by decide +kernel
theorem dX1_switchesTo_6 : decode cX1_switchesTo 6 = .ok (.getfield 34, 3) := by decide +kernel
theorem dX1_switchesTo_9 : decode cX1_switchesTo 9 = .ok (.if_icmp .ge 24, 3) := by decide +kernel
theorem dX1_switchesTo_12 : decode cX1_switchesTo 12 = .ok (.aload_n 0, 1) := by decide +kernel
theorem dX1_switchesTo_13 : decode cX1_switchesTo 13 = .ok (.iload_n 3, 1) := by decide +kernel
theorem dX1_switchesTo_14 : decode cX1_switchesTo 14 = .ok (.iload_n 1, 1) := by decide +kernel
theorem dX1_switchesTo_15 : decode cX1_switchesTo 15 = .ok (.invokevirtual 41, 3) := by decide +kernel
theorem dX1_switchesTo_18 : decode cX1_switchesTo 18 = .ok (.ifCond .eq 9, 3) := by decide +kernel
theorem dX1_switchesTo_21 : decode cX1_switchesTo 21 = .ok (.iload_n 2, 1) := by decide +kernel
theorem dX1_switchesTo_22 : decode cX1_switchesTo 22 = .ok (.iconst 1, 1) := by decide +kernel
theorem dX1_switchesTo_23 : decode cX1_switchesTo 23 = .ok (.iload_n 3, 1) := by decide +kernel
theorem dX1_switchesTo_24 : decode cX1_switchesTo 24 = .ok (.ishl, 1) := by decide +kernel
theorem dX1_switchesTo_25 : decode cX1_switchesTo 25 = .ok (.ior, 1) := by decide +kernel
theorem dX1_switchesTo_26 : decode cX1_switchesTo 26 = .ok (.istore_n 2, 1) := by decide +kernel
theorem dX1_switchesTo_27 : decode cX1_switchesTo 27 = .ok (.iinc 3 1, 3) := by decide +kernel
theorem dX1_switchesTo_30 : decode cX1_switchesTo 30 = .ok (.goto (-26), 3) := by decide +kernel
theorem dX1_switchesTo_33 : decode cX1_switchesTo 33 = .ok (.iload_n 2, 1) := by decide +kernel
theorem dX1_switchesTo_34 : decode cX1_switchesTo 34 = .ok (.ireturn, 1) := by decide +kernel
theorem dX1_moves_0 : decode cX1_moves 0 = .ok (.aload_n 0, 1) := by decide +kernel
theorem dX1_moves_1 : decode cX1_moves 1 = .ok (.getfield 18, 3) := by decide +kernel
theorem dX1_moves_4 : decode cX1_moves 4 = .ok (.iload_n 1, 1) := by decide +kernel
theorem dX1_moves_5 : decode cX1_moves 5 = .ok (.iaload, 1) := by decide +kernel
theorem dX1_moves_6 : decode cX1_moves 6 = .ok (.lookupswitch 44 #[(1, 35), (2, 26)], 26) := by decide +kernel
theorem dX1_moves_32 : decode cX1_moves 32 = .ok (.iconst 2, 1) := by decide +kernel
theorem dX1_moves_33 : decode cX1_moves 33 = .ok (.aload_n 0, 1) := by decide +kernel
theorem dX1_moves_34 : decode cX1_moves 34 = .ok (.getfield 21, 3) := by decide +kernel
theorem dX1_moves_37 : decode cX1_moves 37 = .ok (.iload_n 1, 1) := by decide +kernel
theorem dX1_moves_38 : decode cX1_moves 38 = .ok (.iaload, 1) := by decide +kernel
theorem dX1_moves_39 : decode cX1_moves 39 = .ok (.imul, 1) := by decide +kernel
theorem dX1_moves_40 : decode cX1_moves 40 = .ok (.ireturn, 1) := by decide +kernel
theorem dX1_moves_41 : decode cX1_moves 41 = .ok (.aload_n 0, 1) := by decide +kernel
theorem dX1_moves_42 : decode cX1_moves 42 = .ok (.getfield 21, 3) := by decide +kernel
theorem dX1_moves_45 : decode cX1_moves 45 = .ok (.iload_n 1, 1) := by decide +kernel
theorem dX1_moves_46 : decode cX1_moves 46 = .ok (.iaload, 1) := by decide +kernel
theorem dX1_moves_47 : decode cX1_moves 47 = .ok (.iconst 1, 1) := by decide +kernel
theorem dX1_moves_48 : decode cX1_moves 48 = .ok (.iadd, 1) := by decide +kernel
theorem dX1_moves_49 : decode cX1_moves 49 = .ok (.ireturn, 1) := by decide +kernel
theorem dX1_moves_50 : decode cX1_moves 50 = .ok (.aload_n 0, 1) := by decide +kernel
theorem dX1_moves_51 : decode cX1_moves 51 = .ok (.getfield 21, 3) := by decide +kernel
theorem dX1_moves_54 : decode cX1_moves 54 = .ok (.iload_n 1, 1) := by decide +kernel
theorem dX1_moves_55 : decode cX1_moves 55 = .ok (.iaload, 1) := by decide +kernel
theorem dX1_moves_56 : decode cX1_moves 56 = .ok (.ireturn, 1) := by decide +kernel
theorem dX1_stepOf_0 : decode cX1_stepOf 0 = .ok (.aload_n 0, 1) := by decide +kernel
theorem dX1_stepOf_1 : decode cX1_stepOf 1 = .ok (.iload_n 1, 1) := by decide +kernel
theorem dX1_stepOf_2 : decode cX1_stepOf 2 = .ok (.iload_n 2, 1) := by decide +kernel
theorem dX1_stepOf_3 : decode cX1_stepOf 3 = .ok (.invokevirtual 41, 3) := by decide +kernel
theorem dX1_stepOf_6 : decode cX1_stepOf 6 = .ok (.ifCond .eq 20, 3) := by decide +kernel
theorem dX1_stepOf_9 : decode cX1_stepOf 9 = .ok (.aload_n 0, 1) := by decide +kernel
theorem dX1_stepOf_10 : decode cX1_stepOf 10 = .ok (.iload_n 1, 1) := by decide +kernel
theorem dX1_stepOf_11 : decode cX1_stepOf 11 = .ok (.invokevirtual 45, 3) := by decide +kernel
theorem dX1_stepOf_14 : decode cX1_stepOf 14 = .ok (.aload_n 0, 1) := by decide +kernel
theorem dX1_stepOf_15 : decode cX1_stepOf 15 = .ok (.getfield 9, 3) := by decide +kernel
theorem dX1_stepOf_18 : decode cX1_stepOf 18 = .ok (.iload_n 2, 1) := by decide +kernel
theorem dX1_stepOf_19 : decode cX1_stepOf 19 = .ok (.iaload, 1) := by decide +kernel
theorem dX1_stepOf_20 : decode cX1_stepOf 20 = .ok (.invokestatic 49, 3) := by decide +kernel
theorem dX1_stepOf_23 : decode cX1_stepOf 23 = .ok (.goto 4, 3) := by decide +kernel
theorem dX1_stepOf_26 : decode cX1_stepOf 26 = .ok (.iconst 0, 1) := by decide +kernel
theorem dX1_stepOf_27 : decode cX1_stepOf 27 = .ok (.ireturn, 1) := by decide +kernel
theorem dX1_turnOn_0 : decode cX1_turnOn 0 = .ok (.iconst 0, 1) := by decide +kernel
theorem dX1_turnOn_1 : decode cX1_turnOn 1 = .ok (.istore 4, 2) := by decide +kernel
theorem dX1_turnOn_3 : decode cX1_turnOn 3 = .ok (.iload 4, 2) := by decide +kernel
theorem dX1_turnOn_5 : decode cX1_turnOn 5 = .ok (.aload_n 0, 1) := by decide +kernel
theorem dX1_turnOn_6 : decode cX1_turnOn 6 = .ok (.getfield 30, 3) := by decide +kernel
theorem dX1_turnOn_9 : decode cX1_turnOn 9 = .ok (.if_icmp .ge 37, 3) := by decide +kernel
theorem dX1_turnOn_12 : decode cX1_turnOn 12 = .ok (.aload_n 1, 1) := by decide +kernel
theorem dX1_turnOn_13 : decode cX1_turnOn 13 = .ok (.iload 4, 2) := by decide +kernel
theorem dX1_turnOn_15 : decode cX1_turnOn 15 = .ok (.aload_n 1, 1) := by decide +kernel
theorem dX1_turnOn_16 : decode cX1_turnOn 16 = .ok (.iload 4, 2) := by decide +kernel
theorem dX1_turnOn_18 : decode cX1_turnOn 18 = .ok (.iaload, 1) := by decide +kernel
theorem dX1_turnOn_19 : decode cX1_turnOn 19 = .ok (.iload_n 3, 1) := by decide +kernel
theorem dX1_turnOn_20 : decode cX1_turnOn 20 = .ok (.aload_n 0, 1) := by decide +kernel
theorem dX1_turnOn_21 : decode cX1_turnOn 21 = .ok (.iload_n 2, 1) := by decide +kernel
theorem dX1_turnOn_22 : decode cX1_turnOn 22 = .ok (.iload 4, 2) := by decide +kernel
theorem dX1_turnOn_24 : decode cX1_turnOn 24 = .ok (.invokevirtual 53, 3) := by decide +kernel
theorem dX1_turnOn_27 : decode cX1_turnOn 27 = .ok (.imul, 1) := by decide +kernel
theorem dX1_turnOn_28 : decode cX1_turnOn 28 = .ok (.iadd, 1) := by decide +kernel
theorem dX1_turnOn_29 : decode cX1_turnOn 29 = .ok (.aload_n 0, 1) := by decide +kernel
theorem dX1_turnOn_30 : decode cX1_turnOn 30 = .ok (.getfield 9, 3) := by decide +kernel
theorem dX1_turnOn_33 : decode cX1_turnOn 33 = .ok (.iload 4, 2) := by decide +kernel
theorem dX1_turnOn_35 : decode cX1_turnOn 35 = .ok (.iaload, 1) := by decide +kernel
theorem dX1_turnOn_36 : decode cX1_turnOn 36 = .ok (.invokestatic 49, 3) := by decide +kernel
theorem dX1_turnOn_39 : decode cX1_turnOn 39 = .ok (.iastore, 1) := by decide +kernel
theorem dX1_turnOn_40 : decode cX1_turnOn 40 = .ok (.iinc 4 1, 3) := by decide +kernel
theorem dX1_turnOn_43 : decode cX1_turnOn 43 = .ok (.goto (-40), 3) := by decide +kernel
theorem dX1_turnOn_46 : decode cX1_turnOn 46 = .ok (.return_, 1) := by decide +kernel
theorem dX1_darkIn_0 : decode cX1_darkIn 0 = .ok (.iconst 0, 1) := by decide +kernel
theorem dX1_darkIn_1 : decode cX1_darkIn 1 = .ok (.istore_n 2, 1) := by decide +kernel
theorem dX1_darkIn_2 : decode cX1_darkIn 2 = .ok (.iconst 0, 1) := by decide +kernel
theorem dX1_darkIn_3 : decode cX1_darkIn 3 = .ok (.istore_n 3, 1) := by decide +kernel
theorem dX1_darkIn_4 : decode cX1_darkIn 4 = .ok (.iload_n 3, 1) := by decide +kernel
theorem dX1_darkIn_5 : decode cX1_darkIn 5 = .ok (.aload_n 0, 1) := by decide +kernel
theorem dX1_darkIn_6 : decode cX1_darkIn 6 = .ok (.getfield 30, 3) := by decide +kernel
theorem dX1_darkIn_9 : decode cX1_darkIn 9 = .ok (.if_icmp .ge 18, 3) := by decide +kernel
theorem dX1_darkIn_12 : decode cX1_darkIn 12 = .ok (.aload_n 1, 1) := by decide +kernel
theorem dX1_darkIn_13 : decode cX1_darkIn 13 = .ok (.iload_n 3, 1) := by decide +kernel
theorem dX1_darkIn_14 : decode cX1_darkIn 14 = .ok (.iaload, 1) := by decide +kernel
theorem dX1_darkIn_15 : decode cX1_darkIn 15 = .ok (.ifCond .ne 6, 3) := by decide +kernel
theorem dX1_darkIn_18 : decode cX1_darkIn 18 = .ok (.iinc 2 1, 3) := by decide +kernel
theorem dX1_darkIn_21 : decode cX1_darkIn 21 = .ok (.iinc 3 1, 3) := by decide +kernel
theorem dX1_darkIn_24 : decode cX1_darkIn 24 = .ok (.goto (-20), 3) := by decide +kernel
theorem dX1_darkIn_27 : decode cX1_darkIn 27 = .ok (.iload_n 2, 1) := by decide +kernel
theorem dX1_darkIn_28 : decode cX1_darkIn 28 = .ok (.ireturn, 1) := by decide +kernel
theorem dX1_shadesIn_0 : decode cX1_shadesIn 0 = .ok (.iconst 0, 1) := by decide +kernel
theorem dX1_shadesIn_1 : decode cX1_shadesIn 1 = .ok (.istore_n 2, 1) := by decide +kernel
theorem dX1_shadesIn_2 : decode cX1_shadesIn 2 = .ok (.iconst 0, 1) := by decide +kernel
theorem dX1_shadesIn_3 : decode cX1_shadesIn 3 = .ok (.istore_n 3, 1) := by decide +kernel
theorem dX1_shadesIn_4 : decode cX1_shadesIn 4 = .ok (.iload_n 3, 1) := by decide +kernel
theorem dX1_shadesIn_5 : decode cX1_shadesIn 5 = .ok (.aload_n 0, 1) := by decide +kernel
theorem dX1_shadesIn_6 : decode cX1_shadesIn 6 = .ok (.getfield 30, 3) := by decide +kernel
theorem dX1_shadesIn_9 : decode cX1_shadesIn 9 = .ok (.if_icmp .ge 15, 3) := by decide +kernel
theorem dX1_shadesIn_12 : decode cX1_shadesIn 12 = .ok (.iload_n 2, 1) := by decide +kernel
theorem dX1_shadesIn_13 : decode cX1_shadesIn 13 = .ok (.aload_n 1, 1) := by decide +kernel
theorem dX1_shadesIn_14 : decode cX1_shadesIn 14 = .ok (.iload_n 3, 1) := by decide +kernel
theorem dX1_shadesIn_15 : decode cX1_shadesIn 15 = .ok (.iaload, 1) := by decide +kernel
theorem dX1_shadesIn_16 : decode cX1_shadesIn 16 = .ok (.iadd, 1) := by decide +kernel
theorem dX1_shadesIn_17 : decode cX1_shadesIn 17 = .ok (.istore_n 2, 1) := by decide +kernel
theorem dX1_shadesIn_18 : decode cX1_shadesIn 18 = .ok (.iinc 3 1, 3) := by decide +kernel
theorem dX1_shadesIn_21 : decode cX1_shadesIn 21 = .ok (.goto (-17), 3) := by decide +kernel
theorem dX1_shadesIn_24 : decode cX1_shadesIn 24 = .ok (.iload_n 2, 1) := by decide +kernel
theorem dX1_shadesIn_25 : decode cX1_shadesIn 25 = .ok (.ireturn, 1) := by decide +kernel
theorem dX1_pressesInAll_0 : decode cX1_pressesInAll 0 = .ok (.iconst 0, 1) := by decide +kernel
theorem dX1_pressesInAll_1 : decode cX1_pressesInAll 1 = .ok (.istore_n 1, 1) := by decide +kernel
theorem dX1_pressesInAll_2 : decode cX1_pressesInAll 2 = .ok (.iconst 0, 1) := by decide +kernel
theorem dX1_pressesInAll_3 : decode cX1_pressesInAll 3 = .ok (.istore_n 2, 1) := by decide +kernel
theorem dX1_pressesInAll_4 : decode cX1_pressesInAll 4 = .ok (.iload_n 2, 1) := by decide +kernel
theorem dX1_pressesInAll_5 : decode cX1_pressesInAll 5 = .ok (.aload_n 0, 1) := by decide +kernel
theorem dX1_pressesInAll_6 : decode cX1_pressesInAll 6 = .ok (.getfield 34, 3) := by decide +kernel
theorem dX1_pressesInAll_9 : decode cX1_pressesInAll 9 = .ok (.if_icmp .ge 18, 3) := by decide +kernel
theorem dX1_pressesInAll_12 : decode cX1_pressesInAll 12 = .ok (.iload_n 1, 1) := by decide +kernel
theorem dX1_pressesInAll_13 : decode cX1_pressesInAll 13 = .ok (.aload_n 0, 1) := by decide +kernel
theorem dX1_pressesInAll_14 : decode cX1_pressesInAll 14 = .ok (.getfield 27, 3) := by decide +kernel
theorem dX1_pressesInAll_17 : decode cX1_pressesInAll 17 = .ok (.iload_n 2, 1) := by decide +kernel
theorem dX1_pressesInAll_18 : decode cX1_pressesInAll 18 = .ok (.iaload, 1) := by decide +kernel
theorem dX1_pressesInAll_19 : decode cX1_pressesInAll 19 = .ok (.iadd, 1) := by decide +kernel
theorem dX1_pressesInAll_20 : decode cX1_pressesInAll 20 = .ok (.istore_n 1, 1) := by decide +kernel
theorem dX1_pressesInAll_21 : decode cX1_pressesInAll 21 = .ok (.iinc 2 1, 3) := by decide +kernel
theorem dX1_pressesInAll_24 : decode cX1_pressesInAll 24 = .ok (.goto (-20), 3) := by decide +kernel
theorem dX1_pressesInAll_27 : decode cX1_pressesInAll 27 = .ok (.iload_n 1, 1) := by decide +kernel
theorem dX1_pressesInAll_28 : decode cX1_pressesInAll 28 = .ok (.ireturn, 1) := by decide +kernel
theorem dX2_init_0 : decode cX2_init 0 = .ok (.aload_n 0, 1) := by decide +kernel
theorem dX2_init_1 : decode cX2_init 1 = .ok (.invokespecial 3, 3) := by decide +kernel
theorem dX2_init_4 : decode cX2_init 4 = .ok (.aload_n 0, 1) := by decide +kernel
theorem dX2_init_5 : decode cX2_init 5 = .ok (.iconst 5, 1) := by decide +kernel
theorem dX2_init_6 : decode cX2_init 6 = .ok (.newarray .int, 2) := by decide +kernel
theorem dX2_init_8 : decode cX2_init 8 = .ok (.putfield 9, 3) := by decide +kernel
theorem dX2_init_11 : decode cX2_init 11 = .ok (.aload_n 0, 1) := by decide +kernel
theorem dX2_init_12 : decode cX2_init 12 = .ok (.iconst 5, 1) := by decide +kernel
theorem dX2_init_13 : decode cX2_init 13 = .ok (.iconst 5, 1) := by decide +kernel
theorem dX2_init_14 : decode cX2_init 14 = .ok (.multianewarray 15 2, 4) := by decide +kernel
theorem dX2_init_18 : decode cX2_init 18 = .ok (.putfield 17, 3) := by decide +kernel
theorem dX2_init_21 : decode cX2_init 21 = .ok (.aload_n 0, 1) := by decide +kernel
theorem dX2_init_22 : decode cX2_init 22 = .ok (.iconst 5, 1) := by decide +kernel
theorem dX2_init_23 : decode cX2_init 23 = .ok (.newarray .int, 2) := by decide +kernel
theorem dX2_init_25 : decode cX2_init 25 = .ok (.putfield 20, 3) := by decide +kernel
theorem dX2_init_28 : decode cX2_init 28 = .ok (.aload_n 0, 1) := by decide +kernel
theorem dX2_init_29 : decode cX2_init 29 = .ok (.sipush 3125, 3) := by decide +kernel
theorem dX2_init_32 : decode cX2_init 32 = .ok (.newarray .int, 2) := by decide +kernel
theorem dX2_init_34 : decode cX2_init 34 = .ok (.putfield 23, 3) := by decide +kernel
theorem dX2_init_37 : decode cX2_init 37 = .ok (.aload_n 0, 1) := by decide +kernel
theorem dX2_init_38 : decode cX2_init 38 = .ok (.sipush 3125, 3) := by decide +kernel
theorem dX2_init_41 : decode cX2_init 41 = .ok (.newarray .int, 2) := by decide +kernel
theorem dX2_init_43 : decode cX2_init 43 = .ok (.putfield 26, 3) := by decide +kernel
theorem dX2_init_46 : decode cX2_init 46 = .ok (.aload_n 0, 1) := by decide +kernel
theorem dX2_init_47 : decode cX2_init 47 = .ok (.iconst (-1), 1) := by decide +kernel
theorem dX2_init_48 : decode cX2_init 48 = .ok (.putfield 29, 3) := by decide +kernel
theorem dX2_init_51 : decode cX2_init 51 = .ok (.return_, 1) := by decide +kernel
theorem dX2_forget_0 : decode cX2_forget 0 = .ok (.aload_n 0, 1) := by decide +kernel
theorem dX2_forget_1 : decode cX2_forget 1 = .ok (.iconst (-1), 1) := by decide +kernel
theorem dX2_forget_2 : decode cX2_forget 2 = .ok (.putfield 29, 3) := by decide +kernel
theorem dX2_forget_5 : decode cX2_forget 5 = .ok (.return_, 1) := by decide +kernel
theorem dX2_manyBy_0 : decode cX2_manyBy 0 = .ok (.aload_n 0, 1) := by decide +kernel
theorem dX2_manyBy_1 : decode cX2_manyBy 1 = .ok (.aload_n 1, 1) := by decide +kernel
theorem dX2_manyBy_2 : decode cX2_manyBy 2 = .ok (.iload_n 2, 1) := by decide +kernel
theorem dX2_manyBy_3 : decode cX2_manyBy 3 = .ok (.invokevirtual 33, 3) := by decide +kernel
theorem dX2_manyBy_6 : decode cX2_manyBy 6 = .ok (.aload_n 0, 1) := by decide +kernel
theorem dX2_manyBy_7 : decode cX2_manyBy 7 = .ok (.getfield 37, 3) := by decide +kernel
theorem dX2_manyBy_10 : decode cX2_manyBy 10 = .ok (.ireturn, 1) := by decide +kernel
theorem dX2_pressesFor_0 : decode cX2_pressesFor 0 = .ok (.aload_n 0, 1) := by decide +kernel
theorem dX2_pressesFor_1 : decode cX2_pressesFor 1 = .ok (.aload_n 1, 1) := by decide +kernel
theorem dX2_pressesFor_2 : decode cX2_pressesFor 2 = .ok (.aload_n 1, 1) := by decide +kernel
theorem dX2_pressesFor_3 : decode cX2_pressesFor 3 = .ok (.invokevirtual 40, 3) := by decide +kernel
theorem dX2_pressesFor_6 : decode cX2_pressesFor 6 = .ok (.invokevirtual 33, 3) := by decide +kernel
theorem dX2_pressesFor_9 : decode cX2_pressesFor 9 = .ok (.aload_n 0, 1) := by decide +kernel
theorem dX2_pressesFor_10 : decode cX2_pressesFor 10 = .ok (.aload_n 0, 1) := by decide +kernel
theorem dX2_pressesFor_11 : decode cX2_pressesFor 11 = .ok (.aload_n 1, 1) := by decide +kernel
theorem dX2_pressesFor_12 : decode cX2_pressesFor 12 = .ok (.aload_n 2, 1) := by decide +kernel
theorem dX2_pressesFor_13 : decode cX2_pressesFor 13 = .ok (.invokevirtual 46, 3) := by decide +kernel
theorem dX2_pressesFor_16 : decode cX2_pressesFor 16 = .ok (.invokevirtual 50, 3) := by decide +kernel
theorem dX2_pressesFor_19 : decode cX2_pressesFor 19 = .ok (.ireturn, 1) := by decide +kernel
theorem dX2_pressesForNothing_0 : decode cX2_pressesForNothing 0 = .ok (.aload_n 0, 1) := by decide +kernel
theorem dX2_pressesForNothing_1 : decode cX2_pressesForNothing 1 = .ok (.aload_n 1, 1) := by decide +kernel
theorem dX2_pressesForNothing_2 : decode cX2_pressesForNothing 2 = .ok (.aload_n 1, 1) := by decide +kernel
theorem dX2_pressesForNothing_3 : decode cX2_pressesForNothing 3 = .ok (.invokevirtual 40, 3) := by decide +kernel
theorem dX2_pressesForNothing_6 : decode cX2_pressesForNothing 6 = .ok (.invokevirtual 33, 3) := by decide +kernel
theorem dX2_pressesForNothing_9 : decode cX2_pressesForNothing 9 = .ok (.aload_n 0, 1) := by decide +kernel
theorem dX2_pressesForNothing_10 : decode cX2_pressesForNothing 10 = .ok (.aload_n 1, 1) := by decide +kernel
theorem dX2_pressesForNothing_11 : decode cX2_pressesForNothing 11 = .ok (.iconst 0, 1) := by decide +kernel
theorem dX2_pressesForNothing_12 : decode cX2_pressesForNothing 12 = .ok (.invokevirtual 54, 3) := by decide +kernel
theorem dX2_pressesForNothing_15 : decode cX2_pressesForNothing 15 = .ok (.bipush (-9), 2) := by decide +kernel
theorem dX2_pressesForNothing_17 : decode cX2_pressesForNothing 17 = .ok (.istore_n 2, 1) := by decide +kernel
theorem dX2_pressesForNothing_18 : decode cX2_pressesForNothing 18 = .ok (.iconst 0, 1) := by decide +kernel
theorem dX2_pressesForNothing_19 : decode cX2_pressesForNothing 19 = .ok (.istore_n 3, 1) := by decide +kernel
theorem dX2_pressesForNothing_20 : decode cX2_pressesForNothing 20 = .ok (.iload_n 3, 1) := by decide +kernel
theorem dX2_pressesForNothing_21 : decode cX2_pressesForNothing 21 = .ok (.aload_n 1, 1) := by decide +kernel
theorem dX2_pressesForNothing_22 : decode cX2_pressesForNothing 22 = .ok (.getfield 57, 3) := by decide +kernel
theorem dX2_pressesForNothing_25 : decode cX2_pressesForNothing 25 = .ok (.if_icmp .ge 48, 3) := by decide +kernel
theorem dX2_pressesForNothing_28 : decode cX2_pressesForNothing 28 = .ok (.aload_n 0, 1) := by decide +kernel
theorem dX2_pressesForNothing_29 : decode cX2_pressesForNothing 29 = .ok (.aload_n 0, 1) := by decide +kernel
theorem dX2_pressesForNothing_30 : decode cX2_pressesForNothing 30 = .ok (.aload_n 1, 1) := by decide +kernel
theorem dX2_pressesForNothing_31 : decode cX2_pressesForNothing 31 = .ok (.iload_n 3, 1) := by decide +kernel
theorem dX2_pressesForNothing_32 : decode cX2_pressesForNothing 32 = .ok (.iconst (-1), 1) := by decide +kernel
theorem dX2_pressesForNothing_33 : decode cX2_pressesForNothing 33 = .ok (.invokevirtual 60, 3) := by decide +kernel
theorem dX2_pressesForNothing_36 : decode cX2_pressesForNothing 36 = .ok (.invokevirtual 50, 3) := by decide +kernel
theorem dX2_pressesForNothing_39 : decode cX2_pressesForNothing 39 = .ok (.istore 4, 2) := by decide +kernel
theorem dX2_pressesForNothing_41 : decode cX2_pressesForNothing 41 = .ok (.iload 4, 2) := by decide +kernel
theorem dX2_pressesForNothing_43 : decode cX2_pressesForNothing 43 = .ok (.bipush (-9), 2) := by decide +kernel
theorem dX2_pressesForNothing_45 : decode cX2_pressesForNothing 45 = .ok (.if_icmp .eq 22, 3) := by decide +kernel
theorem dX2_pressesForNothing_48 : decode cX2_pressesForNothing 48 = .ok (.iload_n 2, 1) := by decide +kernel
theorem dX2_pressesForNothing_49 : decode cX2_pressesForNothing 49 = .ok (.bipush (-9), 2) := by decide +kernel
theorem dX2_pressesForNothing_51 : decode cX2_pressesForNothing 51 = .ok (.if_icmp .eq 11, 3) := by decide +kernel
theorem dX2_pressesForNothing_54 : decode cX2_pressesForNothing 54 = .ok (.iload 4, 2) := by decide +kernel
theorem dX2_pressesForNothing_56 : decode cX2_pressesForNothing 56 = .ok (.iconst 1, 1) := by decide +kernel
theorem dX2_pressesForNothing_57 : decode cX2_pressesForNothing 57 = .ok (.iadd, 1) := by decide +kernel
theorem dX2_pressesForNothing_58 : decode cX2_pressesForNothing 58 = .ok (.iload_n 2, 1) := by decide +kernel
theorem dX2_pressesForNothing_59 : decode cX2_pressesForNothing 59 = .ok (.if_icmp .ge 8, 3) := by decide +kernel
theorem dX2_pressesForNothing_62 : decode cX2_pressesForNothing 62 = .ok (.iload 4, 2) := by decide +kernel
theorem dX2_pressesForNothing_64 : decode cX2_pressesForNothing 64 = .ok (.iconst 1, 1) := by decide +kernel
theorem dX2_pressesForNothing_65 : decode cX2_pressesForNothing 65 = .ok (.iadd, 1) := by decide +kernel
theorem dX2_pressesForNothing_66 : decode cX2_pressesForNothing 66 = .ok (.istore_n 2, 1) := by decide +kernel
theorem dX2_pressesForNothing_67 : decode cX2_pressesForNothing 67 = .ok (.iinc 3 1, 3) := by decide +kernel
theorem dX2_pressesForNothing_70 : decode cX2_pressesForNothing 70 = .ok (.goto (-50), 3) := by decide +kernel
theorem dX2_pressesForNothing_73 : decode cX2_pressesForNothing 73 = .ok (.iload_n 2, 1) := by decide +kernel
theorem dX2_pressesForNothing_74 : decode cX2_pressesForNothing 74 = .ok (.ireturn, 1) := by decide +kernel
theorem dX2_placeInRow_0 : decode cX2_placeInRow 0 = .ok (.aload_n 0, 1) := by decide +kernel
theorem dX2_placeInRow_1 : decode cX2_placeInRow 1 = .ok (.aload_n 1, 1) := by decide +kernel
theorem dX2_placeInRow_2 : decode cX2_placeInRow 2 = .ok (.aload_n 1, 1) := by decide +kernel
theorem dX2_placeInRow_3 : decode cX2_placeInRow 3 = .ok (.invokevirtual 40, 3) := by decide +kernel
theorem dX2_placeInRow_6 : decode cX2_placeInRow 6 = .ok (.invokevirtual 33, 3) := by decide +kernel
theorem dX2_placeInRow_9 : decode cX2_placeInRow 9 = .ok (.aload_n 0, 1) := by decide +kernel
theorem dX2_placeInRow_10 : decode cX2_placeInRow 10 = .ok (.aload_n 1, 1) := by decide +kernel
theorem dX2_placeInRow_11 : decode cX2_placeInRow 11 = .ok (.aload_n 2, 1) := by decide +kernel
theorem dX2_placeInRow_12 : decode cX2_placeInRow 12 = .ok (.invokevirtual 46, 3) := by decide +kernel
theorem dX2_placeInRow_15 : decode cX2_placeInRow 15 = .ok (.istore 4, 2) := by decide +kernel
theorem dX2_placeInRow_17 : decode cX2_placeInRow 17 = .ok (.aload_n 0, 1) := by decide +kernel
theorem dX2_placeInRow_18 : decode cX2_placeInRow 18 = .ok (.iload 4, 2) := by decide +kernel
theorem dX2_placeInRow_20 : decode cX2_placeInRow 20 = .ok (.invokevirtual 50, 3) := by decide +kernel
theorem dX2_placeInRow_23 : decode cX2_placeInRow 23 = .ok (.istore 5, 2) := by decide +kernel
theorem dX2_placeInRow_25 : decode cX2_placeInRow 25 = .ok (.bipush (-9), 2) := by decide +kernel
theorem dX2_placeInRow_27 : decode cX2_placeInRow 27 = .ok (.istore 6, 2) := by decide +kernel
theorem dX2_placeInRow_29 : decode cX2_placeInRow 29 = .ok (.iconst 0, 1) := by decide +kernel
theorem dX2_placeInRow_30 : decode cX2_placeInRow 30 = .ok (.istore 7, 2) := by decide +kernel
theorem dX2_placeInRow_32 : decode cX2_placeInRow 32 = .ok (.iload 7, 2) := by decide +kernel
theorem dX2_placeInRow_34 : decode cX2_placeInRow 34 = .ok (.iload_n 3, 1) := by decide +kernel
theorem dX2_placeInRow_35 : decode cX2_placeInRow 35 = .ok (.if_icmp .gt 60, 3) := by decide +kernel
theorem dX2_placeInRow_38 : decode cX2_placeInRow 38 = .ok (.iload 7, 2) := by decide +kernel
theorem dX2_placeInRow_40 : decode cX2_placeInRow 40 = .ok (.iload 5, 2) := by decide +kernel
theorem dX2_placeInRow_42 : decode cX2_placeInRow 42 = .ok (.if_icmp .lt 6, 3) := by decide +kernel
theorem dX2_placeInRow_45 : decode cX2_placeInRow 45 = .ok (.bipush (-9), 2) := by decide +kernel
theorem dX2_placeInRow_47 : decode cX2_placeInRow 47 = .ok (.ireturn, 1) := by decide +kernel
theorem dX2_placeInRow_48 : decode cX2_placeInRow 48 = .ok (.aload_n 0, 1) := by decide +kernel
theorem dX2_placeInRow_49 : decode cX2_placeInRow 49 = .ok (.aload_n 1, 1) := by decide +kernel
theorem dX2_placeInRow_50 : decode cX2_placeInRow 50 = .ok (.iload 4, 2) := by decide +kernel
theorem dX2_placeInRow_52 : decode cX2_placeInRow 52 = .ok (.invokevirtual 54, 3) := by decide +kernel
theorem dX2_placeInRow_55 : decode cX2_placeInRow 55 = .ok (.aload_n 0, 1) := by decide +kernel
theorem dX2_placeInRow_56 : decode cX2_placeInRow 56 = .ok (.aload_n 1, 1) := by decide +kernel
theorem dX2_placeInRow_57 : decode cX2_placeInRow 57 = .ok (.iload 5, 2) := by decide +kernel
theorem dX2_placeInRow_59 : decode cX2_placeInRow 59 = .ok (.iload 7, 2) := by decide +kernel
theorem dX2_placeInRow_61 : decode cX2_placeInRow 61 = .ok (.isub, 1) := by decide +kernel
theorem dX2_placeInRow_62 : decode cX2_placeInRow 62 = .ok (.iconst 1, 1) := by decide +kernel
theorem dX2_placeInRow_63 : decode cX2_placeInRow 63 = .ok (.isub, 1) := by decide +kernel
theorem dX2_placeInRow_64 : decode cX2_placeInRow 64 = .ok (.invokevirtual 64, 3) := by decide +kernel
theorem dX2_placeInRow_67 : decode cX2_placeInRow 67 = .ok (.istore 6, 2) := by decide +kernel
theorem dX2_placeInRow_69 : decode cX2_placeInRow 69 = .ok (.iload 6, 2) := by decide +kernel
theorem dX2_placeInRow_71 : decode cX2_placeInRow 71 = .ok (.bipush (-9), 2) := by decide +kernel
theorem dX2_placeInRow_73 : decode cX2_placeInRow 73 = .ok (.if_icmp .ne 6, 3) := by decide +kernel
theorem dX2_placeInRow_76 : decode cX2_placeInRow 76 = .ok (.bipush (-9), 2) := by decide +kernel
theorem dX2_placeInRow_78 : decode cX2_placeInRow 78 = .ok (.ireturn, 1) := by decide +kernel
theorem dX2_placeInRow_79 : decode cX2_placeInRow 79 = .ok (.aload_n 0, 1) := by decide +kernel
theorem dX2_placeInRow_80 : decode cX2_placeInRow 80 = .ok (.aload_n 1, 1) := by decide +kernel
theorem dX2_placeInRow_81 : decode cX2_placeInRow 81 = .ok (.iload 6, 2) := by decide +kernel
theorem dX2_placeInRow_83 : decode cX2_placeInRow 83 = .ok (.iconst (-1), 1) := by decide +kernel
theorem dX2_placeInRow_84 : decode cX2_placeInRow 84 = .ok (.invokevirtual 60, 3) := by decide +kernel
theorem dX2_placeInRow_87 : decode cX2_placeInRow 87 = .ok (.istore 4, 2) := by decide +kernel
theorem dX2_placeInRow_89 : decode cX2_placeInRow 89 = .ok (.iinc 7 1, 3) := by decide +kernel
theorem dX2_placeInRow_92 : decode cX2_placeInRow 92 = .ok (.goto (-60), 3) := by decide +kernel
theorem dX2_placeInRow_95 : decode cX2_placeInRow 95 = .ok (.iload 6, 2) := by decide +kernel
theorem dX2_placeInRow_97 : decode cX2_placeInRow 97 = .ok (.ireturn, 1) := by decide +kernel
theorem dX2_firstThatLeaves_0 : decode cX2_firstThatLeaves 0 = .ok (.iconst 0, 1) := by decide +kernel
theorem dX2_firstThatLeaves_1 : decode cX2_firstThatLeaves 1 = .ok (.istore_n 3, 1) := by decide +kernel
theorem dX2_firstThatLeaves_2 : decode cX2_firstThatLeaves 2 = .ok (.iload_n 3, 1) := by decide +kernel
theorem dX2_firstThatLeaves_3 : decode cX2_firstThatLeaves 3 = .ok (.aload_n 1, 1) := by decide +kernel
theorem dX2_firstThatLeaves_4 : decode cX2_firstThatLeaves 4 = .ok (.getfield 57, 3) := by decide +kernel
theorem dX2_firstThatLeaves_7 : decode cX2_firstThatLeaves 7 = .ok (.if_icmp .ge 26, 3) := by decide +kernel
theorem dX2_firstThatLeaves_10 : decode cX2_firstThatLeaves 10 = .ok (.aload_n 0, 1) := by decide +kernel
theorem dX2_firstThatLeaves_11 : decode cX2_firstThatLeaves 11 = .ok (.aload_n 0, 1) := by decide +kernel
theorem dX2_firstThatLeaves_12 : decode cX2_firstThatLeaves 12 = .ok (.aload_n 1, 1) := by decide +kernel
theorem dX2_firstThatLeaves_13 : decode cX2_firstThatLeaves 13 = .ok (.iload_n 3, 1) := by decide +kernel
theorem dX2_firstThatLeaves_14 : decode cX2_firstThatLeaves 14 = .ok (.iconst (-1), 1) := by decide +kernel
theorem dX2_firstThatLeaves_15 : decode cX2_firstThatLeaves 15 = .ok (.invokevirtual 60, 3) := by decide +kernel
theorem dX2_firstThatLeaves_18 : decode cX2_firstThatLeaves 18 = .ok (.invokevirtual 50, 3) := by decide +kernel
theorem dX2_firstThatLeaves_21 : decode cX2_firstThatLeaves 21 = .ok (.iload_n 2, 1) := by decide +kernel
theorem dX2_firstThatLeaves_22 : decode cX2_firstThatLeaves 22 = .ok (.if_icmp .ne 5, 3) := by decide +kernel
theorem dX2_firstThatLeaves_25 : decode cX2_firstThatLeaves 25 = .ok (.iload_n 3, 1) := by decide +kernel
theorem dX2_firstThatLeaves_26 : decode cX2_firstThatLeaves 26 = .ok (.ireturn, 1) := by decide +kernel
theorem dX2_firstThatLeaves_27 : decode cX2_firstThatLeaves 27 = .ok (.iinc 3 1, 3) := by decide +kernel
theorem dX2_firstThatLeaves_30 : decode cX2_firstThatLeaves 30 = .ok (.goto (-28), 3) := by decide +kernel
theorem dX2_firstThatLeaves_33 : decode cX2_firstThatLeaves 33 = .ok (.bipush (-9), 2) := by decide +kernel
theorem dX2_firstThatLeaves_35 : decode cX2_firstThatLeaves 35 = .ok (.ireturn, 1) := by decide +kernel
theorem dX2_fewestTo_0 : decode cX2_fewestTo 0 = .ok (.iload_n 1, 1) := by decide +kernel
theorem dX2_fewestTo_1 : decode cX2_fewestTo 1 = .ok (.ifCond .lt 19, 3) := by decide +kernel
theorem dX2_fewestTo_4 : decode cX2_fewestTo 4 = .ok (.iload_n 1, 1) := by decide +kernel
theorem dX2_fewestTo_5 : decode cX2_fewestTo 5 = .ok (.sipush 3125, 3) := by decide +kernel
theorem dX2_fewestTo_8 : decode cX2_fewestTo 8 = .ok (.if_icmp .ge 12, 3) := by decide +kernel
theorem dX2_fewestTo_11 : decode cX2_fewestTo 11 = .ok (.aload_n 0, 1) := by decide +kernel
theorem dX2_fewestTo_12 : decode cX2_fewestTo 12 = .ok (.getfield 23, 3) := by decide +kernel
theorem dX2_fewestTo_15 : decode cX2_fewestTo 15 = .ok (.iload_n 1, 1) := by decide +kernel
theorem dX2_fewestTo_16 : decode cX2_fewestTo 16 = .ok (.iaload, 1) := by decide +kernel
theorem dX2_fewestTo_17 : decode cX2_fewestTo 17 = .ok (.goto 5, 3) := by decide +kernel
theorem dX2_fewestTo_20 : decode cX2_fewestTo 20 = .ok (.bipush (-9), 2) := by decide +kernel
theorem dX2_fewestTo_22 : decode cX2_fewestTo 22 = .ok (.ireturn, 1) := by decide +kernel
theorem dX2_spread_0 : decode cX2_spread 0 = .ok (.iload_n 2, 1) := by decide +kernel
theorem dX2_spread_1 : decode cX2_spread 1 = .ok (.aload_n 0, 1) := by decide +kernel
theorem dX2_spread_2 : decode cX2_spread 2 = .ok (.getfield 29, 3) := by decide +kernel
theorem dX2_spread_5 : decode cX2_spread 5 = .ok (.if_icmp .ne 4, 3) := by decide +kernel
theorem dX2_spread_8 : decode cX2_spread 8 = .ok (.return_, 1) := by decide +kernel
theorem dX2_spread_9 : decode cX2_spread 9 = .ok (.aload_n 0, 1) := by decide +kernel
theorem dX2_spread_10 : decode cX2_spread 10 = .ok (.aload_n 1, 1) := by decide +kernel
theorem dX2_spread_11 : decode cX2_spread 11 = .ok (.invokevirtual 68, 3) := by decide +kernel
theorem dX2_spread_14 : decode cX2_spread 14 = .ok (.istore_n 3, 1) := by decide +kernel
theorem dX2_spread_15 : decode cX2_spread 15 = .ok (.iconst 0, 1) := by decide +kernel
theorem dX2_spread_16 : decode cX2_spread 16 = .ok (.istore 4, 2) := by decide +kernel
theorem dX2_spread_18 : decode cX2_spread 18 = .ok (.iload 4, 2) := by decide +kernel
theorem dX2_spread_20 : decode cX2_spread 20 = .ok (.iload_n 3, 1) := by decide +kernel
theorem dX2_spread_21 : decode cX2_spread 21 = .ok (.if_icmp .ge 26, 3) := by decide +kernel
theorem dX2_spread_24 : decode cX2_spread 24 = .ok (.iload 4, 2) := by decide +kernel
theorem dX2_spread_26 : decode cX2_spread 26 = .ok (.sipush 3125, 3) := by decide +kernel
theorem dX2_spread_29 : decode cX2_spread 29 = .ok (.if_icmp .ge 18, 3) := by decide +kernel
theorem dX2_spread_32 : decode cX2_spread 32 = .ok (.aload_n 0, 1) := by decide +kernel
theorem dX2_spread_33 : decode cX2_spread 33 = .ok (.getfield 23, 3) := by decide +kernel
theorem dX2_spread_36 : decode cX2_spread 36 = .ok (.iload 4, 2) := by decide +kernel
theorem dX2_spread_38 : decode cX2_spread 38 = .ok (.bipush (-9), 2) := by decide +kernel
theorem dX2_spread_40 : decode cX2_spread 40 = .ok (.iastore, 1) := by decide +kernel
theorem dX2_spread_41 : decode cX2_spread 41 = .ok (.iinc 4 1, 3) := by decide +kernel
theorem dX2_spread_44 : decode cX2_spread 44 = .ok (.goto (-26), 3) := by decide +kernel
theorem dX2_spread_47 : decode cX2_spread 47 = .ok (.aload_n 0, 1) := by decide +kernel
theorem dX2_spread_48 : decode cX2_spread 48 = .ok (.iconst 0, 1) := by decide +kernel
theorem dX2_spread_49 : decode cX2_spread 49 = .ok (.putfield 37, 3) := by decide +kernel
theorem dX2_spread_52 : decode cX2_spread 52 = .ok (.aload_n 0, 1) := by decide +kernel
theorem dX2_spread_53 : decode cX2_spread 53 = .ok (.iconst 0, 1) := by decide +kernel
theorem dX2_spread_54 : decode cX2_spread 54 = .ok (.iconst 0, 1) := by decide +kernel
theorem dX2_spread_55 : decode cX2_spread 55 = .ok (.invokevirtual 72, 3) := by decide +kernel
theorem dX2_spread_58 : decode cX2_spread 58 = .ok (.iconst 0, 1) := by decide +kernel
theorem dX2_spread_59 : decode cX2_spread 59 = .ok (.istore 4, 2) := by decide +kernel
theorem dX2_spread_61 : decode cX2_spread 61 = .ok (.iload 4, 2) := by decide +kernel
theorem dX2_spread_63 : decode cX2_spread 63 = .ok (.aload_n 0, 1) := by decide +kernel
theorem dX2_spread_64 : decode cX2_spread 64 = .ok (.getfield 37, 3) := by decide +kernel
theorem dX2_spread_67 : decode cX2_spread 67 = .ok (.if_icmp .ge 81, 3) := by decide +kernel
theorem dX2_spread_70 : decode cX2_spread 70 = .ok (.iload 4, 2) := by decide +kernel
theorem dX2_spread_72 : decode cX2_spread 72 = .ok (.sipush 3125, 3) := by decide +kernel
theorem dX2_spread_75 : decode cX2_spread 75 = .ok (.if_icmp .ge 73, 3) := by decide +kernel
theorem dX2_spread_78 : decode cX2_spread 78 = .ok (.aload_n 0, 1) := by decide +kernel
theorem dX2_spread_79 : decode cX2_spread 79 = .ok (.getfield 26, 3) := by decide +kernel
theorem dX2_spread_82 : decode cX2_spread 82 = .ok (.iload 4, 2) := by decide +kernel
theorem dX2_spread_84 : decode cX2_spread 84 = .ok (.iaload, 1) := by decide +kernel
theorem dX2_spread_85 : decode cX2_spread 85 = .ok (.istore 5, 2) := by decide +kernel
theorem dX2_spread_87 : decode cX2_spread 87 = .ok (.aload_n 0, 1) := by decide +kernel
theorem dX2_spread_88 : decode cX2_spread 88 = .ok (.aload_n 1, 1) := by decide +kernel
theorem dX2_spread_89 : decode cX2_spread 89 = .ok (.iload 5, 2) := by decide +kernel
theorem dX2_spread_91 : decode cX2_spread 91 = .ok (.invokevirtual 54, 3) := by decide +kernel
theorem dX2_spread_94 : decode cX2_spread 94 = .ok (.iconst 0, 1) := by decide +kernel
theorem dX2_spread_95 : decode cX2_spread 95 = .ok (.istore 6, 2) := by decide +kernel
theorem dX2_spread_97 : decode cX2_spread 97 = .ok (.iload 6, 2) := by decide +kernel
theorem dX2_spread_99 : decode cX2_spread 99 = .ok (.aload_n 1, 1) := by decide +kernel
theorem dX2_spread_100 : decode cX2_spread 100 = .ok (.getfield 57, 3) := by decide +kernel
theorem dX2_spread_103 : decode cX2_spread 103 = .ok (.if_icmp .ge 39, 3) := by decide +kernel
theorem dX2_spread_106 : decode cX2_spread 106 = .ok (.iload_n 2, 1) := by decide +kernel
theorem dX2_spread_107 : decode cX2_spread 107 = .ok (.iload 6, 2) := by decide +kernel
theorem dX2_spread_109 : decode cX2_spread 109 = .ok (.ishr, 1) := by decide +kernel
theorem dX2_spread_110 : decode cX2_spread 110 = .ok (.iconst 1, 1) := by decide +kernel
theorem dX2_spread_111 : decode cX2_spread 111 = .ok (.iand, 1) := by decide +kernel
theorem dX2_spread_112 : decode cX2_spread 112 = .ok (.iconst 1, 1) := by decide +kernel
theorem dX2_spread_113 : decode cX2_spread 113 = .ok (.if_icmp .ne 23, 3) := by decide +kernel
theorem dX2_spread_116 : decode cX2_spread 116 = .ok (.aload_n 0, 1) := by decide +kernel
theorem dX2_spread_117 : decode cX2_spread 117 = .ok (.aload_n 0, 1) := by decide +kernel
theorem dX2_spread_118 : decode cX2_spread 118 = .ok (.aload_n 1, 1) := by decide +kernel
theorem dX2_spread_119 : decode cX2_spread 119 = .ok (.iload 6, 2) := by decide +kernel
theorem dX2_spread_121 : decode cX2_spread 121 = .ok (.iconst 1, 1) := by decide +kernel
theorem dX2_spread_122 : decode cX2_spread 122 = .ok (.invokevirtual 60, 3) := by decide +kernel
theorem dX2_spread_125 : decode cX2_spread 125 = .ok (.aload_n 0, 1) := by decide +kernel
theorem dX2_spread_126 : decode cX2_spread 126 = .ok (.iload 5, 2) := by decide +kernel
theorem dX2_spread_128 : decode cX2_spread 128 = .ok (.invokevirtual 50, 3) := by decide +kernel
theorem dX2_spread_131 : decode cX2_spread 131 = .ok (.iconst 1, 1) := by decide +kernel
theorem dX2_spread_132 : decode cX2_spread 132 = .ok (.iadd, 1) := by decide +kernel
theorem dX2_spread_133 : decode cX2_spread 133 = .ok (.invokevirtual 72, 3) := by decide +kernel
theorem dX2_spread_136 : decode cX2_spread 136 = .ok (.iinc 6 1, 3) := by decide +kernel
theorem dX2_spread_139 : decode cX2_spread 139 = .ok (.goto (-42), 3) := by decide +kernel
theorem dX2_spread_142 : decode cX2_spread 142 = .ok (.iinc 4 1, 3) := by decide +kernel
theorem dX2_spread_145 : decode cX2_spread 145 = .ok (.goto (-84), 3) := by decide +kernel
theorem dX2_spread_148 : decode cX2_spread 148 = .ok (.aload_n 0, 1) := by decide +kernel
theorem dX2_spread_149 : decode cX2_spread 149 = .ok (.iload_n 2, 1) := by decide +kernel
theorem dX2_spread_150 : decode cX2_spread 150 = .ok (.putfield 29, 3) := by decide +kernel
theorem dX2_spread_153 : decode cX2_spread 153 = .ok (.return_, 1) := by decide +kernel
theorem dX2_meet_0 : decode cX2_meet 0 = .ok (.iload_n 1, 1) := by decide +kernel
theorem dX2_meet_1 : decode cX2_meet 1 = .ok (.ifCond .lt 58, 3) := by decide +kernel
theorem dX2_meet_4 : decode cX2_meet 4 = .ok (.iload_n 1, 1) := by decide +kernel
theorem dX2_meet_5 : decode cX2_meet 5 = .ok (.sipush 3125, 3) := by decide +kernel
theorem dX2_meet_8 : decode cX2_meet 8 = .ok (.if_icmp .ge 51, 3) := by decide +kernel
theorem dX2_meet_11 : decode cX2_meet 11 = .ok (.aload_n 0, 1) := by decide +kernel
theorem dX2_meet_12 : decode cX2_meet 12 = .ok (.getfield 37, 3) := by decide +kernel
theorem dX2_meet_15 : decode cX2_meet 15 = .ok (.sipush 3125, 3) := by decide +kernel
theorem dX2_meet_18 : decode cX2_meet 18 = .ok (.if_icmp .ge 41, 3) := by decide +kernel
theorem dX2_meet_21 : decode cX2_meet 21 = .ok (.aload_n 0, 1) := by decide +kernel
theorem dX2_meet_22 : decode cX2_meet 22 = .ok (.getfield 23, 3) := by decide +kernel
theorem dX2_meet_25 : decode cX2_meet 25 = .ok (.iload_n 1, 1) := by decide +kernel
theorem dX2_meet_26 : decode cX2_meet 26 = .ok (.iaload, 1) := by decide +kernel
theorem dX2_meet_27 : decode cX2_meet 27 = .ok (.bipush (-9), 2) := by decide +kernel
theorem dX2_meet_29 : decode cX2_meet 29 = .ok (.if_icmp .ne 30, 3) := by decide +kernel
theorem dX2_meet_32 : decode cX2_meet 32 = .ok (.aload_n 0, 1) := by decide +kernel
theorem dX2_meet_33 : decode cX2_meet 33 = .ok (.getfield 23, 3) := by decide +kernel
theorem dX2_meet_36 : decode cX2_meet 36 = .ok (.iload_n 1, 1) := by decide +kernel
theorem dX2_meet_37 : decode cX2_meet 37 = .ok (.iload_n 2, 1) := by decide +kernel
theorem dX2_meet_38 : decode cX2_meet 38 = .ok (.iastore, 1) := by decide +kernel
theorem dX2_meet_39 : decode cX2_meet 39 = .ok (.aload_n 0, 1) := by decide +kernel
theorem dX2_meet_40 : decode cX2_meet 40 = .ok (.getfield 26, 3) := by decide +kernel
theorem dX2_meet_43 : decode cX2_meet 43 = .ok (.aload_n 0, 1) := by decide +kernel
theorem dX2_meet_44 : decode cX2_meet 44 = .ok (.getfield 37, 3) := by decide +kernel
theorem dX2_meet_47 : decode cX2_meet 47 = .ok (.iload_n 1, 1) := by decide +kernel
theorem dX2_meet_48 : decode cX2_meet 48 = .ok (.iastore, 1) := by decide +kernel
theorem dX2_meet_49 : decode cX2_meet 49 = .ok (.aload_n 0, 1) := by decide +kernel
theorem dX2_meet_50 : decode cX2_meet 50 = .ok (.dup, 1) := by decide +kernel
theorem dX2_meet_51 : decode cX2_meet 51 = .ok (.getfield 37, 3) := by decide +kernel
theorem dX2_meet_54 : decode cX2_meet 54 = .ok (.iconst 1, 1) := by decide +kernel
theorem dX2_meet_55 : decode cX2_meet 55 = .ok (.iadd, 1) := by decide +kernel
theorem dX2_meet_56 : decode cX2_meet 56 = .ok (.putfield 37, 3) := by decide +kernel
theorem dX2_meet_59 : decode cX2_meet 59 = .ok (.return_, 1) := by decide +kernel
theorem dX2_measure_0 : decode cX2_measure 0 = .ok (.iconst 1, 1) := by decide +kernel
theorem dX2_measure_1 : decode cX2_measure 1 = .ok (.istore_n 2, 1) := by decide +kernel
theorem dX2_measure_2 : decode cX2_measure 2 = .ok (.iconst 0, 1) := by decide +kernel
theorem dX2_measure_3 : decode cX2_measure 3 = .ok (.istore_n 3, 1) := by decide +kernel
theorem dX2_measure_4 : decode cX2_measure 4 = .ok (.iload_n 3, 1) := by decide +kernel
theorem dX2_measure_5 : decode cX2_measure 5 = .ok (.aload_n 1, 1) := by decide +kernel
theorem dX2_measure_6 : decode cX2_measure 6 = .ok (.getfield 76, 3) := by decide +kernel
theorem dX2_measure_9 : decode cX2_measure 9 = .ok (.if_icmp .ge 59, 3) := by decide +kernel
theorem dX2_measure_12 : decode cX2_measure 12 = .ok (.aload_n 0, 1) := by decide +kernel
theorem dX2_measure_13 : decode cX2_measure 13 = .ok (.getfield 9, 3) := by decide +kernel
theorem dX2_measure_16 : decode cX2_measure 16 = .ok (.iload_n 3, 1) := by decide +kernel
theorem dX2_measure_17 : decode cX2_measure 17 = .ok (.iload_n 2, 1) := by decide +kernel
theorem dX2_measure_18 : decode cX2_measure 18 = .ok (.iastore, 1) := by decide +kernel
theorem dX2_measure_19 : decode cX2_measure 19 = .ok (.iload_n 2, 1) := by decide +kernel
theorem dX2_measure_20 : decode cX2_measure 20 = .ok (.aload_n 1, 1) := by decide +kernel
theorem dX2_measure_21 : decode cX2_measure 21 = .ok (.getfield 79, 3) := by decide +kernel
theorem dX2_measure_24 : decode cX2_measure 24 = .ok (.iload_n 3, 1) := by decide +kernel
theorem dX2_measure_25 : decode cX2_measure 25 = .ok (.iaload, 1) := by decide +kernel
theorem dX2_measure_26 : decode cX2_measure 26 = .ok (.imul, 1) := by decide +kernel
theorem dX2_measure_27 : decode cX2_measure 27 = .ok (.istore_n 2, 1) := by decide +kernel
theorem dX2_measure_28 : decode cX2_measure 28 = .ok (.iconst 0, 1) := by decide +kernel
theorem dX2_measure_29 : decode cX2_measure 29 = .ok (.istore 4, 2) := by decide +kernel
theorem dX2_measure_31 : decode cX2_measure 31 = .ok (.iload 4, 2) := by decide +kernel
theorem dX2_measure_33 : decode cX2_measure 33 = .ok (.aload_n 1, 1) := by decide +kernel
theorem dX2_measure_34 : decode cX2_measure 34 = .ok (.getfield 57, 3) := by decide +kernel
theorem dX2_measure_37 : decode cX2_measure 37 = .ok (.if_icmp .ge 25, 3) := by decide +kernel
theorem dX2_measure_40 : decode cX2_measure 40 = .ok (.aload_n 0, 1) := by decide +kernel
theorem dX2_measure_41 : decode cX2_measure 41 = .ok (.getfield 17, 3) := by decide +kernel
theorem dX2_measure_44 : decode cX2_measure 44 = .ok (.iload 4, 2) := by decide +kernel
theorem dX2_measure_46 : decode cX2_measure 46 = .ok (.aaload, 1) := by decide +kernel
theorem dX2_measure_47 : decode cX2_measure 47 = .ok (.iload_n 3, 1) := by decide +kernel
theorem dX2_measure_48 : decode cX2_measure 48 = .ok (.aload_n 1, 1) := by decide +kernel
theorem dX2_measure_49 : decode cX2_measure 49 = .ok (.iload 4, 2) := by decide +kernel
theorem dX2_measure_51 : decode cX2_measure 51 = .ok (.iload_n 3, 1) := by decide +kernel
theorem dX2_measure_52 : decode cX2_measure 52 = .ok (.invokevirtual 82, 3) := by decide +kernel
theorem dX2_measure_55 : decode cX2_measure 55 = .ok (.iastore, 1) := by decide +kernel
theorem dX2_measure_56 : decode cX2_measure 56 = .ok (.iinc 4 1, 3) := by decide +kernel
theorem dX2_measure_59 : decode cX2_measure 59 = .ok (.goto (-28), 3) := by decide +kernel
theorem dX2_measure_62 : decode cX2_measure 62 = .ok (.iinc 3 1, 3) := by decide +kernel
theorem dX2_measure_65 : decode cX2_measure 65 = .ok (.goto (-61), 3) := by decide +kernel
theorem dX2_measure_68 : decode cX2_measure 68 = .ok (.iload_n 2, 1) := by decide +kernel
theorem dX2_measure_69 : decode cX2_measure 69 = .ok (.ireturn, 1) := by decide +kernel
theorem dX2_splitUp_0 : decode cX2_splitUp 0 = .ok (.iload_n 2, 1) := by decide +kernel
theorem dX2_splitUp_1 : decode cX2_splitUp 1 = .ok (.istore_n 3, 1) := by decide +kernel
theorem dX2_splitUp_2 : decode cX2_splitUp 2 = .ok (.iconst 0, 1) := by decide +kernel
theorem dX2_splitUp_3 : decode cX2_splitUp 3 = .ok (.istore 4, 2) := by decide +kernel
theorem dX2_splitUp_5 : decode cX2_splitUp 5 = .ok (.iload 4, 2) := by decide +kernel
theorem dX2_splitUp_7 : decode cX2_splitUp 7 = .ok (.aload_n 1, 1) := by decide +kernel
theorem dX2_splitUp_8 : decode cX2_splitUp 8 = .ok (.getfield 76, 3) := by decide +kernel
theorem dX2_splitUp_11 : decode cX2_splitUp 11 = .ok (.if_icmp .ge 38, 3) := by decide +kernel
theorem dX2_splitUp_14 : decode cX2_splitUp 14 = .ok (.iconst 1, 1) := by decide +kernel
theorem dX2_splitUp_15 : decode cX2_splitUp 15 = .ok (.aload_n 1, 1) := by decide +kernel
theorem dX2_splitUp_16 : decode cX2_splitUp 16 = .ok (.getfield 79, 3) := by decide +kernel
theorem dX2_splitUp_19 : decode cX2_splitUp 19 = .ok (.iload 4, 2) := by decide +kernel
theorem dX2_splitUp_21 : decode cX2_splitUp 21 = .ok (.iaload, 1) := by decide +kernel
theorem dX2_splitUp_22 : decode cX2_splitUp 22 = .ok (.invokestatic 86, 3) := by decide +kernel
theorem dX2_splitUp_25 : decode cX2_splitUp 25 = .ok (.istore 5, 2) := by decide +kernel
theorem dX2_splitUp_27 : decode cX2_splitUp 27 = .ok (.aload_n 0, 1) := by decide +kernel
theorem dX2_splitUp_28 : decode cX2_splitUp 28 = .ok (.getfield 20, 3) := by decide +kernel
theorem dX2_splitUp_31 : decode cX2_splitUp 31 = .ok (.iload 4, 2) := by decide +kernel
theorem dX2_splitUp_33 : decode cX2_splitUp 33 = .ok (.iload_n 3, 1) := by decide +kernel
theorem dX2_splitUp_34 : decode cX2_splitUp 34 = .ok (.iload 5, 2) := by decide +kernel
theorem dX2_splitUp_36 : decode cX2_splitUp 36 = .ok (.irem, 1) := by decide +kernel
theorem dX2_splitUp_37 : decode cX2_splitUp 37 = .ok (.iastore, 1) := by decide +kernel
theorem dX2_splitUp_38 : decode cX2_splitUp 38 = .ok (.iload_n 3, 1) := by decide +kernel
theorem dX2_splitUp_39 : decode cX2_splitUp 39 = .ok (.iload 5, 2) := by decide +kernel
theorem dX2_splitUp_41 : decode cX2_splitUp 41 = .ok (.idiv, 1) := by decide +kernel
theorem dX2_splitUp_42 : decode cX2_splitUp 42 = .ok (.istore_n 3, 1) := by decide +kernel
theorem dX2_splitUp_43 : decode cX2_splitUp 43 = .ok (.iinc 4 1, 3) := by decide +kernel
theorem dX2_splitUp_46 : decode cX2_splitUp 46 = .ok (.goto (-41), 3) := by decide +kernel
theorem dX2_splitUp_49 : decode cX2_splitUp 49 = .ok (.return_, 1) := by decide +kernel
theorem dX2_numberOf_0 : decode cX2_numberOf 0 = .ok (.iconst 0, 1) := by decide +kernel
theorem dX2_numberOf_1 : decode cX2_numberOf 1 = .ok (.istore_n 3, 1) := by decide +kernel
theorem dX2_numberOf_2 : decode cX2_numberOf 2 = .ok (.iconst 1, 1) := by decide +kernel
theorem dX2_numberOf_3 : decode cX2_numberOf 3 = .ok (.istore 4, 2) := by decide +kernel
theorem dX2_numberOf_5 : decode cX2_numberOf 5 = .ok (.iconst 0, 1) := by decide +kernel
theorem dX2_numberOf_6 : decode cX2_numberOf 6 = .ok (.istore 5, 2) := by decide +kernel
theorem dX2_numberOf_8 : decode cX2_numberOf 8 = .ok (.iload 5, 2) := by decide +kernel
theorem dX2_numberOf_10 : decode cX2_numberOf 10 = .ok (.aload_n 1, 1) := by decide +kernel
theorem dX2_numberOf_11 : decode cX2_numberOf 11 = .ok (.getfield 76, 3) := by decide +kernel
theorem dX2_numberOf_14 : decode cX2_numberOf 14 = .ok (.if_icmp .ge 31, 3) := by decide +kernel
theorem dX2_numberOf_17 : decode cX2_numberOf 17 = .ok (.iload_n 3, 1) := by decide +kernel
theorem dX2_numberOf_18 : decode cX2_numberOf 18 = .ok (.aload_n 2, 1) := by decide +kernel
theorem dX2_numberOf_19 : decode cX2_numberOf 19 = .ok (.iload 5, 2) := by decide +kernel
theorem dX2_numberOf_21 : decode cX2_numberOf 21 = .ok (.iaload, 1) := by decide +kernel
theorem dX2_numberOf_22 : decode cX2_numberOf 22 = .ok (.iload 4, 2) := by decide +kernel
theorem dX2_numberOf_24 : decode cX2_numberOf 24 = .ok (.imul, 1) := by decide +kernel
theorem dX2_numberOf_25 : decode cX2_numberOf 25 = .ok (.iadd, 1) := by decide +kernel
theorem dX2_numberOf_26 : decode cX2_numberOf 26 = .ok (.istore_n 3, 1) := by decide +kernel
theorem dX2_numberOf_27 : decode cX2_numberOf 27 = .ok (.iload 4, 2) := by decide +kernel
theorem dX2_numberOf_29 : decode cX2_numberOf 29 = .ok (.aload_n 1, 1) := by decide +kernel
theorem dX2_numberOf_30 : decode cX2_numberOf 30 = .ok (.getfield 79, 3) := by decide +kernel
theorem dX2_numberOf_33 : decode cX2_numberOf 33 = .ok (.iload 5, 2) := by decide +kernel
theorem dX2_numberOf_35 : decode cX2_numberOf 35 = .ok (.iaload, 1) := by decide +kernel
theorem dX2_numberOf_36 : decode cX2_numberOf 36 = .ok (.imul, 1) := by decide +kernel
theorem dX2_numberOf_37 : decode cX2_numberOf 37 = .ok (.istore 4, 2) := by decide +kernel
theorem dX2_numberOf_39 : decode cX2_numberOf 39 = .ok (.iinc 5 1, 3) := by decide +kernel
theorem dX2_numberOf_42 : decode cX2_numberOf 42 = .ok (.goto (-34), 3) := by decide +kernel
theorem dX2_numberOf_45 : decode cX2_numberOf 45 = .ok (.iload_n 3, 1) := by decide +kernel
theorem dX2_numberOf_46 : decode cX2_numberOf 46 = .ok (.ireturn, 1) := by decide +kernel
theorem dX2_numberBy_0 : decode cX2_numberBy 0 = .ok (.iconst 0, 1) := by decide +kernel
theorem dX2_numberBy_1 : decode cX2_numberBy 1 = .ok (.istore 4, 2) := by decide +kernel
theorem dX2_numberBy_3 : decode cX2_numberBy 3 = .ok (.iconst 0, 1) := by decide +kernel
theorem dX2_numberBy_4 : decode cX2_numberBy 4 = .ok (.istore 5, 2) := by decide +kernel
theorem dX2_numberBy_6 : decode cX2_numberBy 6 = .ok (.iload 5, 2) := by decide +kernel
theorem dX2_numberBy_8 : decode cX2_numberBy 8 = .ok (.aload_n 1, 1) := by decide +kernel
theorem dX2_numberBy_9 : decode cX2_numberBy 9 = .ok (.getfield 76, 3) := by decide +kernel
theorem dX2_numberBy_12 : decode cX2_numberBy 12 = .ok (.if_icmp .ge 89, 3) := by decide +kernel
theorem dX2_numberBy_15 : decode cX2_numberBy 15 = .ok (.aload_n 0, 1) := by decide +kernel
theorem dX2_numberBy_16 : decode cX2_numberBy 16 = .ok (.getfield 20, 3) := by decide +kernel
theorem dX2_numberBy_19 : decode cX2_numberBy 19 = .ok (.iload 5, 2) := by decide +kernel
theorem dX2_numberBy_21 : decode cX2_numberBy 21 = .ok (.iaload, 1) := by decide +kernel
theorem dX2_numberBy_22 : decode cX2_numberBy 22 = .ok (.iload_n 3, 1) := by decide +kernel
theorem dX2_numberBy_23 : decode cX2_numberBy 23 = .ok (.aload_n 0, 1) := by decide +kernel
theorem dX2_numberBy_24 : decode cX2_numberBy 24 = .ok (.getfield 17, 3) := by decide +kernel
theorem dX2_numberBy_27 : decode cX2_numberBy 27 = .ok (.iload_n 2, 1) := by decide +kernel
theorem dX2_numberBy_28 : decode cX2_numberBy 28 = .ok (.aaload, 1) := by decide +kernel
theorem dX2_numberBy_29 : decode cX2_numberBy 29 = .ok (.iload 5, 2) := by decide +kernel
theorem dX2_numberBy_31 : decode cX2_numberBy 31 = .ok (.iaload, 1) := by decide +kernel
theorem dX2_numberBy_32 : decode cX2_numberBy 32 = .ok (.imul, 1) := by decide +kernel
theorem dX2_numberBy_33 : decode cX2_numberBy 33 = .ok (.iadd, 1) := by decide +kernel
theorem dX2_numberBy_34 : decode cX2_numberBy 34 = .ok (.istore 6, 2) := by decide +kernel
theorem dX2_numberBy_36 : decode cX2_numberBy 36 = .ok (.iload 6, 2) := by decide +kernel
theorem dX2_numberBy_38 : decode cX2_numberBy 38 = .ok (.ifCond .ge 18, 3) := by decide +kernel
theorem dX2_numberBy_41 : decode cX2_numberBy 41 = .ok (.iload 6, 2) := by decide +kernel
theorem dX2_numberBy_43 : decode cX2_numberBy 43 = .ok (.aload_n 1, 1) := by decide +kernel
theorem dX2_numberBy_44 : decode cX2_numberBy 44 = .ok (.getfield 79, 3) := by decide +kernel
theorem dX2_numberBy_47 : decode cX2_numberBy 47 = .ok (.iload 5, 2) := by decide +kernel
theorem dX2_numberBy_49 : decode cX2_numberBy 49 = .ok (.iaload, 1) := by decide +kernel
theorem dX2_numberBy_50 : decode cX2_numberBy 50 = .ok (.iadd, 1) := by decide +kernel
theorem dX2_numberBy_51 : decode cX2_numberBy 51 = .ok (.istore 6, 2) := by decide +kernel
theorem dX2_numberBy_53 : decode cX2_numberBy 53 = .ok (.goto 27, 3) := by decide +kernel
theorem dX2_numberBy_56 : decode cX2_numberBy 56 = .ok (.iload 6, 2) := by decide +kernel
theorem dX2_numberBy_58 : decode cX2_numberBy 58 = .ok (.aload_n 1, 1) := by decide +kernel
theorem dX2_numberBy_59 : decode cX2_numberBy 59 = .ok (.getfield 79, 3) := by decide +kernel
theorem dX2_numberBy_62 : decode cX2_numberBy 62 = .ok (.iload 5, 2) := by decide +kernel
theorem dX2_numberBy_64 : decode cX2_numberBy 64 = .ok (.iaload, 1) := by decide +kernel
theorem dX2_numberBy_65 : decode cX2_numberBy 65 = .ok (.if_icmp .lt 15, 3) := by decide +kernel
theorem dX2_numberBy_68 : decode cX2_numberBy 68 = .ok (.iload 6, 2) := by decide +kernel
theorem dX2_numberBy_70 : decode cX2_numberBy 70 = .ok (.aload_n 1, 1) := by decide +kernel
theorem dX2_numberBy_71 : decode cX2_numberBy 71 = .ok (.getfield 79, 3) := by decide +kernel
theorem dX2_numberBy_74 : decode cX2_numberBy 74 = .ok (.iload 5, 2) := by decide +kernel
theorem dX2_numberBy_76 : decode cX2_numberBy 76 = .ok (.iaload, 1) := by decide +kernel
theorem dX2_numberBy_77 : decode cX2_numberBy 77 = .ok (.isub, 1) := by decide +kernel
theorem dX2_numberBy_78 : decode cX2_numberBy 78 = .ok (.istore 6, 2) := by decide +kernel
theorem dX2_numberBy_80 : decode cX2_numberBy 80 = .ok (.iload 4, 2) := by decide +kernel
theorem dX2_numberBy_82 : decode cX2_numberBy 82 = .ok (.iload 6, 2) := by decide +kernel
theorem dX2_numberBy_84 : decode cX2_numberBy 84 = .ok (.aload_n 0, 1) := by decide +kernel
theorem dX2_numberBy_85 : decode cX2_numberBy 85 = .ok (.getfield 9, 3) := by decide +kernel
theorem dX2_numberBy_88 : decode cX2_numberBy 88 = .ok (.iload 5, 2) := by decide +kernel
theorem dX2_numberBy_90 : decode cX2_numberBy 90 = .ok (.iaload, 1) := by decide +kernel
theorem dX2_numberBy_91 : decode cX2_numberBy 91 = .ok (.imul, 1) := by decide +kernel
theorem dX2_numberBy_92 : decode cX2_numberBy 92 = .ok (.iadd, 1) := by decide +kernel
theorem dX2_numberBy_93 : decode cX2_numberBy 93 = .ok (.istore 4, 2) := by decide +kernel
theorem dX2_numberBy_95 : decode cX2_numberBy 95 = .ok (.iinc 5 1, 3) := by decide +kernel
theorem dX2_numberBy_98 : decode cX2_numberBy 98 = .ok (.goto (-92), 3) := by decide +kernel
theorem dX2_numberBy_101 : decode cX2_numberBy 101 = .ok (.iload 4, 2) := by decide +kernel
theorem dX2_numberBy_103 : decode cX2_numberBy 103 = .ok (.ireturn, 1) := by decide +kernel
theorem dX3_init_0 : decode cX3_init 0 = .ok (.aload_n 0, 1) := by decide +kernel
theorem dX3_init_1 : decode cX3_init 1 = .ok (.invokespecial 3, 3) := by decide +kernel
theorem dX3_init_4 : decode cX3_init 4 = .ok (.aload_n 0, 1) := by decide +kernel
theorem dX3_init_5 : decode cX3_init 5 = .ok (.bipush 8, 2) := by decide +kernel
theorem dX3_init_7 : decode cX3_init 7 = .ok (.newarray .int, 2) := by decide +kernel
theorem dX3_init_9 : decode cX3_init 9 = .ok (.putfield 9, 3) := by decide +kernel
theorem dX3_init_12 : decode cX3_init 12 = .ok (.aload_n 0, 1) := by decide +kernel
theorem dX3_init_13 : decode cX3_init 13 = .ok (.bipush 8, 2) := by decide +kernel
theorem dX3_init_15 : decode cX3_init 15 = .ok (.newarray .int, 2) := by decide +kernel
theorem dX3_init_17 : decode cX3_init 17 = .ok (.putfield 15, 3) := by decide +kernel
theorem dX3_init_20 : decode cX3_init 20 = .ok (.aload_n 0, 1) := by decide +kernel
theorem dX3_init_21 : decode cX3_init 21 = .ok (.bipush 8, 2) := by decide +kernel
theorem dX3_init_23 : decode cX3_init 23 = .ok (.newarray .int, 2) := by decide +kernel
theorem dX3_init_25 : decode cX3_init 25 = .ok (.putfield 18, 3) := by decide +kernel
theorem dX3_init_28 : decode cX3_init 28 = .ok (.return_, 1) := by decide +kernel
theorem dX3_add_0 : decode cX3_add 0 = .ok (.aload_n 0, 1) := by decide +kernel
theorem dX3_add_1 : decode cX3_add 1 = .ok (.getfield 21, 3) := by decide +kernel
theorem dX3_add_4 : decode cX3_add 4 = .ok (.ifCond .lt 12, 3) := by decide +kernel
theorem dX3_add_7 : decode cX3_add 7 = .ok (.aload_n 0, 1) := by decide +kernel
theorem dX3_add_8 : decode cX3_add 8 = .ok (.getfield 21, 3) := by decide +kernel
theorem dX3_add_11 : decode cX3_add 11 = .ok (.bipush 8, 2) := by decide +kernel
theorem dX3_add_13 : decode cX3_add 13 = .ok (.if_icmp .lt 6, 3) := by decide +kernel
theorem dX3_add_16 : decode cX3_add 16 = .ok (.bipush (-4), 2) := by decide +kernel
theorem dX3_add_18 : decode cX3_add 18 = .ok (.ireturn, 1) := by decide +kernel
theorem dX3_add_19 : decode cX3_add 19 = .ok (.aload_n 0, 1) := by decide +kernel
theorem dX3_add_20 : decode cX3_add 20 = .ok (.getfield 9, 3) := by decide +kernel
theorem dX3_add_23 : decode cX3_add 23 = .ok (.aload_n 0, 1) := by decide +kernel
theorem dX3_add_24 : decode cX3_add 24 = .ok (.getfield 21, 3) := by decide +kernel
theorem dX3_add_27 : decode cX3_add 27 = .ok (.iload_n 1, 1) := by decide +kernel
theorem dX3_add_28 : decode cX3_add 28 = .ok (.iastore, 1) := by decide +kernel
theorem dX3_add_29 : decode cX3_add 29 = .ok (.aload_n 0, 1) := by decide +kernel
theorem dX3_add_30 : decode cX3_add 30 = .ok (.getfield 15, 3) := by decide +kernel
theorem dX3_add_33 : decode cX3_add 33 = .ok (.aload_n 0, 1) := by decide +kernel
theorem dX3_add_34 : decode cX3_add 34 = .ok (.getfield 21, 3) := by decide +kernel
theorem dX3_add_37 : decode cX3_add 37 = .ok (.iload_n 2, 1) := by decide +kernel
theorem dX3_add_38 : decode cX3_add 38 = .ok (.iastore, 1) := by decide +kernel
theorem dX3_add_39 : decode cX3_add 39 = .ok (.aload_n 0, 1) := by decide +kernel
theorem dX3_add_40 : decode cX3_add 40 = .ok (.getfield 18, 3) := by decide +kernel
theorem dX3_add_43 : decode cX3_add 43 = .ok (.aload_n 0, 1) := by decide +kernel
theorem dX3_add_44 : decode cX3_add 44 = .ok (.getfield 21, 3) := by decide +kernel
theorem dX3_add_47 : decode cX3_add 47 = .ok (.iload_n 3, 1) := by decide +kernel
theorem dX3_add_48 : decode cX3_add 48 = .ok (.iastore, 1) := by decide +kernel
theorem dX3_add_49 : decode cX3_add 49 = .ok (.aload_n 0, 1) := by decide +kernel
theorem dX3_add_50 : decode cX3_add 50 = .ok (.dup, 1) := by decide +kernel
theorem dX3_add_51 : decode cX3_add 51 = .ok (.getfield 21, 3) := by decide +kernel
theorem dX3_add_54 : decode cX3_add 54 = .ok (.iconst 1, 1) := by decide +kernel
theorem dX3_add_55 : decode cX3_add 55 = .ok (.iadd, 1) := by decide +kernel
theorem dX3_add_56 : decode cX3_add 56 = .ok (.putfield 21, 3) := by decide +kernel
theorem dX3_add_59 : decode cX3_add 59 = .ok (.aload_n 0, 1) := by decide +kernel
theorem dX3_add_60 : decode cX3_add 60 = .ok (.getfield 21, 3) := by decide +kernel
theorem dX3_add_63 : decode cX3_add 63 = .ok (.iconst 1, 1) := by decide +kernel
theorem dX3_add_64 : decode cX3_add 64 = .ok (.isub, 1) := by decide +kernel
theorem dX3_add_65 : decode cX3_add 65 = .ok (.ireturn, 1) := by decide +kernel
theorem dX3_areSo_0 : decode cX3_areSo 0 = .ok (.iconst 0, 1) := by decide +kernel
theorem dX3_areSo_1 : decode cX3_areSo 1 = .ok (.istore_n 2, 1) := by decide +kernel
theorem dX3_areSo_2 : decode cX3_areSo 2 = .ok (.iload_n 2, 1) := by decide +kernel
theorem dX3_areSo_3 : decode cX3_areSo 3 = .ok (.aload_n 0, 1) := by decide +kernel
theorem dX3_areSo_4 : decode cX3_areSo 4 = .ok (.getfield 21, 3) := by decide +kernel
theorem dX3_areSo_7 : decode cX3_areSo 7 = .ok (.if_icmp .ge 36, 3) := by decide +kernel
theorem dX3_areSo_10 : decode cX3_areSo 10 = .ok (.aload_n 1, 1) := by decide +kernel
theorem dX3_areSo_11 : decode cX3_areSo 11 = .ok (.aload_n 0, 1) := by decide +kernel
theorem dX3_areSo_12 : decode cX3_areSo 12 = .ok (.getfield 9, 3) := by decide +kernel
theorem dX3_areSo_15 : decode cX3_areSo 15 = .ok (.iload_n 2, 1) := by decide +kernel
theorem dX3_areSo_16 : decode cX3_areSo 16 = .ok (.iaload, 1) := by decide +kernel
theorem dX3_areSo_17 : decode cX3_areSo 17 = .ok (.aload_n 0, 1) := by decide +kernel
theorem dX3_areSo_18 : decode cX3_areSo 18 = .ok (.getfield 15, 3) := by decide +kernel
theorem dX3_areSo_21 : decode cX3_areSo 21 = .ok (.iload_n 2, 1) := by decide +kernel
theorem dX3_areSo_22 : decode cX3_areSo 22 = .ok (.iaload, 1) := by decide +kernel
theorem dX3_areSo_23 : decode cX3_areSo 23 = .ok (.invokevirtual 25, 3) := by decide +kernel
theorem dX3_areSo_26 : decode cX3_areSo 26 = .ok (.aload_n 0, 1) := by decide +kernel
theorem dX3_areSo_27 : decode cX3_areSo 27 = .ok (.getfield 18, 3) := by decide +kernel
theorem dX3_areSo_30 : decode cX3_areSo 30 = .ok (.iload_n 2, 1) := by decide +kernel
theorem dX3_areSo_31 : decode cX3_areSo 31 = .ok (.iaload, 1) := by decide +kernel
theorem dX3_areSo_32 : decode cX3_areSo 32 = .ok (.if_icmp .eq 5, 3) := by decide +kernel
theorem dX3_areSo_35 : decode cX3_areSo 35 = .ok (.iconst 0, 1) := by decide +kernel
theorem dX3_areSo_36 : decode cX3_areSo 36 = .ok (.ireturn, 1) := by decide +kernel
theorem dX3_areSo_37 : decode cX3_areSo 37 = .ok (.iinc 2 1, 3) := by decide +kernel
theorem dX3_areSo_40 : decode cX3_areSo 40 = .ok (.goto (-38), 3) := by decide +kernel
theorem dX3_areSo_43 : decode cX3_areSo 43 = .ok (.iconst 1, 1) := by decide +kernel
theorem dX3_areSo_44 : decode cX3_areSo 44 = .ok (.ireturn, 1) := by decide +kernel
theorem dX4_init_0 : decode cX4_init 0 = .ok (.aload_n 0, 1) := by decide +kernel
theorem dX4_init_1 : decode cX4_init 1 = .ok (.invokespecial 3, 3) := by decide +kernel
theorem dX4_init_4 : decode cX4_init 4 = .ok (.aload_n 0, 1) := by decide +kernel
theorem dX4_init_5 : decode cX4_init 5 = .ok (.bipush 60, 2) := by decide +kernel
theorem dX4_init_7 : decode cX4_init 7 = .ok (.newarray .int, 2) := by decide +kernel
theorem dX4_init_9 : decode cX4_init 9 = .ok (.putfield 9, 3) := by decide +kernel
theorem dX4_init_12 : decode cX4_init 12 = .ok (.aload_n 0, 1) := by decide +kernel
theorem dX4_init_13 : decode cX4_init 13 = .ok (.iconst (-1), 1) := by decide +kernel
theorem dX4_init_14 : decode cX4_init 14 = .ok (.putfield 15, 3) := by decide +kernel
theorem dX4_init_17 : decode cX4_init 17 = .ok (.return_, 1) := by decide +kernel
theorem dX4_begin_0 : decode cX4_begin 0 = .ok (.aload_n 0, 1) := by decide +kernel
theorem dX4_begin_1 : decode cX4_begin 1 = .ok (.iload_n 1, 1) := by decide +kernel
theorem dX4_begin_2 : decode cX4_begin 2 = .ok (.putfield 19, 3) := by decide +kernel
theorem dX4_begin_5 : decode cX4_begin 5 = .ok (.aload_n 0, 1) := by decide +kernel
theorem dX4_begin_6 : decode cX4_begin 6 = .ok (.iconst 0, 1) := by decide +kernel
theorem dX4_begin_7 : decode cX4_begin 7 = .ok (.iload_n 2, 1) := by decide +kernel
theorem dX4_begin_8 : decode cX4_begin 8 = .ok (.bipush 60, 2) := by decide +kernel
theorem dX4_begin_10 : decode cX4_begin 10 = .ok (.invokestatic 22, 3) := by decide +kernel
theorem dX4_begin_13 : decode cX4_begin 13 = .ok (.invokestatic 28, 3) := by decide +kernel
theorem dX4_begin_16 : decode cX4_begin 16 = .ok (.putfield 15, 3) := by decide +kernel
theorem dX4_begin_19 : decode cX4_begin 19 = .ok (.iconst 0, 1) := by decide +kernel
theorem dX4_begin_20 : decode cX4_begin 20 = .ok (.istore_n 3, 1) := by decide +kernel
theorem dX4_begin_21 : decode cX4_begin 21 = .ok (.iload_n 3, 1) := by decide +kernel
theorem dX4_begin_22 : decode cX4_begin 22 = .ok (.aload_n 0, 1) := by decide +kernel
theorem dX4_begin_23 : decode cX4_begin 23 = .ok (.getfield 15, 3) := by decide +kernel
theorem dX4_begin_26 : decode cX4_begin 26 = .ok (.if_icmp .ge 16, 3) := by decide +kernel
theorem dX4_begin_29 : decode cX4_begin 29 = .ok (.aload_n 0, 1) := by decide +kernel
theorem dX4_begin_30 : decode cX4_begin 30 = .ok (.getfield 9, 3) := by decide +kernel
theorem dX4_begin_33 : decode cX4_begin 33 = .ok (.iload_n 3, 1) := by decide +kernel
theorem dX4_begin_34 : decode cX4_begin 34 = .ok (.iconst 0, 1) := by decide +kernel
theorem dX4_begin_35 : decode cX4_begin 35 = .ok (.iastore, 1) := by decide +kernel
theorem dX4_begin_36 : decode cX4_begin 36 = .ok (.iinc 3 1, 3) := by decide +kernel
theorem dX4_begin_39 : decode cX4_begin 39 = .ok (.goto (-18), 3) := by decide +kernel
theorem dX4_begin_42 : decode cX4_begin 42 = .ok (.return_, 1) := by decide +kernel
theorem dX4_end_0 : decode cX4_end 0 = .ok (.aload_n 0, 1) := by decide +kernel
theorem dX4_end_1 : decode cX4_end 1 = .ok (.iconst (-1), 1) := by decide +kernel
theorem dX4_end_2 : decode cX4_end 2 = .ok (.putfield 15, 3) := by decide +kernel
theorem dX4_end_5 : decode cX4_end 5 = .ok (.return_, 1) := by decide +kernel
theorem dX4_isNothing_0 : decode cX4_isNothing 0 = .ok (.aload_n 0, 1) := by decide +kernel
theorem dX4_isNothing_1 : decode cX4_isNothing 1 = .ok (.getfield 15, 3) := by decide +kernel
theorem dX4_isNothing_4 : decode cX4_isNothing 4 = .ok (.iconst (-1), 1) := by decide +kernel
theorem dX4_isNothing_5 : decode cX4_isNothing 5 = .ok (.if_icmp .ne 7, 3) := by decide +kernel
theorem dX4_isNothing_8 : decode cX4_isNothing 8 = .ok (.iconst 1, 1) := by decide +kernel
theorem dX4_isNothing_9 : decode cX4_isNothing 9 = .ok (.goto 4, 3) := by decide +kernel
theorem dX4_isNothing_12 : decode cX4_isNothing 12 = .ok (.iconst 0, 1) := by decide +kernel
theorem dX4_isNothing_13 : decode cX4_isNothing 13 = .ok (.ireturn, 1) := by decide +kernel
theorem dX4_hasCells_0 : decode cX4_hasCells 0 = .ok (.iload_n 1, 1) := by decide +kernel
theorem dX4_hasCells_1 : decode cX4_hasCells 1 = .ok (.ifCond .lt 29, 3) := by decide +kernel
theorem dX4_hasCells_4 : decode cX4_hasCells 4 = .ok (.iload_n 1, 1) := by decide +kernel
theorem dX4_hasCells_5 : decode cX4_hasCells 5 = .ok (.aload_n 0, 1) := by decide +kernel
theorem dX4_hasCells_6 : decode cX4_hasCells 6 = .ok (.getfield 15, 3) := by decide +kernel
theorem dX4_hasCells_9 : decode cX4_hasCells 9 = .ok (.if_icmp .gt 21, 3) := by decide +kernel
theorem dX4_hasCells_12 : decode cX4_hasCells 12 = .ok (.iload_n 2, 1) := by decide +kernel
theorem dX4_hasCells_13 : decode cX4_hasCells 13 = .ok (.ifCond .lt 17, 3) := by decide +kernel
theorem dX4_hasCells_16 : decode cX4_hasCells 16 = .ok (.iload_n 2, 1) := by decide +kernel
theorem dX4_hasCells_17 : decode cX4_hasCells 17 = .ok (.aload_n 0, 1) := by decide +kernel
theorem dX4_hasCells_18 : decode cX4_hasCells 18 = .ok (.getfield 15, 3) := by decide +kernel
theorem dX4_hasCells_21 : decode cX4_hasCells 21 = .ok (.iload_n 1, 1) := by decide +kernel
theorem dX4_hasCells_22 : decode cX4_hasCells 22 = .ok (.isub, 1) := by decide +kernel
theorem dX4_hasCells_23 : decode cX4_hasCells 23 = .ok (.if_icmp .gt 7, 3) := by decide +kernel
theorem dX4_hasCells_26 : decode cX4_hasCells 26 = .ok (.iconst 1, 1) := by decide +kernel
theorem dX4_hasCells_27 : decode cX4_hasCells 27 = .ok (.goto 4, 3) := by decide +kernel
theorem dX4_hasCells_30 : decode cX4_hasCells 30 = .ok (.iconst 0, 1) := by decide +kernel
theorem dX4_hasCells_31 : decode cX4_hasCells 31 = .ok (.ireturn, 1) := by decide +kernel
theorem dX4_faultAs_0 : decode cX4_faultAs 0 = .ok (.aload_n 0, 1) := by decide +kernel
theorem dX4_faultAs_1 : decode cX4_faultAs 1 = .ok (.invokevirtual 31, 3) := by decide +kernel
theorem dX4_faultAs_4 : decode cX4_faultAs 4 = .ok (.ifCond .eq 5, 3) := by decide +kernel
theorem dX4_faultAs_7 : decode cX4_faultAs 7 = .ok (.iconst 1, 1) := by decide +kernel
theorem dX4_faultAs_8 : decode cX4_faultAs 8 = .ok (.ireturn, 1) := by decide +kernel
theorem dX4_faultAs_9 : decode cX4_faultAs 9 = .ok (.aload_n 0, 1) := by decide +kernel
theorem dX4_faultAs_10 : decode cX4_faultAs 10 = .ok (.getfield 19, 3) := by decide +kernel
theorem dX4_faultAs_13 : decode cX4_faultAs 13 = .ok (.iload_n 1, 1) := by decide +kernel
theorem dX4_faultAs_14 : decode cX4_faultAs 14 = .ok (.if_icmp .ne 7, 3) := by decide +kernel
theorem dX4_faultAs_17 : decode cX4_faultAs 17 = .ok (.iconst 0, 1) := by decide +kernel
theorem dX4_faultAs_18 : decode cX4_faultAs 18 = .ok (.goto 4, 3) := by decide +kernel
theorem dX4_faultAs_21 : decode cX4_faultAs 21 = .ok (.iconst 2, 1) := by decide +kernel
theorem dX4_faultAs_22 : decode cX4_faultAs 22 = .ok (.ireturn, 1) := by decide +kernel
theorem dX4_faultOfCells_0 : decode cX4_faultOfCells 0 = .ok (.aload_n 0, 1) := by decide +kernel
theorem dX4_faultOfCells_1 : decode cX4_faultOfCells 1 = .ok (.iload_n 1, 1) := by decide +kernel
theorem dX4_faultOfCells_2 : decode cX4_faultOfCells 2 = .ok (.invokevirtual 35, 3) := by decide +kernel
theorem dX4_faultOfCells_5 : decode cX4_faultOfCells 5 = .ok (.istore 4, 2) := by decide +kernel
theorem dX4_faultOfCells_7 : decode cX4_faultOfCells 7 = .ok (.iload 4, 2) := by decide +kernel
theorem dX4_faultOfCells_9 : decode cX4_faultOfCells 9 = .ok (.ifCond .ne 16, 3) := by decide +kernel
theorem dX4_faultOfCells_12 : decode cX4_faultOfCells 12 = .ok (.aload_n 0, 1) := by decide +kernel
theorem dX4_faultOfCells_13 : decode cX4_faultOfCells 13 = .ok (.iload_n 2, 1) := by decide +kernel
theorem dX4_faultOfCells_14 : decode cX4_faultOfCells 14 = .ok (.iload_n 3, 1) := by decide +kernel
theorem dX4_faultOfCells_15 : decode cX4_faultOfCells 15 = .ok (.invokevirtual 39, 3) := by decide +kernel
theorem dX4_faultOfCells_18 : decode cX4_faultOfCells 18 = .ok (.ifCond .ne 7, 3) := by decide +kernel
theorem dX4_faultOfCells_21 : decode cX4_faultOfCells 21 = .ok (.iconst 3, 1) := by decide +kernel
theorem dX4_faultOfCells_22 : decode cX4_faultOfCells 22 = .ok (.goto 5, 3) := by decide +kernel
theorem dX4_faultOfCells_25 : decode cX4_faultOfCells 25 = .ok (.iload 4, 2) := by decide +kernel
theorem dX4_faultOfCells_27 : decode cX4_faultOfCells 27 = .ok (.ireturn, 1) := by decide +kernel
theorem dX4_at_0 : decode cX4_at 0 = .ok (.aload_n 0, 1) := by decide +kernel
theorem dX4_at_1 : decode cX4_at 1 = .ok (.iload_n 1, 1) := by decide +kernel
theorem dX4_at_2 : decode cX4_at 2 = .ok (.iconst 1, 1) := by decide +kernel
theorem dX4_at_3 : decode cX4_at 3 = .ok (.invokevirtual 39, 3) := by decide +kernel
theorem dX4_at_6 : decode cX4_at 6 = .ok (.ifCond .eq 12, 3) := by decide +kernel
theorem dX4_at_9 : decode cX4_at 9 = .ok (.aload_n 0, 1) := by decide +kernel
theorem dX4_at_10 : decode cX4_at 10 = .ok (.getfield 9, 3) := by decide +kernel
theorem dX4_at_13 : decode cX4_at 13 = .ok (.iload_n 1, 1) := by decide +kernel
theorem dX4_at_14 : decode cX4_at 14 = .ok (.iaload, 1) := by decide +kernel
theorem dX4_at_15 : decode cX4_at 15 = .ok (.goto 4, 3) := by decide +kernel
theorem dX4_at_18 : decode cX4_at 18 = .ok (.iconst 0, 1) := by decide +kernel
theorem dX4_at_19 : decode cX4_at 19 = .ok (.ireturn, 1) := by decide +kernel
theorem dX4_set_0 : decode cX4_set 0 = .ok (.aload_n 0, 1) := by decide +kernel
theorem dX4_set_1 : decode cX4_set 1 = .ok (.iload_n 1, 1) := by decide +kernel
theorem dX4_set_2 : decode cX4_set 2 = .ok (.iconst 1, 1) := by decide +kernel
theorem dX4_set_3 : decode cX4_set 3 = .ok (.invokevirtual 39, 3) := by decide +kernel
theorem dX4_set_6 : decode cX4_set 6 = .ok (.ifCond .eq 14, 3) := by decide +kernel
theorem dX4_set_9 : decode cX4_set 9 = .ok (.aload_n 0, 1) := by decide +kernel
theorem dX4_set_10 : decode cX4_set 10 = .ok (.getfield 9, 3) := by decide +kernel
theorem dX4_set_13 : decode cX4_set 13 = .ok (.iload_n 1, 1) := by decide +kernel
theorem dX4_set_14 : decode cX4_set 14 = .ok (.aload_n 0, 1) := by decide +kernel
theorem dX4_set_15 : decode cX4_set 15 = .ok (.iload_n 2, 1) := by decide +kernel
theorem dX4_set_16 : decode cX4_set 16 = .ok (.invokevirtual 43, 3) := by decide +kernel
theorem dX4_set_19 : decode cX4_set 19 = .ok (.iastore, 1) := by decide +kernel
theorem dX4_set_20 : decode cX4_set 20 = .ok (.return_, 1) := by decide +kernel
theorem dX4_cut_0 : decode cX4_cut 0 = .ok (.aload_n 0, 1) := by decide +kernel
theorem dX4_cut_1 : decode cX4_cut 1 = .ok (.getfield 19, 3) := by decide +kernel
theorem dX4_cut_4 : decode cX4_cut 4 = .ok (.lookupswitch 34 #[(0, 28), (1, 31)], 28) := by decide +kernel
theorem dX4_cut_32 : decode cX4_cut 32 = .ok (.iload_n 1, 1) := by decide +kernel
theorem dX4_cut_33 : decode cX4_cut 33 = .ok (.i2b, 1) := by decide +kernel
theorem dX4_cut_34 : decode cX4_cut 34 = .ok (.ireturn, 1) := by decide +kernel
theorem dX4_cut_35 : decode cX4_cut 35 = .ok (.iload_n 1, 1) := by decide +kernel
theorem dX4_cut_36 : decode cX4_cut 36 = .ok (.i2s, 1) := by decide +kernel
theorem dX4_cut_37 : decode cX4_cut 37 = .ok (.ireturn, 1) := by decide +kernel
theorem dX4_cut_38 : decode cX4_cut 38 = .ok (.iload_n 1, 1) := by decide +kernel
theorem dX4_cut_39 : decode cX4_cut 39 = .ok (.ireturn, 1) := by decide +kernel
theorem dX5_init_0 : decode cX5_init 0 = .ok (.aload_n 0, 1) := by decide +kernel
theorem dX5_init_1 : decode cX5_init 1 = .ok (.invokespecial 3, 3) := by decide +kernel
theorem dX5_init_4 : decode cX5_init 4 = .ok (.aload_n 0, 1) := by decide +kernel
theorem dX5_init_5 : decode cX5_init 5 = .ok (.bipush 60, 2) := by decide +kernel
theorem dX5_init_7 : decode cX5_init 7 = .ok (.newarray .int, 2) := by decide +kernel
theorem dX5_init_9 : decode cX5_init 9 = .ok (.putfield 9, 3) := by decide +kernel
theorem dX5_init_12 : decode cX5_init 12 = .ok (.return_, 1) := by decide +kernel
theorem dX5_take_0 : decode cX5_take 0 = .ok (.aload_n 0, 1) := by decide +kernel
theorem dX5_take_1 : decode cX5_take 1 = .ok (.iload_n 3, 1) := by decide +kernel
theorem dX5_take_2 : decode cX5_take 2 = .ok (.bipush 60, 2) := by decide +kernel
theorem dX5_take_4 : decode cX5_take 4 = .ok (.invokestatic 15, 3) := by decide +kernel
theorem dX5_take_7 : decode cX5_take 7 = .ok (.putfield 21, 3) := by decide +kernel
theorem dX5_take_10 : decode cX5_take 10 = .ok (.iconst 0, 1) := by decide +kernel
theorem dX5_take_11 : decode cX5_take 11 = .ok (.istore 4, 2) := by decide +kernel
theorem dX5_take_13 : decode cX5_take 13 = .ok (.iload 4, 2) := by decide +kernel
theorem dX5_take_15 : decode cX5_take 15 = .ok (.aload_n 0, 1) := by decide +kernel
theorem dX5_take_16 : decode cX5_take 16 = .ok (.getfield 21, 3) := by decide +kernel
theorem dX5_take_19 : decode cX5_take 19 = .ok (.if_icmp .ge 24, 3) := by decide +kernel
theorem dX5_take_22 : decode cX5_take 22 = .ok (.aload_n 0, 1) := by decide +kernel
theorem dX5_take_23 : decode cX5_take 23 = .ok (.getfield 9, 3) := by decide +kernel
theorem dX5_take_26 : decode cX5_take 26 = .ok (.iload 4, 2) := by decide +kernel
theorem dX5_take_28 : decode cX5_take 28 = .ok (.aload_n 1, 1) := by decide +kernel
theorem dX5_take_29 : decode cX5_take 29 = .ok (.iload_n 2, 1) := by decide +kernel
theorem dX5_take_30 : decode cX5_take 30 = .ok (.iload 4, 2) := by decide +kernel
theorem dX5_take_32 : decode cX5_take 32 = .ok (.iadd, 1) := by decide +kernel
theorem dX5_take_33 : decode cX5_take 33 = .ok (.invokevirtual 25, 3) := by decide +kernel
theorem dX5_take_36 : decode cX5_take 36 = .ok (.iastore, 1) := by decide +kernel
theorem dX5_take_37 : decode cX5_take 37 = .ok (.iinc 4 1, 3) := by decide +kernel
theorem dX5_take_40 : decode cX5_take 40 = .ok (.goto (-27), 3) := by decide +kernel
theorem dX5_take_43 : decode cX5_take 43 = .ok (.return_, 1) := by decide +kernel
theorem dX5_codeAt_0 : decode cX5_codeAt 0 = .ok (.iload_n 1, 1) := by decide +kernel
theorem dX5_codeAt_1 : decode cX5_codeAt 1 = .ok (.ifCond .lt 20, 3) := by decide +kernel
theorem dX5_codeAt_4 : decode cX5_codeAt 4 = .ok (.iload_n 1, 1) := by decide +kernel
theorem dX5_codeAt_5 : decode cX5_codeAt 5 = .ok (.aload_n 0, 1) := by decide +kernel
theorem dX5_codeAt_6 : decode cX5_codeAt 6 = .ok (.getfield 21, 3) := by decide +kernel
theorem dX5_codeAt_9 : decode cX5_codeAt 9 = .ok (.if_icmp .ge 12, 3) := by decide +kernel
theorem dX5_codeAt_12 : decode cX5_codeAt 12 = .ok (.aload_n 0, 1) := by decide +kernel
theorem dX5_codeAt_13 : decode cX5_codeAt 13 = .ok (.getfield 9, 3) := by decide +kernel
theorem dX5_codeAt_16 : decode cX5_codeAt 16 = .ok (.iload_n 1, 1) := by decide +kernel
theorem dX5_codeAt_17 : decode cX5_codeAt 17 = .ok (.iaload, 1) := by decide +kernel
theorem dX5_codeAt_18 : decode cX5_codeAt 18 = .ok (.goto 4, 3) := by decide +kernel
theorem dX5_codeAt_21 : decode cX5_codeAt 21 = .ok (.iconst (-1), 1) := by decide +kernel
theorem dX5_codeAt_22 : decode cX5_codeAt 22 = .ok (.ireturn, 1) := by decide +kernel
theorem dX5_isDigit_0 : decode cX5_isDigit 0 = .ok (.aload_n 0, 1) := by decide +kernel
theorem dX5_isDigit_1 : decode cX5_isDigit 1 = .ok (.iload_n 1, 1) := by decide +kernel
theorem dX5_isDigit_2 : decode cX5_isDigit 2 = .ok (.invokevirtual 31, 3) := by decide +kernel
theorem dX5_isDigit_5 : decode cX5_isDigit 5 = .ok (.iload_n 2, 1) := by decide +kernel
theorem dX5_isDigit_6 : decode cX5_isDigit 6 = .ok (.iload_n 3, 1) := by decide +kernel
theorem dX5_isDigit_7 : decode cX5_isDigit 7 = .ok (.invokestatic 34, 3) := by decide +kernel
theorem dX5_isDigit_10 : decode cX5_isDigit 10 = .ok (.ireturn, 1) := by decide +kernel
theorem dX5_firstFault_0 : decode cX5_firstFault 0 = .ok (.aload_n 0, 1) := by decide +kernel
theorem dX5_firstFault_1 : decode cX5_firstFault 1 = .ok (.iconst 0, 1) := by decide +kernel
theorem dX5_firstFault_2 : decode cX5_firstFault 2 = .ok (.invokevirtual 31, 3) := by decide +kernel
theorem dX5_firstFault_5 : decode cX5_firstFault 5 = .ok (.bipush 108, 2) := by decide +kernel
theorem dX5_firstFault_7 : decode cX5_firstFault 7 = .ok (.if_icmp .eq 5, 3) := by decide +kernel
theorem dX5_firstFault_10 : decode cX5_firstFault 10 = .ok (.iconst 0, 1) := by decide +kernel
theorem dX5_firstFault_11 : decode cX5_firstFault 11 = .ok (.ireturn, 1) := by decide +kernel
theorem dX5_firstFault_12 : decode cX5_firstFault 12 = .ok (.aload_n 0, 1) := by decide +kernel
theorem dX5_firstFault_13 : decode cX5_firstFault 13 = .ok (.iconst 0, 1) := by decide +kernel
theorem dX5_firstFault_14 : decode cX5_firstFault 14 = .ok (.putfield 38, 3) := by decide +kernel
theorem dX5_firstFault_17 : decode cX5_firstFault 17 = .ok (.aload_n 0, 1) := by decide +kernel
theorem dX5_firstFault_18 : decode cX5_firstFault 18 = .ok (.getfield 38, 3) := by decide +kernel
theorem dX5_firstFault_21 : decode cX5_firstFault 21 = .ok (.iconst 5, 1) := by decide +kernel
theorem dX5_firstFault_22 : decode cX5_firstFault 22 = .ok (.if_icmp .ge 33, 3) := by decide +kernel
theorem dX5_firstFault_25 : decode cX5_firstFault 25 = .ok (.aload_n 0, 1) := by decide +kernel
theorem dX5_firstFault_26 : decode cX5_firstFault 26 = .ok (.iconst 1, 1) := by decide +kernel
theorem dX5_firstFault_27 : decode cX5_firstFault 27 = .ok (.aload_n 0, 1) := by decide +kernel
theorem dX5_firstFault_28 : decode cX5_firstFault 28 = .ok (.getfield 38, 3) := by decide +kernel
theorem dX5_firstFault_31 : decode cX5_firstFault 31 = .ok (.iadd, 1) := by decide +kernel
theorem dX5_firstFault_32 : decode cX5_firstFault 32 = .ok (.bipush 50, 2) := by decide +kernel
theorem dX5_firstFault_34 : decode cX5_firstFault 34 = .ok (.bipush 53, 2) := by decide +kernel
theorem dX5_firstFault_36 : decode cX5_firstFault 36 = .ok (.invokevirtual 41, 3) := by decide +kernel
theorem dX5_firstFault_39 : decode cX5_firstFault 39 = .ok (.ifCond .eq 16, 3) := by decide +kernel
theorem dX5_firstFault_42 : decode cX5_firstFault 42 = .ok (.aload_n 0, 1) := by decide +kernel
theorem dX5_firstFault_43 : decode cX5_firstFault 43 = .ok (.dup, 1) := by decide +kernel
theorem dX5_firstFault_44 : decode cX5_firstFault 44 = .ok (.getfield 38, 3) := by decide +kernel
theorem dX5_firstFault_47 : decode cX5_firstFault 47 = .ok (.iconst 1, 1) := by decide +kernel
theorem dX5_firstFault_48 : decode cX5_firstFault 48 = .ok (.iadd, 1) := by decide +kernel
theorem dX5_firstFault_49 : decode cX5_firstFault 49 = .ok (.putfield 38, 3) := by decide +kernel
theorem dX5_firstFault_52 : decode cX5_firstFault 52 = .ok (.goto (-35), 3) := by decide +kernel
theorem dX5_firstFault_55 : decode cX5_firstFault 55 = .ok (.aload_n 0, 1) := by decide +kernel
theorem dX5_firstFault_56 : decode cX5_firstFault 56 = .ok (.getfield 38, 3) := by decide +kernel
theorem dX5_firstFault_59 : decode cX5_firstFault 59 = .ok (.ifCond .ne 5, 3) := by decide +kernel
theorem dX5_firstFault_62 : decode cX5_firstFault 62 = .ok (.iconst 1, 1) := by decide +kernel
theorem dX5_firstFault_63 : decode cX5_firstFault 63 = .ok (.ireturn, 1) := by decide +kernel
theorem dX5_firstFault_64 : decode cX5_firstFault 64 = .ok (.aload_n 0, 1) := by decide +kernel
theorem dX5_firstFault_65 : decode cX5_firstFault 65 = .ok (.iconst 0, 1) := by decide +kernel
theorem dX5_firstFault_66 : decode cX5_firstFault 66 = .ok (.putfield 45, 3) := by decide +kernel
theorem dX5_firstFault_69 : decode cX5_firstFault 69 = .ok (.aload_n 0, 1) := by decide +kernel
theorem dX5_firstFault_70 : decode cX5_firstFault 70 = .ok (.getfield 45, 3) := by decide +kernel
theorem dX5_firstFault_73 : decode cX5_firstFault 73 = .ok (.iconst 5, 1) := by decide +kernel
theorem dX5_firstFault_74 : decode cX5_firstFault 74 = .ok (.if_icmp .ge 59, 3) := by decide +kernel
theorem dX5_firstFault_77 : decode cX5_firstFault 77 = .ok (.aload_n 0, 1) := by decide +kernel
theorem dX5_firstFault_78 : decode cX5_firstFault 78 = .ok (.getfield 45, 3) := by decide +kernel
theorem dX5_firstFault_81 : decode cX5_firstFault 81 = .ok (.ifCond .eq 18, 3) := by decide +kernel
theorem dX5_firstFault_84 : decode cX5_firstFault 84 = .ok (.aload_n 0, 1) := by decide +kernel
theorem dX5_firstFault_85 : decode cX5_firstFault 85 = .ok (.aload_n 0, 1) := by decide +kernel
theorem dX5_firstFault_86 : decode cX5_firstFault 86 = .ok (.getfield 45, 3) := by decide +kernel
theorem dX5_firstFault_89 : decode cX5_firstFault 89 = .ok (.invokevirtual 48, 3) := by decide +kernel
theorem dX5_firstFault_92 : decode cX5_firstFault 92 = .ok (.aload_n 0, 1) := by decide +kernel
theorem dX5_firstFault_93 : decode cX5_firstFault 93 = .ok (.getfield 21, 3) := by decide +kernel
theorem dX5_firstFault_96 : decode cX5_firstFault 96 = .ok (.if_icmp .ge 37, 3) := by decide +kernel
theorem dX5_firstFault_99 : decode cX5_firstFault 99 = .ok (.aload_n 0, 1) := by decide +kernel
theorem dX5_firstFault_100 : decode cX5_firstFault 100 = .ok (.aload_n 0, 1) := by decide +kernel
theorem dX5_firstFault_101 : decode cX5_firstFault 101 = .ok (.aload_n 0, 1) := by decide +kernel
theorem dX5_firstFault_102 : decode cX5_firstFault 102 = .ok (.getfield 45, 3) := by decide +kernel
theorem dX5_firstFault_105 : decode cX5_firstFault 105 = .ok (.invokevirtual 48, 3) := by decide +kernel
theorem dX5_firstFault_108 : decode cX5_firstFault 108 = .ok (.invokevirtual 51, 3) := by decide +kernel
theorem dX5_firstFault_111 : decode cX5_firstFault 111 = .ok (.istore_n 1, 1) := by decide +kernel
theorem dX5_firstFault_112 : decode cX5_firstFault 112 = .ok (.iload_n 1, 1) := by decide +kernel
theorem dX5_firstFault_113 : decode cX5_firstFault 113 = .ok (.bipush (-9), 2) := by decide +kernel
theorem dX5_firstFault_115 : decode cX5_firstFault 115 = .ok (.if_icmp .eq 5, 3) := by decide +kernel
theorem dX5_firstFault_118 : decode cX5_firstFault 118 = .ok (.iload_n 1, 1) := by decide +kernel
theorem dX5_firstFault_119 : decode cX5_firstFault 119 = .ok (.ireturn, 1) := by decide +kernel
theorem dX5_firstFault_120 : decode cX5_firstFault 120 = .ok (.aload_n 0, 1) := by decide +kernel
theorem dX5_firstFault_121 : decode cX5_firstFault 121 = .ok (.dup, 1) := by decide +kernel
theorem dX5_firstFault_122 : decode cX5_firstFault 122 = .ok (.getfield 45, 3) := by decide +kernel
theorem dX5_firstFault_125 : decode cX5_firstFault 125 = .ok (.iconst 1, 1) := by decide +kernel
theorem dX5_firstFault_126 : decode cX5_firstFault 126 = .ok (.iadd, 1) := by decide +kernel
theorem dX5_firstFault_127 : decode cX5_firstFault 127 = .ok (.putfield 45, 3) := by decide +kernel
theorem dX5_firstFault_130 : decode cX5_firstFault 130 = .ok (.goto (-61), 3) := by decide +kernel
theorem dX5_firstFault_133 : decode cX5_firstFault 133 = .ok (.aload_n 0, 1) := by decide +kernel
theorem dX5_firstFault_134 : decode cX5_firstFault 134 = .ok (.aload_n 0, 1) := by decide +kernel
theorem dX5_firstFault_135 : decode cX5_firstFault 135 = .ok (.getfield 45, 3) := by decide +kernel
theorem dX5_firstFault_138 : decode cX5_firstFault 138 = .ok (.invokevirtual 48, 3) := by decide +kernel
theorem dX5_firstFault_141 : decode cX5_firstFault 141 = .ok (.aload_n 0, 1) := by decide +kernel
theorem dX5_firstFault_142 : decode cX5_firstFault 142 = .ok (.getfield 21, 3) := by decide +kernel
theorem dX5_firstFault_145 : decode cX5_firstFault 145 = .ok (.if_icmp .ne 8, 3) := by decide +kernel
theorem dX5_firstFault_148 : decode cX5_firstFault 148 = .ok (.bipush (-9), 2) := by decide +kernel
theorem dX5_firstFault_150 : decode cX5_firstFault 150 = .ok (.goto 11, 3) := by decide +kernel
theorem dX5_firstFault_153 : decode cX5_firstFault 153 = .ok (.aload_n 0, 1) := by decide +kernel
theorem dX5_firstFault_154 : decode cX5_firstFault 154 = .ok (.aload_n 0, 1) := by decide +kernel
theorem dX5_firstFault_155 : decode cX5_firstFault 155 = .ok (.getfield 45, 3) := by decide +kernel
theorem dX5_firstFault_158 : decode cX5_firstFault 158 = .ok (.invokevirtual 48, 3) := by decide +kernel
theorem dX5_firstFault_161 : decode cX5_firstFault 161 = .ok (.ireturn, 1) := by decide +kernel
theorem dX5_placeOf_0 : decode cX5_placeOf 0 = .ok (.iconst 1, 1) := by decide +kernel
theorem dX5_placeOf_1 : decode cX5_placeOf 1 = .ok (.aload_n 0, 1) := by decide +kernel
theorem dX5_placeOf_2 : decode cX5_placeOf 2 = .ok (.getfield 38, 3) := by decide +kernel
theorem dX5_placeOf_5 : decode cX5_placeOf 5 = .ok (.iadd, 1) := by decide +kernel
theorem dX5_placeOf_6 : decode cX5_placeOf 6 = .ok (.iload_n 1, 1) := by decide +kernel
theorem dX5_placeOf_7 : decode cX5_placeOf 7 = .ok (.iconst 3, 1) := by decide +kernel
theorem dX5_placeOf_8 : decode cX5_placeOf 8 = .ok (.aload_n 0, 1) := by decide +kernel
theorem dX5_placeOf_9 : decode cX5_placeOf 9 = .ok (.getfield 38, 3) := by decide +kernel
theorem dX5_placeOf_12 : decode cX5_placeOf 12 = .ok (.iadd, 1) := by decide +kernel
theorem dX5_placeOf_13 : decode cX5_placeOf 13 = .ok (.imul, 1) := by decide +kernel
theorem dX5_placeOf_14 : decode cX5_placeOf 14 = .ok (.iadd, 1) := by decide +kernel
theorem dX5_placeOf_15 : decode cX5_placeOf 15 = .ok (.ireturn, 1) := by decide +kernel
theorem dX5_faultInSwitch_0 : decode cX5_faultInSwitch 0 = .ok (.aload_n 0, 1) := by decide +kernel
theorem dX5_faultInSwitch_1 : decode cX5_faultInSwitch 1 = .ok (.iload_n 1, 1) := by decide +kernel
theorem dX5_faultInSwitch_2 : decode cX5_faultInSwitch 2 = .ok (.invokevirtual 31, 3) := by decide +kernel
theorem dX5_faultInSwitch_5 : decode cX5_faultInSwitch 5 = .ok (.bipush 59, 2) := by decide +kernel
theorem dX5_faultInSwitch_7 : decode cX5_faultInSwitch 7 = .ok (.if_icmp .eq 5, 3) := by decide +kernel
theorem dX5_faultInSwitch_10 : decode cX5_faultInSwitch 10 = .ok (.iload_n 1, 1) := by decide +kernel
theorem dX5_faultInSwitch_11 : decode cX5_faultInSwitch 11 = .ok (.ireturn, 1) := by decide +kernel
theorem dX5_faultInSwitch_12 : decode cX5_faultInSwitch 12 = .ok (.aload_n 0, 1) := by decide +kernel
theorem dX5_faultInSwitch_13 : decode cX5_faultInSwitch 13 = .ok (.iload_n 1, 1) := by decide +kernel
theorem dX5_faultInSwitch_14 : decode cX5_faultInSwitch 14 = .ok (.iconst 1, 1) := by decide +kernel
theorem dX5_faultInSwitch_15 : decode cX5_faultInSwitch 15 = .ok (.iadd, 1) := by decide +kernel
theorem dX5_faultInSwitch_16 : decode cX5_faultInSwitch 16 = .ok (.invokevirtual 31, 3) := by decide +kernel
theorem dX5_faultInSwitch_19 : decode cX5_faultInSwitch 19 = .ok (.invokestatic 54, 3) := by decide +kernel
theorem dX5_faultInSwitch_22 : decode cX5_faultInSwitch 22 = .ok (.bipush (-9), 2) := by decide +kernel
theorem dX5_faultInSwitch_24 : decode cX5_faultInSwitch 24 = .ok (.if_icmp .ne 7, 3) := by decide +kernel
theorem dX5_faultInSwitch_27 : decode cX5_faultInSwitch 27 = .ok (.iload_n 1, 1) := by decide +kernel
theorem dX5_faultInSwitch_28 : decode cX5_faultInSwitch 28 = .ok (.iconst 1, 1) := by decide +kernel
theorem dX5_faultInSwitch_29 : decode cX5_faultInSwitch 29 = .ok (.iadd, 1) := by decide +kernel
theorem dX5_faultInSwitch_30 : decode cX5_faultInSwitch 30 = .ok (.ireturn, 1) := by decide +kernel
theorem dX5_faultInSwitch_31 : decode cX5_faultInSwitch 31 = .ok (.aload_n 0, 1) := by decide +kernel
theorem dX5_faultInSwitch_32 : decode cX5_faultInSwitch 32 = .ok (.iload_n 1, 1) := by decide +kernel
theorem dX5_faultInSwitch_33 : decode cX5_faultInSwitch 33 = .ok (.iconst 2, 1) := by decide +kernel
theorem dX5_faultInSwitch_34 : decode cX5_faultInSwitch 34 = .ok (.iadd, 1) := by decide +kernel
theorem dX5_faultInSwitch_35 : decode cX5_faultInSwitch 35 = .ok (.bipush 49, 2) := by decide +kernel
theorem dX5_faultInSwitch_37 : decode cX5_faultInSwitch 37 = .ok (.bipush 52, 2) := by decide +kernel
theorem dX5_faultInSwitch_39 : decode cX5_faultInSwitch 39 = .ok (.invokevirtual 41, 3) := by decide +kernel
theorem dX5_faultInSwitch_42 : decode cX5_faultInSwitch 42 = .ok (.ifCond .ne 7, 3) := by decide +kernel
theorem dX5_faultInSwitch_45 : decode cX5_faultInSwitch 45 = .ok (.iload_n 1, 1) := by decide +kernel
theorem dX5_faultInSwitch_46 : decode cX5_faultInSwitch 46 = .ok (.iconst 2, 1) := by decide +kernel
theorem dX5_faultInSwitch_47 : decode cX5_faultInSwitch 47 = .ok (.iadd, 1) := by decide +kernel
theorem dX5_faultInSwitch_48 : decode cX5_faultInSwitch 48 = .ok (.ireturn, 1) := by decide +kernel
theorem dX5_faultInSwitch_49 : decode cX5_faultInSwitch 49 = .ok (.iconst 0, 1) := by decide +kernel
theorem dX5_faultInSwitch_50 : decode cX5_faultInSwitch 50 = .ok (.istore_n 2, 1) := by decide +kernel
theorem dX5_faultInSwitch_51 : decode cX5_faultInSwitch 51 = .ok (.iload_n 2, 1) := by decide +kernel
theorem dX5_faultInSwitch_52 : decode cX5_faultInSwitch 52 = .ok (.aload_n 0, 1) := by decide +kernel
theorem dX5_faultInSwitch_53 : decode cX5_faultInSwitch 53 = .ok (.getfield 38, 3) := by decide +kernel
theorem dX5_faultInSwitch_56 : decode cX5_faultInSwitch 56 = .ok (.if_icmp .ge 31, 3) := by decide +kernel
theorem dX5_faultInSwitch_59 : decode cX5_faultInSwitch 59 = .ok (.aload_n 0, 1) := by decide +kernel
theorem dX5_faultInSwitch_60 : decode cX5_faultInSwitch 60 = .ok (.iload_n 1, 1) := by decide +kernel
theorem dX5_faultInSwitch_61 : decode cX5_faultInSwitch 61 = .ok (.iconst 3, 1) := by decide +kernel
theorem dX5_faultInSwitch_62 : decode cX5_faultInSwitch 62 = .ok (.iadd, 1) := by decide +kernel
theorem dX5_faultInSwitch_63 : decode cX5_faultInSwitch 63 = .ok (.iload_n 2, 1) := by decide +kernel
theorem dX5_faultInSwitch_64 : decode cX5_faultInSwitch 64 = .ok (.iadd, 1) := by decide +kernel
theorem dX5_faultInSwitch_65 : decode cX5_faultInSwitch 65 = .ok (.bipush 48, 2) := by decide +kernel
theorem dX5_faultInSwitch_67 : decode cX5_faultInSwitch 67 = .ok (.bipush 49, 2) := by decide +kernel
theorem dX5_faultInSwitch_69 : decode cX5_faultInSwitch 69 = .ok (.invokevirtual 41, 3) := by decide +kernel
theorem dX5_faultInSwitch_72 : decode cX5_faultInSwitch 72 = .ok (.ifCond .ne 9, 3) := by decide +kernel
theorem dX5_faultInSwitch_75 : decode cX5_faultInSwitch 75 = .ok (.iload_n 1, 1) := by decide +kernel
theorem dX5_faultInSwitch_76 : decode cX5_faultInSwitch 76 = .ok (.iconst 3, 1) := by decide +kernel
theorem dX5_faultInSwitch_77 : decode cX5_faultInSwitch 77 = .ok (.iadd, 1) := by decide +kernel
theorem dX5_faultInSwitch_78 : decode cX5_faultInSwitch 78 = .ok (.iload_n 2, 1) := by decide +kernel
theorem dX5_faultInSwitch_79 : decode cX5_faultInSwitch 79 = .ok (.iadd, 1) := by decide +kernel
theorem dX5_faultInSwitch_80 : decode cX5_faultInSwitch 80 = .ok (.ireturn, 1) := by decide +kernel
theorem dX5_faultInSwitch_81 : decode cX5_faultInSwitch 81 = .ok (.iinc 2 1, 3) := by decide +kernel
theorem dX5_faultInSwitch_84 : decode cX5_faultInSwitch 84 = .ok (.goto (-33), 3) := by decide +kernel
theorem dX5_faultInSwitch_87 : decode cX5_faultInSwitch 87 = .ok (.bipush (-9), 2) := by decide +kernel
theorem dX5_faultInSwitch_89 : decode cX5_faultInSwitch 89 = .ok (.ireturn, 1) := by decide +kernel
theorem dX5_kindOf_0 : decode cX5_kindOf 0 = .ok (.iload_n 0, 1) := by decide +kernel
theorem dX5_kindOf_1 : decode cX5_kindOf 1 = .ok (.lookupswitch 41 #[(98, 37), (100, 39), (112, 35)], 35) := by decide +kernel
theorem dX5_kindOf_36 : decode cX5_kindOf 36 = .ok (.iconst 0, 1) := by decide +kernel
theorem dX5_kindOf_37 : decode cX5_kindOf 37 = .ok (.ireturn, 1) := by decide +kernel
theorem dX5_kindOf_38 : decode cX5_kindOf 38 = .ok (.iconst 1, 1) := by decide +kernel
theorem dX5_kindOf_39 : decode cX5_kindOf 39 = .ok (.ireturn, 1) := by decide +kernel
theorem dX5_kindOf_40 : decode cX5_kindOf 40 = .ok (.iconst 2, 1) := by decide +kernel
theorem dX5_kindOf_41 : decode cX5_kindOf 41 = .ok (.ireturn, 1) := by decide +kernel
theorem dX5_kindOf_42 : decode cX5_kindOf 42 = .ok (.bipush (-9), 2) := by decide +kernel
theorem dX5_kindOf_44 : decode cX5_kindOf 44 = .ok (.ireturn, 1) := by decide +kernel
theorem dX5_layOut_0 : decode cX5_layOut 0 = .ok (.aload_n 1, 1) := by decide +kernel
theorem dX5_layOut_1 : decode cX5_layOut 1 = .ok (.aload_n 0, 1) := by decide +kernel
theorem dX5_layOut_2 : decode cX5_layOut 2 = .ok (.getfield 38, 3) := by decide +kernel
theorem dX5_layOut_5 : decode cX5_layOut 5 = .ok (.putfield 57, 3) := by decide +kernel
theorem dX5_layOut_8 : decode cX5_layOut 8 = .ok (.iconst 0, 1) := by decide +kernel
theorem dX5_layOut_9 : decode cX5_layOut 9 = .ok (.istore_n 2, 1) := by decide +kernel
theorem dX5_layOut_10 : decode cX5_layOut 10 = .ok (.iload_n 2, 1) := by decide +kernel
theorem dX5_layOut_11 : decode cX5_layOut 11 = .ok (.aload_n 0, 1) := by decide +kernel
theorem dX5_layOut_12 : decode cX5_layOut 12 = .ok (.getfield 38, 3) := by decide +kernel
theorem dX5_layOut_15 : decode cX5_layOut 15 = .ok (.if_icmp .ge 32, 3) := by decide +kernel
theorem dX5_layOut_18 : decode cX5_layOut 18 = .ok (.aload_n 1, 1) := by decide +kernel
theorem dX5_layOut_19 : decode cX5_layOut 19 = .ok (.getfield 60, 3) := by decide +kernel
theorem dX5_layOut_22 : decode cX5_layOut 22 = .ok (.iload_n 2, 1) := by decide +kernel
theorem dX5_layOut_23 : decode cX5_layOut 23 = .ok (.aload_n 0, 1) := by decide +kernel
theorem dX5_layOut_24 : decode cX5_layOut 24 = .ok (.iconst 1, 1) := by decide +kernel
theorem dX5_layOut_25 : decode cX5_layOut 25 = .ok (.iload_n 2, 1) := by decide +kernel
theorem dX5_layOut_26 : decode cX5_layOut 26 = .ok (.iadd, 1) := by decide +kernel
theorem dX5_layOut_27 : decode cX5_layOut 27 = .ok (.invokevirtual 31, 3) := by decide +kernel
theorem dX5_layOut_30 : decode cX5_layOut 30 = .ok (.bipush 48, 2) := by decide +kernel
theorem dX5_layOut_32 : decode cX5_layOut 32 = .ok (.isub, 1) := by decide +kernel
theorem dX5_layOut_33 : decode cX5_layOut 33 = .ok (.iastore, 1) := by decide +kernel
theorem dX5_layOut_34 : decode cX5_layOut 34 = .ok (.aload_n 1, 1) := by decide +kernel
theorem dX5_layOut_35 : decode cX5_layOut 35 = .ok (.getfield 63, 3) := by decide +kernel
theorem dX5_layOut_38 : decode cX5_layOut 38 = .ok (.iload_n 2, 1) := by decide +kernel
theorem dX5_layOut_39 : decode cX5_layOut 39 = .ok (.iconst 0, 1) := by decide +kernel
theorem dX5_layOut_40 : decode cX5_layOut 40 = .ok (.iastore, 1) := by decide +kernel
theorem dX5_layOut_41 : decode cX5_layOut 41 = .ok (.iinc 2 1, 3) := by decide +kernel
theorem dX5_layOut_44 : decode cX5_layOut 44 = .ok (.goto (-34), 3) := by decide +kernel
theorem dX5_layOut_47 : decode cX5_layOut 47 = .ok (.aload_n 1, 1) := by decide +kernel
theorem dX5_layOut_48 : decode cX5_layOut 48 = .ok (.aload_n 0, 1) := by decide +kernel
theorem dX5_layOut_49 : decode cX5_layOut 49 = .ok (.getfield 45, 3) := by decide +kernel
theorem dX5_layOut_52 : decode cX5_layOut 52 = .ok (.putfield 66, 3) := by decide +kernel
theorem dX5_layOut_55 : decode cX5_layOut 55 = .ok (.iconst 0, 1) := by decide +kernel
theorem dX5_layOut_56 : decode cX5_layOut 56 = .ok (.istore_n 2, 1) := by decide +kernel
theorem dX5_layOut_57 : decode cX5_layOut 57 = .ok (.iload_n 2, 1) := by decide +kernel
theorem dX5_layOut_58 : decode cX5_layOut 58 = .ok (.aload_n 0, 1) := by decide +kernel
theorem dX5_layOut_59 : decode cX5_layOut 59 = .ok (.getfield 45, 3) := by decide +kernel
theorem dX5_layOut_62 : decode cX5_layOut 62 = .ok (.if_icmp .ge 67, 3) := by decide +kernel
theorem dX5_layOut_65 : decode cX5_layOut 65 = .ok (.aload_n 0, 1) := by decide +kernel
theorem dX5_layOut_66 : decode cX5_layOut 66 = .ok (.iload_n 2, 1) := by decide +kernel
theorem dX5_layOut_67 : decode cX5_layOut 67 = .ok (.invokevirtual 48, 3) := by decide +kernel
theorem dX5_layOut_70 : decode cX5_layOut 70 = .ok (.istore_n 3, 1) := by decide +kernel
theorem dX5_layOut_71 : decode cX5_layOut 71 = .ok (.aload_n 1, 1) := by decide +kernel
theorem dX5_layOut_72 : decode cX5_layOut 72 = .ok (.getfield 67, 3) := by decide +kernel
theorem dX5_layOut_75 : decode cX5_layOut 75 = .ok (.iload_n 2, 1) := by decide +kernel
theorem dX5_layOut_76 : decode cX5_layOut 76 = .ok (.aload_n 0, 1) := by decide +kernel
theorem dX5_layOut_77 : decode cX5_layOut 77 = .ok (.iload_n 3, 1) := by decide +kernel
theorem dX5_layOut_78 : decode cX5_layOut 78 = .ok (.iconst 1, 1) := by decide +kernel
theorem dX5_layOut_79 : decode cX5_layOut 79 = .ok (.iadd, 1) := by decide +kernel
theorem dX5_layOut_80 : decode cX5_layOut 80 = .ok (.invokevirtual 31, 3) := by decide +kernel
theorem dX5_layOut_83 : decode cX5_layOut 83 = .ok (.invokestatic 54, 3) := by decide +kernel
theorem dX5_layOut_86 : decode cX5_layOut 86 = .ok (.iastore, 1) := by decide +kernel
theorem dX5_layOut_87 : decode cX5_layOut 87 = .ok (.aload_n 1, 1) := by decide +kernel
theorem dX5_layOut_88 : decode cX5_layOut 88 = .ok (.getfield 70, 3) := by decide +kernel
theorem dX5_layOut_91 : decode cX5_layOut 91 = .ok (.iload_n 2, 1) := by decide +kernel
theorem dX5_layOut_92 : decode cX5_layOut 92 = .ok (.aload_n 0, 1) := by decide +kernel
theorem dX5_layOut_93 : decode cX5_layOut 93 = .ok (.iload_n 3, 1) := by decide +kernel
theorem dX5_layOut_94 : decode cX5_layOut 94 = .ok (.iconst 2, 1) := by decide +kernel
theorem dX5_layOut_95 : decode cX5_layOut 95 = .ok (.iadd, 1) := by decide +kernel
theorem dX5_layOut_96 : decode cX5_layOut 96 = .ok (.invokevirtual 31, 3) := by decide +kernel
theorem dX5_layOut_99 : decode cX5_layOut 99 = .ok (.bipush 48, 2) := by decide +kernel
theorem dX5_layOut_101 : decode cX5_layOut 101 = .ok (.isub, 1) := by decide +kernel
theorem dX5_layOut_102 : decode cX5_layOut 102 = .ok (.iastore, 1) := by decide +kernel
theorem dX5_layOut_103 : decode cX5_layOut 103 = .ok (.aload_n 1, 1) := by decide +kernel
theorem dX5_layOut_104 : decode cX5_layOut 104 = .ok (.getfield 73, 3) := by decide +kernel
theorem dX5_layOut_107 : decode cX5_layOut 107 = .ok (.iload_n 2, 1) := by decide +kernel
theorem dX5_layOut_108 : decode cX5_layOut 108 = .ok (.aload_n 0, 1) := by decide +kernel
theorem dX5_layOut_109 : decode cX5_layOut 109 = .ok (.iload_n 3, 1) := by decide +kernel
theorem dX5_layOut_110 : decode cX5_layOut 110 = .ok (.iconst 3, 1) := by decide +kernel
theorem dX5_layOut_111 : decode cX5_layOut 111 = .ok (.iadd, 1) := by decide +kernel
theorem dX5_layOut_112 : decode cX5_layOut 112 = .ok (.invokevirtual 76, 3) := by decide +kernel
theorem dX5_layOut_115 : decode cX5_layOut 115 = .ok (.iastore, 1) := by decide +kernel
theorem dX5_layOut_116 : decode cX5_layOut 116 = .ok (.aload_n 1, 1) := by decide +kernel
theorem dX5_layOut_117 : decode cX5_layOut 117 = .ok (.getfield 79, 3) := by decide +kernel
theorem dX5_layOut_120 : decode cX5_layOut 120 = .ok (.iload_n 2, 1) := by decide +kernel
theorem dX5_layOut_121 : decode cX5_layOut 121 = .ok (.iconst 0, 1) := by decide +kernel
theorem dX5_layOut_122 : decode cX5_layOut 122 = .ok (.iastore, 1) := by decide +kernel
theorem dX5_layOut_123 : decode cX5_layOut 123 = .ok (.iinc 2 1, 3) := by decide +kernel
theorem dX5_layOut_126 : decode cX5_layOut 126 = .ok (.goto (-69), 3) := by decide +kernel
theorem dX5_layOut_129 : decode cX5_layOut 129 = .ok (.return_, 1) := by decide +kernel
theorem dX5_wiresFrom_0 : decode cX5_wiresFrom 0 = .ok (.iconst 0, 1) := by decide +kernel
theorem dX5_wiresFrom_1 : decode cX5_wiresFrom 1 = .ok (.istore_n 2, 1) := by decide +kernel
theorem dX5_wiresFrom_2 : decode cX5_wiresFrom 2 = .ok (.iconst 0, 1) := by decide +kernel
theorem dX5_wiresFrom_3 : decode cX5_wiresFrom 3 = .ok (.istore_n 3, 1) := by decide +kernel
theorem dX5_wiresFrom_4 : decode cX5_wiresFrom 4 = .ok (.iload_n 3, 1) := by decide +kernel
theorem dX5_wiresFrom_5 : decode cX5_wiresFrom 5 = .ok (.aload_n 0, 1) := by decide +kernel
theorem dX5_wiresFrom_6 : decode cX5_wiresFrom 6 = .ok (.getfield 38, 3) := by decide +kernel
theorem dX5_wiresFrom_9 : decode cX5_wiresFrom 9 = .ok (.if_icmp .ge 27, 3) := by decide +kernel
theorem dX5_wiresFrom_12 : decode cX5_wiresFrom 12 = .ok (.aload_n 0, 1) := by decide +kernel
theorem dX5_wiresFrom_13 : decode cX5_wiresFrom 13 = .ok (.iload_n 1, 1) := by decide +kernel
theorem dX5_wiresFrom_14 : decode cX5_wiresFrom 14 = .ok (.iload_n 3, 1) := by decide +kernel
theorem dX5_wiresFrom_15 : decode cX5_wiresFrom 15 = .ok (.iadd, 1) := by decide +kernel
theorem dX5_wiresFrom_16 : decode cX5_wiresFrom 16 = .ok (.invokevirtual 31, 3) := by decide +kernel
theorem dX5_wiresFrom_19 : decode cX5_wiresFrom 19 = .ok (.bipush 49, 2) := by decide +kernel
theorem dX5_wiresFrom_21 : decode cX5_wiresFrom 21 = .ok (.if_icmp .ne 9, 3) := by decide +kernel
theorem dX5_wiresFrom_24 : decode cX5_wiresFrom 24 = .ok (.iload_n 2, 1) := by decide +kernel
theorem dX5_wiresFrom_25 : decode cX5_wiresFrom 25 = .ok (.iconst 1, 1) := by decide +kernel
theorem dX5_wiresFrom_26 : decode cX5_wiresFrom 26 = .ok (.iload_n 3, 1) := by decide +kernel
theorem dX5_wiresFrom_27 : decode cX5_wiresFrom 27 = .ok (.ishl, 1) := by decide +kernel
theorem dX5_wiresFrom_28 : decode cX5_wiresFrom 28 = .ok (.ior, 1) := by decide +kernel
theorem dX5_wiresFrom_29 : decode cX5_wiresFrom 29 = .ok (.istore_n 2, 1) := by decide +kernel
theorem dX5_wiresFrom_30 : decode cX5_wiresFrom 30 = .ok (.iinc 3 1, 3) := by decide +kernel
theorem dX5_wiresFrom_33 : decode cX5_wiresFrom 33 = .ok (.goto (-29), 3) := by decide +kernel
theorem dX5_wiresFrom_36 : decode cX5_wiresFrom 36 = .ok (.iload_n 2, 1) := by decide +kernel
theorem dX5_wiresFrom_37 : decode cX5_wiresFrom 37 = .ok (.ireturn, 1) := by decide +kernel
theorem dX6_init_0 : decode cX6_init 0 = .ok (.aload_n 0, 1) := by decide +kernel
theorem dX6_init_1 : decode cX6_init 1 = .ok (.invokespecial 5, 3) := by decide +kernel
theorem dX6_init_4 : decode cX6_init 4 = .ok (.aload_n 0, 1) := by decide +kernel
theorem dX6_init_5 : decode cX6_init 5 = .ok (.new 11, 3) := by decide +kernel
theorem dX6_init_8 : decode cX6_init 8 = .ok (.dup, 1) := by decide +kernel
theorem dX6_init_9 : decode cX6_init 9 = .ok (.invokespecial 13, 3) := by decide +kernel
theorem dX6_init_12 : decode cX6_init 12 = .ok (.putfield 14, 3) := by decide +kernel
theorem dX6_init_15 : decode cX6_init 15 = .ok (.aload_n 0, 1) := by decide +kernel
theorem dX6_init_16 : decode cX6_init 16 = .ok (.new 18, 3) := by decide +kernel
theorem dX6_init_19 : decode cX6_init 19 = .ok (.dup, 1) := by decide +kernel
theorem dX6_init_20 : decode cX6_init 20 = .ok (.invokespecial 20, 3) := by decide +kernel
theorem dX6_init_23 : decode cX6_init 23 = .ok (.putfield 21, 3) := by decide +kernel
theorem dX6_init_26 : decode cX6_init 26 = .ok (.aload_n 0, 1) := by decide +kernel
theorem dX6_init_27 : decode cX6_init 27 = .ok (.new 25, 3) := by decide +kernel
theorem dX6_init_30 : decode cX6_init 30 = .ok (.dup, 1) := by decide +kernel
theorem dX6_init_31 : decode cX6_init 31 = .ok (.invokespecial 27, 3) := by decide +kernel
theorem dX6_init_34 : decode cX6_init 34 = .ok (.putfield 28, 3) := by decide +kernel
theorem dX6_init_37 : decode cX6_init 37 = .ok (.aload_n 0, 1) := by decide +kernel
theorem dX6_init_38 : decode cX6_init 38 = .ok (.new 32, 3) := by decide +kernel
theorem dX6_init_41 : decode cX6_init 41 = .ok (.dup, 1) := by decide +kernel
theorem dX6_init_42 : decode cX6_init 42 = .ok (.invokespecial 34, 3) := by decide +kernel
theorem dX6_init_45 : decode cX6_init 45 = .ok (.putfield 35, 3) := by decide +kernel
theorem dX6_init_48 : decode cX6_init 48 = .ok (.aload_n 0, 1) := by decide +kernel
theorem dX6_init_49 : decode cX6_init 49 = .ok (.new 39, 3) := by decide +kernel
theorem dX6_init_52 : decode cX6_init 52 = .ok (.dup, 1) := by decide +kernel
theorem dX6_init_53 : decode cX6_init 53 = .ok (.invokespecial 41, 3) := by decide +kernel
theorem dX6_init_56 : decode cX6_init 56 = .ok (.putfield 42, 3) := by decide +kernel
theorem dX6_init_59 : decode cX6_init 59 = .ok (.aload_n 0, 1) := by decide +kernel
theorem dX6_init_60 : decode cX6_init 60 = .ok (.iconst 4, 1) := by decide +kernel
theorem dX6_init_61 : decode cX6_init 61 = .ok (.anewarray 46, 3) := by decide +kernel
theorem dX6_init_64 : decode cX6_init 64 = .ok (.putfield 48, 3) := by decide +kernel
theorem dX6_init_67 : decode cX6_init 67 = .ok (.aload_n 0, 1) := by decide +kernel
theorem dX6_init_68 : decode cX6_init 68 = .ok (.iconst 5, 1) := by decide +kernel
theorem dX6_init_69 : decode cX6_init 69 = .ok (.newarray .int, 2) := by decide +kernel
theorem dX6_init_71 : decode cX6_init 71 = .ok (.putfield 52, 3) := by decide +kernel
theorem dX6_init_74 : decode cX6_init 74 = .ok (.iconst 0, 1) := by decide +kernel
theorem dX6_init_75 : decode cX6_init 75 = .ok (.istore_n 1, 1) := by decide +kernel
theorem dX6_init_76 : decode cX6_init 76 = .ok (.iload_n 1, 1) := by decide +kernel
theorem dX6_init_77 : decode cX6_init 77 = .ok (.iconst 4, 1) := by decide +kernel
theorem dX6_init_78 : decode cX6_init 78 = .ok (.if_icmp .ge 22, 3) := by decide +kernel
theorem dX6_init_81 : decode cX6_init 81 = .ok (.aload_n 0, 1) := by decide +kernel
theorem dX6_init_82 : decode cX6_init 82 = .ok (.getfield 48, 3) := by decide +kernel
theorem dX6_init_85 : decode cX6_init 85 = .ok (.iload_n 1, 1) := by decide +kernel
theorem dX6_init_86 : decode cX6_init 86 = .ok (.new 46, 3) := by decide +kernel
theorem dX6_init_89 : decode cX6_init 89 = .ok (.dup, 1) := by decide +kernel
theorem dX6_init_90 : decode cX6_init 90 = .ok (.invokespecial 56, 3) := by decide +kernel
theorem dX6_init_93 : decode cX6_init 93 = .ok (.aastore, 1) := by decide +kernel
theorem dX6_init_94 : decode cX6_init 94 = .ok (.iinc 1 1, 3) := by decide +kernel
theorem dX6_init_97 : decode cX6_init 97 = .ok (.goto (-21), 3) := by decide +kernel
theorem dX6_init_100 : decode cX6_init 100 = .ok (.return_, 1) := by decide +kernel
theorem dX6_hall_0 : decode cX6_hall 0 = .ok (.aload_n 0, 1) := by decide +kernel
theorem dX6_hall_1 : decode cX6_hall 1 = .ok (.iconst 0, 1) := by decide +kernel
theorem dX6_hall_2 : decode cX6_hall 2 = .ok (.putfield 57, 3) := by decide +kernel
theorem dX6_hall_5 : decode cX6_hall 5 = .ok (.aload_n 0, 1) := by decide +kernel
theorem dX6_hall_6 : decode cX6_hall 6 = .ok (.iload_n 1, 1) := by decide +kernel
theorem dX6_hall_7 : decode cX6_hall 7 = .ok (.invokevirtual 61, 3) := by decide +kernel
theorem dX6_hall_10 : decode cX6_hall 10 = .ok (.astore 5, 2) := by decide +kernel
theorem dX6_hall_12 : decode cX6_hall 12 = .ok (.aload 5, 2) := by decide +kernel
theorem dX6_hall_14 : decode cX6_hall 14 = .ok (.ifnonnull 5, 3) := by decide +kernel
theorem dX6_hall_17 : decode cX6_hall 17 = .ok (.iconst (-1), 1) := by decide +kernel
theorem dX6_hall_18 : decode cX6_hall 18 = .ok (.ireturn, 1) := by decide +kernel
theorem dX6_hall_19 : decode cX6_hall 19 = .ok (.iload_n 2, 1) := by decide +kernel
theorem dX6_hall_20 : decode cX6_hall 20 = .ok (.invokestatic 65, 3) := by decide +kernel
theorem dX6_hall_23 : decode cX6_hall 23 = .ok (.ifCond .ne 6, 3) := by decide +kernel
theorem dX6_hall_26 : decode cX6_hall 26 = .ok (.bipush (-2), 2) := by decide +kernel
theorem dX6_hall_28 : decode cX6_hall 28 = .ok (.ireturn, 1) := by decide +kernel
theorem dX6_hall_29 : decode cX6_hall 29 = .ok (.aload 5, 2) := by decide +kernel
theorem dX6_hall_31 : decode cX6_hall 31 = .ok (.iload_n 2, 1) := by decide +kernel
theorem dX6_hall_32 : decode cX6_hall 32 = .ok (.invokevirtual 69, 3) := by decide +kernel
theorem dX6_hall_35 : decode cX6_hall 35 = .ok (.istore 6, 2) := by decide +kernel
theorem dX6_hall_37 : decode cX6_hall 37 = .ok (.iload 6, 2) := by decide +kernel
theorem dX6_hall_39 : decode cX6_hall 39 = .ok (.ifCond .ne 11, 3) := by decide +kernel
theorem dX6_hall_42 : decode cX6_hall 42 = .ok (.iload 4, 2) := by decide +kernel
theorem dX6_hall_44 : decode cX6_hall 44 = .ok (.ifCond .ge 6, 3) := by decide +kernel
theorem dX6_hall_47 : decode cX6_hall 47 = .ok (.iconst 4, 1) := by decide +kernel
theorem dX6_hall_48 : decode cX6_hall 48 = .ok (.istore 6, 2) := by decide +kernel
theorem dX6_hall_50 : decode cX6_hall 50 = .ok (.iload 6, 2) := by decide +kernel
theorem dX6_hall_52 : decode cX6_hall 52 = .ok (.ifCond .ne 17, 3) := by decide +kernel
theorem dX6_hall_55 : decode cX6_hall 55 = .ok (.aload 5, 2) := by decide +kernel
theorem dX6_hall_57 : decode cX6_hall 57 = .ok (.iload_n 3, 1) := by decide +kernel
theorem dX6_hall_58 : decode cX6_hall 58 = .ok (.iload 4, 2) := by decide +kernel
theorem dX6_hall_60 : decode cX6_hall 60 = .ok (.invokevirtual 73, 3) := by decide +kernel
theorem dX6_hall_63 : decode cX6_hall 63 = .ok (.ifCond .ne 6, 3) := by decide +kernel
theorem dX6_hall_66 : decode cX6_hall 66 = .ok (.iconst 3, 1) := by decide +kernel
theorem dX6_hall_67 : decode cX6_hall 67 = .ok (.istore 6, 2) := by decide +kernel
theorem dX6_hall_69 : decode cX6_hall 69 = .ok (.iload 6, 2) := by decide +kernel
theorem dX6_hall_71 : decode cX6_hall 71 = .ok (.ifCond .eq 10, 3) := by decide +kernel
theorem dX6_hall_74 : decode cX6_hall 74 = .ok (.aload_n 0, 1) := by decide +kernel
theorem dX6_hall_75 : decode cX6_hall 75 = .ok (.iload 6, 2) := by decide +kernel
theorem dX6_hall_77 : decode cX6_hall 77 = .ok (.invokevirtual 77, 3) := by decide +kernel
theorem dX6_hall_80 : decode cX6_hall 80 = .ok (.ireturn, 1) := by decide +kernel
theorem dX6_hall_81 : decode cX6_hall 81 = .ok (.aload_n 0, 1) := by decide +kernel
theorem dX6_hall_82 : decode cX6_hall 82 = .ok (.getfield 21, 3) := by decide +kernel
theorem dX6_hall_85 : decode cX6_hall 85 = .ok (.aload 5, 2) := by decide +kernel
theorem dX6_hall_87 : decode cX6_hall 87 = .ok (.iload_n 3, 1) := by decide +kernel
theorem dX6_hall_88 : decode cX6_hall 88 = .ok (.iload 4, 2) := by decide +kernel
theorem dX6_hall_90 : decode cX6_hall 90 = .ok (.invokevirtual 80, 3) := by decide +kernel
theorem dX6_hall_93 : decode cX6_hall 93 = .ok (.aload_n 0, 1) := by decide +kernel
theorem dX6_hall_94 : decode cX6_hall 94 = .ok (.getfield 21, 3) := by decide +kernel
theorem dX6_hall_97 : decode cX6_hall 97 = .ok (.invokevirtual 84, 3) := by decide +kernel
theorem dX6_hall_100 : decode cX6_hall 100 = .ok (.istore 7, 2) := by decide +kernel
theorem dX6_hall_102 : decode cX6_hall 102 = .ok (.iload 7, 2) := by decide +kernel
theorem dX6_hall_104 : decode cX6_hall 104 = .ok (.bipush (-9), 2) := by decide +kernel
theorem dX6_hall_106 : decode cX6_hall 106 = .ok (.if_icmp .eq 9, 3) := by decide +kernel
theorem dX6_hall_109 : decode cX6_hall 109 = .ok (.bipush (-100), 2) := by decide +kernel
theorem dX6_hall_111 : decode cX6_hall 111 = .ok (.iload 7, 2) := by decide +kernel
theorem dX6_hall_113 : decode cX6_hall 113 = .ok (.isub, 1) := by decide +kernel
theorem dX6_hall_114 : decode cX6_hall 114 = .ok (.ireturn, 1) := by decide +kernel
theorem dX6_hall_115 : decode cX6_hall 115 = .ok (.aload_n 0, 1) := by decide +kernel
theorem dX6_hall_116 : decode cX6_hall 116 = .ok (.getfield 21, 3) := by decide +kernel
theorem dX6_hall_119 : decode cX6_hall 119 = .ok (.aload_n 0, 1) := by decide +kernel
theorem dX6_hall_120 : decode cX6_hall 120 = .ok (.getfield 14, 3) := by decide +kernel
theorem dX6_hall_123 : decode cX6_hall 123 = .ok (.invokevirtual 88, 3) := by decide +kernel
theorem dX6_hall_126 : decode cX6_hall 126 = .ok (.aload_n 0, 1) := by decide +kernel
theorem dX6_hall_127 : decode cX6_hall 127 = .ok (.getfield 35, 3) := by decide +kernel
theorem dX6_hall_130 : decode cX6_hall 130 = .ok (.iconst 0, 1) := by decide +kernel
theorem dX6_hall_131 : decode cX6_hall 131 = .ok (.putfield 92, 3) := by decide +kernel
theorem dX6_hall_134 : decode cX6_hall 134 = .ok (.aload_n 0, 1) := by decide +kernel
theorem dX6_hall_135 : decode cX6_hall 135 = .ok (.getfield 28, 3) := by decide +kernel
theorem dX6_hall_138 : decode cX6_hall 138 = .ok (.invokevirtual 95, 3) := by decide +kernel
theorem dX6_hall_141 : decode cX6_hall 141 = .ok (.aload_n 0, 1) := by decide +kernel
theorem dX6_hall_142 : decode cX6_hall 142 = .ok (.getfield 14, 3) := by decide +kernel
theorem dX6_hall_145 : decode cX6_hall 145 = .ok (.getfield 98, 3) := by decide +kernel
theorem dX6_hall_148 : decode cX6_hall 148 = .ok (.ireturn, 1) := by decide +kernel
theorem dX6_ofLamp_0 : decode cX6_ofLamp 0 = .ok (.aload_n 0, 1) := by decide +kernel
theorem dX6_ofLamp_1 : decode cX6_ofLamp 1 = .ok (.getfield 14, 3) := by decide +kernel
theorem dX6_ofLamp_4 : decode cX6_ofLamp 4 = .ok (.iload_n 1, 1) := by decide +kernel
theorem dX6_ofLamp_5 : decode cX6_ofLamp 5 = .ok (.invokevirtual 101, 3) := by decide +kernel
theorem dX6_ofLamp_8 : decode cX6_ofLamp 8 = .ok (.ifCond .ne 5, 3) := by decide +kernel
theorem dX6_ofLamp_11 : decode cX6_ofLamp 11 = .ok (.iconst (-1), 1) := by decide +kernel
theorem dX6_ofLamp_12 : decode cX6_ofLamp 12 = .ok (.ireturn, 1) := by decide +kernel
theorem dX6_ofLamp_13 : decode cX6_ofLamp 13 = .ok (.iload_n 2, 1) := by decide +kernel
theorem dX6_ofLamp_14 : decode cX6_ofLamp 14 = .ok (.tableswitch 55 0 2 #[26, 36, 46], 26) := by decide +kernel
theorem dX6_ofLamp_40 : decode cX6_ofLamp 40 = .ok (.aload_n 0, 1) := by decide +kernel
theorem dX6_ofLamp_41 : decode cX6_ofLamp 41 = .ok (.getfield 14, 3) := by decide +kernel
theorem dX6_ofLamp_44 : decode cX6_ofLamp 44 = .ok (.getfield 104, 3) := by decide +kernel
theorem dX6_ofLamp_47 : decode cX6_ofLamp 47 = .ok (.iload_n 1, 1) := by decide +kernel
theorem dX6_ofLamp_48 : decode cX6_ofLamp 48 = .ok (.iaload, 1) := by decide +kernel
theorem dX6_ofLamp_49 : decode cX6_ofLamp 49 = .ok (.ireturn, 1) := by decide +kernel
theorem dX6_ofLamp_50 : decode cX6_ofLamp 50 = .ok (.aload_n 0, 1) := by decide +kernel
theorem dX6_ofLamp_51 : decode cX6_ofLamp 51 = .ok (.getfield 14, 3) := by decide +kernel
theorem dX6_ofLamp_54 : decode cX6_ofLamp 54 = .ok (.getfield 107, 3) := by decide +kernel
theorem dX6_ofLamp_57 : decode cX6_ofLamp 57 = .ok (.iload_n 1, 1) := by decide +kernel
theorem dX6_ofLamp_58 : decode cX6_ofLamp 58 = .ok (.iaload, 1) := by decide +kernel
theorem dX6_ofLamp_59 : decode cX6_ofLamp 59 = .ok (.ireturn, 1) := by decide +kernel
theorem dX6_ofLamp_60 : decode cX6_ofLamp 60 = .ok (.aload_n 0, 1) := by decide +kernel
theorem dX6_ofLamp_61 : decode cX6_ofLamp 61 = .ok (.getfield 14, 3) := by decide +kernel
theorem dX6_ofLamp_64 : decode cX6_ofLamp 64 = .ok (.iload_n 1, 1) := by decide +kernel
theorem dX6_ofLamp_65 : decode cX6_ofLamp 65 = .ok (.invokevirtual 110, 3) := by decide +kernel
theorem dX6_ofLamp_68 : decode cX6_ofLamp 68 = .ok (.ireturn, 1) := by decide +kernel
theorem dX6_ofLamp_69 : decode cX6_ofLamp 69 = .ok (.bipush (-2), 2) := by decide +kernel
theorem dX6_ofLamp_71 : decode cX6_ofLamp 71 = .ok (.ireturn, 1) := by decide +kernel
theorem dX6_ofSwitch_0 : decode cX6_ofSwitch 0 = .ok (.aload_n 0, 1) := by decide +kernel
theorem dX6_ofSwitch_1 : decode cX6_ofSwitch 1 = .ok (.getfield 14, 3) := by decide +kernel
theorem dX6_ofSwitch_4 : decode cX6_ofSwitch 4 = .ok (.iload_n 1, 1) := by decide +kernel
theorem dX6_ofSwitch_5 : decode cX6_ofSwitch 5 = .ok (.invokevirtual 113, 3) := by decide +kernel
theorem dX6_ofSwitch_8 : decode cX6_ofSwitch 8 = .ok (.ifCond .ne 5, 3) := by decide +kernel
theorem dX6_ofSwitch_11 : decode cX6_ofSwitch 11 = .ok (.iconst (-1), 1) := by decide +kernel
theorem dX6_ofSwitch_12 : decode cX6_ofSwitch 12 = .ok (.ireturn, 1) := by decide +kernel
theorem dX6_ofSwitch_13 : decode cX6_ofSwitch 13 = .ok (.iload_n 2, 1) := by decide +kernel
theorem dX6_ofSwitch_14 : decode cX6_ofSwitch 14 = .ok (.tableswitch 83 0 4 #[34, 44, 54, 63, 73], 34) := by decide +kernel
theorem dX6_ofSwitch_48 : decode cX6_ofSwitch 48 = .ok (.aload_n 0, 1) := by decide +kernel
theorem dX6_ofSwitch_49 : decode cX6_ofSwitch 49 = .ok (.getfield 14, 3) := by decide +kernel
theorem dX6_ofSwitch_52 : decode cX6_ofSwitch 52 = .ok (.getfield 116, 3) := by decide +kernel
theorem dX6_ofSwitch_55 : decode cX6_ofSwitch 55 = .ok (.iload_n 1, 1) := by decide +kernel
theorem dX6_ofSwitch_56 : decode cX6_ofSwitch 56 = .ok (.iaload, 1) := by decide +kernel
theorem dX6_ofSwitch_57 : decode cX6_ofSwitch 57 = .ok (.ireturn, 1) := by decide +kernel
theorem dX6_ofSwitch_58 : decode cX6_ofSwitch 58 = .ok (.aload_n 0, 1) := by decide +kernel
theorem dX6_ofSwitch_59 : decode cX6_ofSwitch 59 = .ok (.getfield 14, 3) := by decide +kernel
theorem dX6_ofSwitch_62 : decode cX6_ofSwitch 62 = .ok (.getfield 119, 3) := by decide +kernel
theorem dX6_ofSwitch_65 : decode cX6_ofSwitch 65 = .ok (.iload_n 1, 1) := by decide +kernel
theorem dX6_ofSwitch_66 : decode cX6_ofSwitch 66 = .ok (.iaload, 1) := by decide +kernel
theorem dX6_ofSwitch_67 : decode cX6_ofSwitch 67 = .ok (.ireturn, 1) := by decide +kernel
theorem dX6_ofSwitch_68 : decode cX6_ofSwitch 68 = .ok (.aload_n 0, 1) := by decide +kernel
theorem dX6_ofSwitch_69 : decode cX6_ofSwitch 69 = .ok (.getfield 14, 3) := by decide +kernel
theorem dX6_ofSwitch_72 : decode cX6_ofSwitch 72 = .ok (.iload_n 1, 1) := by decide +kernel
theorem dX6_ofSwitch_73 : decode cX6_ofSwitch 73 = .ok (.invokevirtual 122, 3) := by decide +kernel
theorem dX6_ofSwitch_76 : decode cX6_ofSwitch 76 = .ok (.ireturn, 1) := by decide +kernel
theorem dX6_ofSwitch_77 : decode cX6_ofSwitch 77 = .ok (.aload_n 0, 1) := by decide +kernel
theorem dX6_ofSwitch_78 : decode cX6_ofSwitch 78 = .ok (.getfield 14, 3) := by decide +kernel
theorem dX6_ofSwitch_81 : decode cX6_ofSwitch 81 = .ok (.getfield 125, 3) := by decide +kernel
theorem dX6_ofSwitch_84 : decode cX6_ofSwitch 84 = .ok (.iload_n 1, 1) := by decide +kernel
theorem dX6_ofSwitch_85 : decode cX6_ofSwitch 85 = .ok (.iaload, 1) := by decide +kernel
theorem dX6_ofSwitch_86 : decode cX6_ofSwitch 86 = .ok (.ireturn, 1) := by decide +kernel
theorem dX6_ofSwitch_87 : decode cX6_ofSwitch 87 = .ok (.aload_n 0, 1) := by decide +kernel
theorem dX6_ofSwitch_88 : decode cX6_ofSwitch 88 = .ok (.getfield 14, 3) := by decide +kernel
theorem dX6_ofSwitch_91 : decode cX6_ofSwitch 91 = .ok (.getfield 128, 3) := by decide +kernel
theorem dX6_ofSwitch_94 : decode cX6_ofSwitch 94 = .ok (.iload_n 1, 1) := by decide +kernel
theorem dX6_ofSwitch_95 : decode cX6_ofSwitch 95 = .ok (.iaload, 1) := by decide +kernel
theorem dX6_ofSwitch_96 : decode cX6_ofSwitch 96 = .ok (.ireturn, 1) := by decide +kernel
theorem dX6_ofSwitch_97 : decode cX6_ofSwitch 97 = .ok (.bipush (-2), 2) := by decide +kernel
theorem dX6_ofSwitch_99 : decode cX6_ofSwitch 99 = .ok (.ireturn, 1) := by decide +kernel
theorem dX6_shade_0 : decode cX6_shade 0 = .ok (.aload_n 0, 1) := by decide +kernel
theorem dX6_shade_1 : decode cX6_shade 1 = .ok (.getfield 14, 3) := by decide +kernel
theorem dX6_shade_4 : decode cX6_shade 4 = .ok (.iload_n 1, 1) := by decide +kernel
theorem dX6_shade_5 : decode cX6_shade 5 = .ok (.invokevirtual 101, 3) := by decide +kernel
theorem dX6_shade_8 : decode cX6_shade 8 = .ok (.ifCond .ne 5, 3) := by decide +kernel
theorem dX6_shade_11 : decode cX6_shade 11 = .ok (.iconst (-1), 1) := by decide +kernel
theorem dX6_shade_12 : decode cX6_shade 12 = .ok (.ireturn, 1) := by decide +kernel
theorem dX6_shade_13 : decode cX6_shade 13 = .ok (.aload_n 0, 1) := by decide +kernel
theorem dX6_shade_14 : decode cX6_shade 14 = .ok (.getfield 14, 3) := by decide +kernel
theorem dX6_shade_17 : decode cX6_shade 17 = .ok (.iload_n 1, 1) := by decide +kernel
theorem dX6_shade_18 : decode cX6_shade 18 = .ok (.iload_n 2, 1) := by decide +kernel
theorem dX6_shade_19 : decode cX6_shade 19 = .ok (.invokevirtual 131, 3) := by decide +kernel
theorem dX6_shade_22 : decode cX6_shade 22 = .ok (.ifCond .ne 6, 3) := by decide +kernel
theorem dX6_shade_25 : decode cX6_shade 25 = .ok (.bipush (-2), 2) := by decide +kernel
theorem dX6_shade_27 : decode cX6_shade 27 = .ok (.ireturn, 1) := by decide +kernel
theorem dX6_shade_28 : decode cX6_shade 28 = .ok (.aload_n 0, 1) := by decide +kernel
theorem dX6_shade_29 : decode cX6_shade 29 = .ok (.getfield 14, 3) := by decide +kernel
theorem dX6_shade_32 : decode cX6_shade 32 = .ok (.getfield 107, 3) := by decide +kernel
theorem dX6_shade_35 : decode cX6_shade 35 = .ok (.iload_n 1, 1) := by decide +kernel
theorem dX6_shade_36 : decode cX6_shade 36 = .ok (.iaload, 1) := by decide +kernel
theorem dX6_shade_37 : decode cX6_shade 37 = .ok (.istore_n 3, 1) := by decide +kernel
theorem dX6_shade_38 : decode cX6_shade 38 = .ok (.aload_n 0, 1) := by decide +kernel
theorem dX6_shade_39 : decode cX6_shade 39 = .ok (.getfield 14, 3) := by decide +kernel
theorem dX6_shade_42 : decode cX6_shade 42 = .ok (.getfield 107, 3) := by decide +kernel
theorem dX6_shade_45 : decode cX6_shade 45 = .ok (.iload_n 1, 1) := by decide +kernel
theorem dX6_shade_46 : decode cX6_shade 46 = .ok (.iload_n 2, 1) := by decide +kernel
theorem dX6_shade_47 : decode cX6_shade 47 = .ok (.iastore, 1) := by decide +kernel
theorem dX6_shade_48 : decode cX6_shade 48 = .ok (.iload_n 3, 1) := by decide +kernel
theorem dX6_shade_49 : decode cX6_shade 49 = .ok (.ireturn, 1) := by decide +kernel
theorem dX6_turn_0 : decode cX6_turn 0 = .ok (.aload_n 0, 1) := by decide +kernel
theorem dX6_turn_1 : decode cX6_turn 1 = .ok (.getfield 14, 3) := by decide +kernel
theorem dX6_turn_4 : decode cX6_turn 4 = .ok (.iload_n 1, 1) := by decide +kernel
theorem dX6_turn_5 : decode cX6_turn 5 = .ok (.invokevirtual 113, 3) := by decide +kernel
theorem dX6_turn_8 : decode cX6_turn 8 = .ok (.ifCond .ne 5, 3) := by decide +kernel
theorem dX6_turn_11 : decode cX6_turn 11 = .ok (.iconst (-1), 1) := by decide +kernel
theorem dX6_turn_12 : decode cX6_turn 12 = .ok (.ireturn, 1) := by decide +kernel
theorem dX6_turn_13 : decode cX6_turn 13 = .ok (.iload_n 2, 1) := by decide +kernel
theorem dX6_turn_14 : decode cX6_turn 14 = .ok (.iconst 1, 1) := by decide +kernel
theorem dX6_turn_15 : decode cX6_turn 15 = .ok (.iconst 4, 1) := by decide +kernel
theorem dX6_turn_16 : decode cX6_turn 16 = .ok (.invokestatic 134, 3) := by decide +kernel
theorem dX6_turn_19 : decode cX6_turn 19 = .ok (.ifCond .ne 6, 3) := by decide +kernel
theorem dX6_turn_22 : decode cX6_turn 22 = .ok (.bipush (-2), 2) := by decide +kernel
theorem dX6_turn_24 : decode cX6_turn 24 = .ok (.ireturn, 1) := by decide +kernel
theorem dX6_turn_25 : decode cX6_turn 25 = .ok (.aload_n 0, 1) := by decide +kernel
theorem dX6_turn_26 : decode cX6_turn 26 = .ok (.getfield 14, 3) := by decide +kernel
theorem dX6_turn_29 : decode cX6_turn 29 = .ok (.getfield 119, 3) := by decide +kernel
theorem dX6_turn_32 : decode cX6_turn 32 = .ok (.iload_n 1, 1) := by decide +kernel
theorem dX6_turn_33 : decode cX6_turn 33 = .ok (.iaload, 1) := by decide +kernel
theorem dX6_turn_34 : decode cX6_turn 34 = .ok (.istore_n 3, 1) := by decide +kernel
theorem dX6_turn_35 : decode cX6_turn 35 = .ok (.aload_n 0, 1) := by decide +kernel
theorem dX6_turn_36 : decode cX6_turn 36 = .ok (.getfield 14, 3) := by decide +kernel
theorem dX6_turn_39 : decode cX6_turn 39 = .ok (.getfield 119, 3) := by decide +kernel
theorem dX6_turn_42 : decode cX6_turn 42 = .ok (.iload_n 1, 1) := by decide +kernel
theorem dX6_turn_43 : decode cX6_turn 43 = .ok (.iload_n 2, 1) := by decide +kernel
theorem dX6_turn_44 : decode cX6_turn 44 = .ok (.iastore, 1) := by decide +kernel
theorem dX6_turn_45 : decode cX6_turn 45 = .ok (.aload_n 0, 1) := by decide +kernel
theorem dX6_turn_46 : decode cX6_turn 46 = .ok (.getfield 28, 3) := by decide +kernel
theorem dX6_turn_49 : decode cX6_turn 49 = .ok (.invokevirtual 95, 3) := by decide +kernel
theorem dX6_turn_52 : decode cX6_turn 52 = .ok (.iload_n 3, 1) := by decide +kernel
theorem dX6_turn_53 : decode cX6_turn 53 = .ok (.ireturn, 1) := by decide +kernel
theorem dX6_wire_0 : decode cX6_wire 0 = .ok (.aload_n 0, 1) := by decide +kernel
theorem dX6_wire_1 : decode cX6_wire 1 = .ok (.getfield 14, 3) := by decide +kernel
theorem dX6_wire_4 : decode cX6_wire 4 = .ok (.iload_n 1, 1) := by decide +kernel
theorem dX6_wire_5 : decode cX6_wire 5 = .ok (.invokevirtual 113, 3) := by decide +kernel
theorem dX6_wire_8 : decode cX6_wire 8 = .ok (.ifCond .eq 14, 3) := by decide +kernel
theorem dX6_wire_11 : decode cX6_wire 11 = .ok (.aload_n 0, 1) := by decide +kernel
theorem dX6_wire_12 : decode cX6_wire 12 = .ok (.getfield 14, 3) := by decide +kernel
theorem dX6_wire_15 : decode cX6_wire 15 = .ok (.iload_n 2, 1) := by decide +kernel
theorem dX6_wire_16 : decode cX6_wire 16 = .ok (.invokevirtual 101, 3) := by decide +kernel
theorem dX6_wire_19 : decode cX6_wire 19 = .ok (.ifCond .ne 5, 3) := by decide +kernel
theorem dX6_wire_22 : decode cX6_wire 22 = .ok (.iconst (-1), 1) := by decide +kernel
theorem dX6_wire_23 : decode cX6_wire 23 = .ok (.ireturn, 1) := by decide +kernel
theorem dX6_wire_24 : decode cX6_wire 24 = .ok (.aload_n 0, 1) := by decide +kernel
theorem dX6_wire_25 : decode cX6_wire 25 = .ok (.getfield 14, 3) := by decide +kernel
theorem dX6_wire_28 : decode cX6_wire 28 = .ok (.getfield 125, 3) := by decide +kernel
theorem dX6_wire_31 : decode cX6_wire 31 = .ok (.iload_n 1, 1) := by decide +kernel
theorem dX6_wire_32 : decode cX6_wire 32 = .ok (.dup2, 1) := by decide +kernel
theorem dX6_wire_33 : decode cX6_wire 33 = .ok (.iaload, 1) := by decide +kernel
theorem dX6_wire_34 : decode cX6_wire 34 = .ok (.iconst 1, 1) := by decide +kernel
theorem dX6_wire_35 : decode cX6_wire 35 = .ok (.iload_n 2, 1) := by decide +kernel
theorem dX6_wire_36 : decode cX6_wire 36 = .ok (.ishl, 1) := by decide +kernel
theorem dX6_wire_37 : decode cX6_wire 37 = .ok (.ixor, 1) := by decide +kernel
