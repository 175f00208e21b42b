theorem dX7_readSwitch_37 : decode cX7_readSwitch 37 = .ok (.if_icmp .ne 7, 3) := by decide +kernel
theorem dX7_readSwitch_40 : decode cX7_readSwitch 40 = .ok (.iconst 0, 1) := by decide +kernel
theorem dX7_readSwitch_41 : decode cX7_readSwitch 41 = .ok (.goto 25, 3) := by decide +kernel
theorem dX7_readSwitch_44 : decode cX7_readSwitch 44 = .ok (.iload_n 2, 1) := by decide +kernel
theorem dX7_readSwitch_45 : decode cX7_readSwitch 45 = .ok (.bipush 98, 2) := by decide +kernel
theorem dX7_readSwitch_47 : decode cX7_readSwitch 47 = .ok (.if_icmp .ne 7, 3) := by decide +kernel
theorem dX7_readSwitch_50 : decode cX7_readSwitch 50 = .ok (.iconst 1, 1) := by decide +kernel
theorem dX7_readSwitch_51 : decode cX7_readSwitch 51 = .ok (.goto 15, 3) := by decide +kernel
theorem dX7_readSwitch_54 : decode cX7_readSwitch 54 = .ok (.iload_n 2, 1) := by decide +kernel
theorem dX7_readSwitch_55 : decode cX7_readSwitch 55 = .ok (.bipush 100, 2) := by decide +kernel
theorem dX7_readSwitch_57 : decode cX7_readSwitch 57 = .ok (.if_icmp .ne 7, 3) := by decide +kernel
theorem dX7_readSwitch_60 : decode cX7_readSwitch 60 = .ok (.iconst 2, 1) := by decide +kernel
theorem dX7_readSwitch_61 : decode cX7_readSwitch 61 = .ok (.goto 5, 3) := by decide +kernel
theorem dX7_readSwitch_64 : decode cX7_readSwitch 64 = .ok (.bipush (-9), 2) := by decide +kernel
theorem dX7_readSwitch_66 : decode cX7_readSwitch 66 = .ok (.iastore, 1) := by decide +kernel
theorem dX7_readSwitch_67 : decode cX7_readSwitch 67 = .ok (.aload_n 0, 1) := by decide +kernel
theorem dX7_readSwitch_68 : decode cX7_readSwitch 68 = .ok (.getfield 40, 3) := by decide +kernel
theorem dX7_readSwitch_71 : decode cX7_readSwitch 71 = .ok (.iload_n 3, 1) := by decide +kernel
theorem dX7_readSwitch_72 : decode cX7_readSwitch 72 = .ok (.iaload, 1) := by decide +kernel
theorem dX7_readSwitch_73 : decode cX7_readSwitch 73 = .ok (.bipush (-9), 2) := by decide +kernel
theorem dX7_readSwitch_75 : decode cX7_readSwitch 75 = .ok (.if_icmp .ne 5, 3) := by decide +kernel
theorem dX7_readSwitch_78 : decode cX7_readSwitch 78 = .ok (.iconst 0, 1) := by decide +kernel
theorem dX7_readSwitch_79 : decode cX7_readSwitch 79 = .ok (.ireturn, 1) := by decide +kernel
theorem dX7_readSwitch_80 : decode cX7_readSwitch 80 = .ok (.aload_n 0, 1) := by decide +kernel
theorem dX7_readSwitch_81 : decode cX7_readSwitch 81 = .ok (.dup, 1) := by decide +kernel
theorem dX7_readSwitch_82 : decode cX7_readSwitch 82 = .ok (.getfield 77, 3) := by decide +kernel
theorem dX7_readSwitch_85 : decode cX7_readSwitch 85 = .ok (.iconst 1, 1) := by decide +kernel
theorem dX7_readSwitch_86 : decode cX7_readSwitch 86 = .ok (.iadd, 1) := by decide +kernel
theorem dX7_readSwitch_87 : decode cX7_readSwitch 87 = .ok (.putfield 77, 3) := by decide +kernel
theorem dX7_readSwitch_90 : decode cX7_readSwitch 90 = .ok (.aload_n 0, 1) := by decide +kernel
theorem dX7_readSwitch_91 : decode cX7_readSwitch 91 = .ok (.getfield 40, 3) := by decide +kernel
theorem dX7_readSwitch_94 : decode cX7_readSwitch 94 = .ok (.iload_n 3, 1) := by decide +kernel
theorem dX7_readSwitch_95 : decode cX7_readSwitch 95 = .ok (.iconst 1, 1) := by decide +kernel
theorem dX7_readSwitch_96 : decode cX7_readSwitch 96 = .ok (.iadd, 1) := by decide +kernel
theorem dX7_readSwitch_97 : decode cX7_readSwitch 97 = .ok (.aload_n 0, 1) := by decide +kernel
theorem dX7_readSwitch_98 : decode cX7_readSwitch 98 = .ok (.iload_n 1, 1) := by decide +kernel
theorem dX7_readSwitch_99 : decode cX7_readSwitch 99 = .ok (.iconst 1, 1) := by decide +kernel
theorem dX7_readSwitch_100 : decode cX7_readSwitch 100 = .ok (.iconst 4, 1) := by decide +kernel
theorem dX7_readSwitch_101 : decode cX7_readSwitch 101 = .ok (.invokevirtual 117, 3) := by decide +kernel
theorem dX7_readSwitch_104 : decode cX7_readSwitch 104 = .ok (.iastore, 1) := by decide +kernel
theorem dX7_readSwitch_105 : decode cX7_readSwitch 105 = .ok (.aload_n 0, 1) := by decide +kernel
theorem dX7_readSwitch_106 : decode cX7_readSwitch 106 = .ok (.getfield 40, 3) := by decide +kernel
theorem dX7_readSwitch_109 : decode cX7_readSwitch 109 = .ok (.iload_n 3, 1) := by decide +kernel
theorem dX7_readSwitch_110 : decode cX7_readSwitch 110 = .ok (.iconst 1, 1) := by decide +kernel
theorem dX7_readSwitch_111 : decode cX7_readSwitch 111 = .ok (.iadd, 1) := by decide +kernel
theorem dX7_readSwitch_112 : decode cX7_readSwitch 112 = .ok (.iaload, 1) := by decide +kernel
theorem dX7_readSwitch_113 : decode cX7_readSwitch 113 = .ok (.bipush (-9), 2) := by decide +kernel
theorem dX7_readSwitch_115 : decode cX7_readSwitch 115 = .ok (.if_icmp .ne 5, 3) := by decide +kernel
theorem dX7_readSwitch_118 : decode cX7_readSwitch 118 = .ok (.iconst 0, 1) := by decide +kernel
theorem dX7_readSwitch_119 : decode cX7_readSwitch 119 = .ok (.ireturn, 1) := by decide +kernel
theorem dX7_readSwitch_120 : decode cX7_readSwitch 120 = .ok (.aload_n 0, 1) := by decide +kernel
theorem dX7_readSwitch_121 : decode cX7_readSwitch 121 = .ok (.getfield 40, 3) := by decide +kernel
theorem dX7_readSwitch_124 : decode cX7_readSwitch 124 = .ok (.iload_n 3, 1) := by decide +kernel
theorem dX7_readSwitch_125 : decode cX7_readSwitch 125 = .ok (.iconst 2, 1) := by decide +kernel
theorem dX7_readSwitch_126 : decode cX7_readSwitch 126 = .ok (.iadd, 1) := by decide +kernel
theorem dX7_readSwitch_127 : decode cX7_readSwitch 127 = .ok (.iconst 0, 1) := by decide +kernel
theorem dX7_readSwitch_128 : decode cX7_readSwitch 128 = .ok (.iastore, 1) := by decide +kernel
theorem dX7_readSwitch_129 : decode cX7_readSwitch 129 = .ok (.iconst 0, 1) := by decide +kernel
theorem dX7_readSwitch_130 : decode cX7_readSwitch 130 = .ok (.istore 4, 2) := by decide +kernel
theorem dX7_readSwitch_132 : decode cX7_readSwitch 132 = .ok (.iload 4, 2) := by decide +kernel
theorem dX7_readSwitch_134 : decode cX7_readSwitch 134 = .ok (.aload_n 0, 1) := by decide +kernel
theorem dX7_readSwitch_135 : decode cX7_readSwitch 135 = .ok (.getfield 101, 3) := by decide +kernel
theorem dX7_readSwitch_138 : decode cX7_readSwitch 138 = .ok (.if_icmp .ge 43, 3) := by decide +kernel
theorem dX7_readSwitch_141 : decode cX7_readSwitch 141 = .ok (.aload_n 0, 1) := by decide +kernel
theorem dX7_readSwitch_142 : decode cX7_readSwitch 142 = .ok (.iload_n 1, 1) := by decide +kernel
theorem dX7_readSwitch_143 : decode cX7_readSwitch 143 = .ok (.iconst 0, 1) := by decide +kernel
theorem dX7_readSwitch_144 : decode cX7_readSwitch 144 = .ok (.iconst 1, 1) := by decide +kernel
theorem dX7_readSwitch_145 : decode cX7_readSwitch 145 = .ok (.invokevirtual 117, 3) := by decide +kernel
theorem dX7_readSwitch_148 : decode cX7_readSwitch 148 = .ok (.istore 5, 2) := by decide +kernel
theorem dX7_readSwitch_150 : decode cX7_readSwitch 150 = .ok (.iload 5, 2) := by decide +kernel
theorem dX7_readSwitch_152 : decode cX7_readSwitch 152 = .ok (.bipush (-9), 2) := by decide +kernel
theorem dX7_readSwitch_154 : decode cX7_readSwitch 154 = .ok (.if_icmp .ne 5, 3) := by decide +kernel
theorem dX7_readSwitch_157 : decode cX7_readSwitch 157 = .ok (.iconst 0, 1) := by decide +kernel
theorem dX7_readSwitch_158 : decode cX7_readSwitch 158 = .ok (.ireturn, 1) := by decide +kernel
theorem dX7_readSwitch_159 : decode cX7_readSwitch 159 = .ok (.aload_n 0, 1) := by decide +kernel
theorem dX7_readSwitch_160 : decode cX7_readSwitch 160 = .ok (.getfield 40, 3) := by decide +kernel
theorem dX7_readSwitch_163 : decode cX7_readSwitch 163 = .ok (.iload_n 3, 1) := by decide +kernel
theorem dX7_readSwitch_164 : decode cX7_readSwitch 164 = .ok (.iconst 2, 1) := by decide +kernel
theorem dX7_readSwitch_165 : decode cX7_readSwitch 165 = .ok (.iadd, 1) := by decide +kernel
theorem dX7_readSwitch_166 : decode cX7_readSwitch 166 = .ok (.dup2, 1) := by decide +kernel
theorem dX7_readSwitch_167 : decode cX7_readSwitch 167 = .ok (.iaload, 1) := by decide +kernel
theorem dX7_readSwitch_168 : decode cX7_readSwitch 168 = .ok (.iload 5, 2) := by decide +kernel
theorem dX7_readSwitch_170 : decode cX7_readSwitch 170 = .ok (.iload 4, 2) := by decide +kernel
theorem dX7_readSwitch_172 : decode cX7_readSwitch 172 = .ok (.ishl, 1) := by decide +kernel
theorem dX7_readSwitch_173 : decode cX7_readSwitch 173 = .ok (.iadd, 1) := by decide +kernel
theorem dX7_readSwitch_174 : decode cX7_readSwitch 174 = .ok (.iastore, 1) := by decide +kernel
theorem dX7_readSwitch_175 : decode cX7_readSwitch 175 = .ok (.iinc 4 1, 3) := by decide +kernel
theorem dX7_readSwitch_178 : decode cX7_readSwitch 178 = .ok (.goto (-46), 3) := by decide +kernel
theorem dX7_readSwitch_181 : decode cX7_readSwitch 181 = .ok (.aload_n 0, 1) := by decide +kernel
theorem dX7_readSwitch_182 : decode cX7_readSwitch 182 = .ok (.dup, 1) := by decide +kernel
theorem dX7_readSwitch_183 : decode cX7_readSwitch 183 = .ok (.getfield 104, 3) := by decide +kernel
theorem dX7_readSwitch_186 : decode cX7_readSwitch 186 = .ok (.iconst 1, 1) := by decide +kernel
theorem dX7_readSwitch_187 : decode cX7_readSwitch 187 = .ok (.iadd, 1) := by decide +kernel
theorem dX7_readSwitch_188 : decode cX7_readSwitch 188 = .ok (.putfield 104, 3) := by decide +kernel
theorem dX7_readSwitch_191 : decode cX7_readSwitch 191 = .ok (.iconst 1, 1) := by decide +kernel
theorem dX7_readSwitch_192 : decode cX7_readSwitch 192 = .ok (.ireturn, 1) := by decide +kernel
theorem dX7_movesOf_0 : decode cX7_movesOf 0 = .ok (.aload_n 0, 1) := by decide +kernel
theorem dX7_movesOf_1 : decode cX7_movesOf 1 = .ok (.getfield 25, 3) := by decide +kernel
theorem dX7_movesOf_4 : decode cX7_movesOf 4 = .ok (.iload_n 1, 1) := by decide +kernel
theorem dX7_movesOf_5 : decode cX7_movesOf 5 = .ok (.iaload, 1) := by decide +kernel
theorem dX7_movesOf_6 : decode cX7_movesOf 6 = .ok (.ifCond .ne 12, 3) := by decide +kernel
theorem dX7_movesOf_9 : decode cX7_movesOf 9 = .ok (.aload_n 0, 1) := by decide +kernel
theorem dX7_movesOf_10 : decode cX7_movesOf 10 = .ok (.getfield 28, 3) := by decide +kernel
theorem dX7_movesOf_13 : decode cX7_movesOf 13 = .ok (.iload_n 1, 1) := by decide +kernel
theorem dX7_movesOf_14 : decode cX7_movesOf 14 = .ok (.iaload, 1) := by decide +kernel
theorem dX7_movesOf_15 : decode cX7_movesOf 15 = .ok (.goto 32, 3) := by decide +kernel
theorem dX7_movesOf_18 : decode cX7_movesOf 18 = .ok (.aload_n 0, 1) := by decide +kernel
theorem dX7_movesOf_19 : decode cX7_movesOf 19 = .ok (.getfield 25, 3) := by decide +kernel
theorem dX7_movesOf_22 : decode cX7_movesOf 22 = .ok (.iload_n 1, 1) := by decide +kernel
theorem dX7_movesOf_23 : decode cX7_movesOf 23 = .ok (.iaload, 1) := by decide +kernel
theorem dX7_movesOf_24 : decode cX7_movesOf 24 = .ok (.iconst 1, 1) := by decide +kernel
theorem dX7_movesOf_25 : decode cX7_movesOf 25 = .ok (.if_icmp .ne 14, 3) := by decide +kernel
theorem dX7_movesOf_28 : decode cX7_movesOf 28 = .ok (.aload_n 0, 1) := by decide +kernel
theorem dX7_movesOf_29 : decode cX7_movesOf 29 = .ok (.getfield 28, 3) := by decide +kernel
theorem dX7_movesOf_32 : decode cX7_movesOf 32 = .ok (.iload_n 1, 1) := by decide +kernel
theorem dX7_movesOf_33 : decode cX7_movesOf 33 = .ok (.iaload, 1) := by decide +kernel
theorem dX7_movesOf_34 : decode cX7_movesOf 34 = .ok (.iconst 1, 1) := by decide +kernel
theorem dX7_movesOf_35 : decode cX7_movesOf 35 = .ok (.iadd, 1) := by decide +kernel
theorem dX7_movesOf_36 : decode cX7_movesOf 36 = .ok (.goto 11, 3) := by decide +kernel
theorem dX7_movesOf_39 : decode cX7_movesOf 39 = .ok (.iconst 2, 1) := by decide +kernel
theorem dX7_movesOf_40 : decode cX7_movesOf 40 = .ok (.aload_n 0, 1) := by decide +kernel
theorem dX7_movesOf_41 : decode cX7_movesOf 41 = .ok (.getfield 28, 3) := by decide +kernel
theorem dX7_movesOf_44 : decode cX7_movesOf 44 = .ok (.iload_n 1, 1) := by decide +kernel
theorem dX7_movesOf_45 : decode cX7_movesOf 45 = .ok (.iaload, 1) := by decide +kernel
theorem dX7_movesOf_46 : decode cX7_movesOf 46 = .ok (.imul, 1) := by decide +kernel
theorem dX7_movesOf_47 : decode cX7_movesOf 47 = .ok (.ireturn, 1) := by decide +kernel
theorem dX7_wiredTo_0 : decode cX7_wiredTo 0 = .ok (.iconst 0, 1) := by decide +kernel
theorem dX7_wiredTo_1 : decode cX7_wiredTo 1 = .ok (.istore_n 2, 1) := by decide +kernel
theorem dX7_wiredTo_2 : decode cX7_wiredTo 2 = .ok (.iconst 0, 1) := by decide +kernel
theorem dX7_wiredTo_3 : decode cX7_wiredTo 3 = .ok (.istore_n 3, 1) := by decide +kernel
theorem dX7_wiredTo_4 : decode cX7_wiredTo 4 = .ok (.iload_n 3, 1) := by decide +kernel
theorem dX7_wiredTo_5 : decode cX7_wiredTo 5 = .ok (.aload_n 0, 1) := by decide +kernel
theorem dX7_wiredTo_6 : decode cX7_wiredTo 6 = .ok (.getfield 74, 3) := by decide +kernel
theorem dX7_wiredTo_9 : decode cX7_wiredTo 9 = .ok (.if_icmp .ge 32, 3) := by decide +kernel
theorem dX7_wiredTo_12 : decode cX7_wiredTo 12 = .ok (.iload_n 2, 1) := by decide +kernel
theorem dX7_wiredTo_13 : decode cX7_wiredTo 13 = .ok (.aload_n 0, 1) := by decide +kernel
theorem dX7_wiredTo_14 : decode cX7_wiredTo 14 = .ok (.getfield 31, 3) := by decide +kernel
theorem dX7_wiredTo_17 : decode cX7_wiredTo 17 = .ok (.iload_n 3, 1) := by decide +kernel
theorem dX7_wiredTo_18 : decode cX7_wiredTo 18 = .ok (.iaload, 1) := by decide +kernel
theorem dX7_wiredTo_19 : decode cX7_wiredTo 19 = .ok (.iload_n 1, 1) := by decide +kernel
theorem dX7_wiredTo_20 : decode cX7_wiredTo 20 = .ok (.invokestatic 124, 3) := by decide +kernel
theorem dX7_wiredTo_23 : decode cX7_wiredTo 23 = .ok (.ifCond .eq 9, 3) := by decide +kernel
theorem dX7_wiredTo_26 : decode cX7_wiredTo 26 = .ok (.iconst 1, 1) := by decide +kernel
theorem dX7_wiredTo_27 : decode cX7_wiredTo 27 = .ok (.iload_n 3, 1) := by decide +kernel
theorem dX7_wiredTo_28 : decode cX7_wiredTo 28 = .ok (.ishl, 1) := by decide +kernel
theorem dX7_wiredTo_29 : decode cX7_wiredTo 29 = .ok (.goto 4, 3) := by decide +kernel
theorem dX7_wiredTo_32 : decode cX7_wiredTo 32 = .ok (.iconst 0, 1) := by decide +kernel
theorem dX7_wiredTo_33 : decode cX7_wiredTo 33 = .ok (.ior, 1) := by decide +kernel
theorem dX7_wiredTo_34 : decode cX7_wiredTo 34 = .ok (.istore_n 2, 1) := by decide +kernel
theorem dX7_wiredTo_35 : decode cX7_wiredTo 35 = .ok (.iinc 3 1, 3) := by decide +kernel
theorem dX7_wiredTo_38 : decode cX7_wiredTo 38 = .ok (.goto (-34), 3) := by decide +kernel
theorem dX7_wiredTo_41 : decode cX7_wiredTo 41 = .ok (.iload_n 2, 1) := by decide +kernel
theorem dX7_wiredTo_42 : decode cX7_wiredTo 42 = .ok (.ireturn, 1) := by decide +kernel
theorem dX7_darkNow_0 : decode cX7_darkNow 0 = .ok (.iconst 0, 1) := by decide +kernel
theorem dX7_darkNow_1 : decode cX7_darkNow 1 = .ok (.istore_n 1, 1) := by decide +kernel
theorem dX7_darkNow_2 : decode cX7_darkNow 2 = .ok (.iconst 0, 1) := by decide +kernel
theorem dX7_darkNow_3 : decode cX7_darkNow 3 = .ok (.istore_n 2, 1) := by decide +kernel
theorem dX7_darkNow_4 : decode cX7_darkNow 4 = .ok (.iload_n 2, 1) := by decide +kernel
theorem dX7_darkNow_5 : decode cX7_darkNow 5 = .ok (.aload_n 0, 1) := by decide +kernel
theorem dX7_darkNow_6 : decode cX7_darkNow 6 = .ok (.getfield 71, 3) := by decide +kernel
theorem dX7_darkNow_9 : decode cX7_darkNow 9 = .ok (.if_icmp .ge 26, 3) := by decide +kernel
theorem dX7_darkNow_12 : decode cX7_darkNow 12 = .ok (.iload_n 1, 1) := by decide +kernel
theorem dX7_darkNow_13 : decode cX7_darkNow 13 = .ok (.aload_n 0, 1) := by decide +kernel
theorem dX7_darkNow_14 : decode cX7_darkNow 14 = .ok (.getfield 22, 3) := by decide +kernel
theorem dX7_darkNow_17 : decode cX7_darkNow 17 = .ok (.iload_n 2, 1) := by decide +kernel
theorem dX7_darkNow_18 : decode cX7_darkNow 18 = .ok (.iaload, 1) := by decide +kernel
theorem dX7_darkNow_19 : decode cX7_darkNow 19 = .ok (.ifCond .ne 7, 3) := by decide +kernel
theorem dX7_darkNow_22 : decode cX7_darkNow 22 = .ok (.iconst 1, 1) := by decide +kernel
theorem dX7_darkNow_23 : decode cX7_darkNow 23 = .ok (.goto 4, 3) := by decide +kernel
theorem dX7_darkNow_26 : decode cX7_darkNow 26 = .ok (.iconst 0, 1) := by decide +kernel
theorem dX7_darkNow_27 : decode cX7_darkNow 27 = .ok (.iadd, 1) := by decide +kernel
theorem dX7_darkNow_28 : decode cX7_darkNow 28 = .ok (.istore_n 1, 1) := by decide +kernel
theorem dX7_darkNow_29 : decode cX7_darkNow 29 = .ok (.iinc 2 1, 3) := by decide +kernel
theorem dX7_darkNow_32 : decode cX7_darkNow 32 = .ok (.goto (-28), 3) := by decide +kernel
theorem dX7_darkNow_35 : decode cX7_darkNow 35 = .ok (.iload_n 1, 1) := by decide +kernel
theorem dX7_darkNow_36 : decode cX7_darkNow 36 = .ok (.ireturn, 1) := by decide +kernel
theorem dX7_ofLamp_0 : decode cX7_ofLamp 0 = .ok (.aload_n 0, 1) := by decide +kernel
theorem dX7_ofLamp_1 : decode cX7_ofLamp 1 = .ok (.iload_n 1, 1) := by decide +kernel
theorem dX7_ofLamp_2 : decode cX7_ofLamp 2 = .ok (.invokevirtual 127, 3) := by decide +kernel
theorem dX7_ofLamp_5 : decode cX7_ofLamp 5 = .ok (.ifCond .ne 5, 3) := by decide +kernel
theorem dX7_ofLamp_8 : decode cX7_ofLamp 8 = .ok (.iconst (-1), 1) := by decide +kernel
theorem dX7_ofLamp_9 : decode cX7_ofLamp 9 = .ok (.ireturn, 1) := by decide +kernel
theorem dX7_ofLamp_10 : decode cX7_ofLamp 10 = .ok (.iload_n 2, 1) := by decide +kernel
theorem dX7_ofLamp_11 : decode cX7_ofLamp 11 = .ok (.tableswitch 45 0 2 #[25, 32, 39], 25) := by decide +kernel
theorem dX7_ofLamp_36 : decode cX7_ofLamp 36 = .ok (.aload_n 0, 1) := by decide +kernel
theorem dX7_ofLamp_37 : decode cX7_ofLamp 37 = .ok (.getfield 19, 3) := by decide +kernel
theorem dX7_ofLamp_40 : decode cX7_ofLamp 40 = .ok (.iload_n 1, 1) := by decide +kernel
theorem dX7_ofLamp_41 : decode cX7_ofLamp 41 = .ok (.iaload, 1) := by decide +kernel
theorem dX7_ofLamp_42 : decode cX7_ofLamp 42 = .ok (.ireturn, 1) := by decide +kernel
theorem dX7_ofLamp_43 : decode cX7_ofLamp 43 = .ok (.aload_n 0, 1) := by decide +kernel
theorem dX7_ofLamp_44 : decode cX7_ofLamp 44 = .ok (.getfield 22, 3) := by decide +kernel
theorem dX7_ofLamp_47 : decode cX7_ofLamp 47 = .ok (.iload_n 1, 1) := by decide +kernel
theorem dX7_ofLamp_48 : decode cX7_ofLamp 48 = .ok (.iaload, 1) := by decide +kernel
theorem dX7_ofLamp_49 : decode cX7_ofLamp 49 = .ok (.ireturn, 1) := by decide +kernel
theorem dX7_ofLamp_50 : decode cX7_ofLamp 50 = .ok (.aload_n 0, 1) := by decide +kernel
theorem dX7_ofLamp_51 : decode cX7_ofLamp 51 = .ok (.iload_n 1, 1) := by decide +kernel
theorem dX7_ofLamp_52 : decode cX7_ofLamp 52 = .ok (.invokevirtual 130, 3) := by decide +kernel
theorem dX7_ofLamp_55 : decode cX7_ofLamp 55 = .ok (.ireturn, 1) := by decide +kernel
theorem dX7_ofLamp_56 : decode cX7_ofLamp 56 = .ok (.bipush (-2), 2) := by decide +kernel
theorem dX7_ofLamp_58 : decode cX7_ofLamp 58 = .ok (.ireturn, 1) := by decide +kernel
theorem dX7_ofSwitch_0 : decode cX7_ofSwitch 0 = .ok (.aload_n 0, 1) := by decide +kernel
theorem dX7_ofSwitch_1 : decode cX7_ofSwitch 1 = .ok (.iload_n 1, 1) := by decide +kernel
theorem dX7_ofSwitch_2 : decode cX7_ofSwitch 2 = .ok (.invokevirtual 133, 3) := by decide +kernel
theorem dX7_ofSwitch_5 : decode cX7_ofSwitch 5 = .ok (.ifCond .ne 5, 3) := by decide +kernel
theorem dX7_ofSwitch_8 : decode cX7_ofSwitch 8 = .ok (.iconst (-1), 1) := by decide +kernel
theorem dX7_ofSwitch_9 : decode cX7_ofSwitch 9 = .ok (.ireturn, 1) := by decide +kernel
theorem dX7_ofSwitch_10 : decode cX7_ofSwitch 10 = .ok (.iload_n 2, 1) := by decide +kernel
theorem dX7_ofSwitch_11 : decode cX7_ofSwitch 11 = .ok (.tableswitch 67 0 4 #[33, 40, 47, 53, 60], 33) := by decide +kernel
theorem dX7_ofSwitch_44 : decode cX7_ofSwitch 44 = .ok (.aload_n 0, 1) := by decide +kernel
theorem dX7_ofSwitch_45 : decode cX7_ofSwitch 45 = .ok (.getfield 25, 3) := by decide +kernel
theorem dX7_ofSwitch_48 : decode cX7_ofSwitch 48 = .ok (.iload_n 1, 1) := by decide +kernel
theorem dX7_ofSwitch_49 : decode cX7_ofSwitch 49 = .ok (.iaload, 1) := by decide +kernel
theorem dX7_ofSwitch_50 : decode cX7_ofSwitch 50 = .ok (.ireturn, 1) := by decide +kernel
theorem dX7_ofSwitch_51 : decode cX7_ofSwitch 51 = .ok (.aload_n 0, 1) := by decide +kernel
theorem dX7_ofSwitch_52 : decode cX7_ofSwitch 52 = .ok (.getfield 28, 3) := by decide +kernel
theorem dX7_ofSwitch_55 : decode cX7_ofSwitch 55 = .ok (.iload_n 1, 1) := by decide +kernel
theorem dX7_ofSwitch_56 : decode cX7_ofSwitch 56 = .ok (.iaload, 1) := by decide +kernel
theorem dX7_ofSwitch_57 : decode cX7_ofSwitch 57 = .ok (.ireturn, 1) := by decide +kernel
theorem dX7_ofSwitch_58 : decode cX7_ofSwitch 58 = .ok (.aload_n 0, 1) := by decide +kernel
theorem dX7_ofSwitch_59 : decode cX7_ofSwitch 59 = .ok (.iload_n 1, 1) := by decide +kernel
theorem dX7_ofSwitch_60 : decode cX7_ofSwitch 60 = .ok (.invokevirtual 136, 3) := by decide +kernel
theorem dX7_ofSwitch_63 : decode cX7_ofSwitch 63 = .ok (.ireturn, 1) := by decide +kernel
theorem dX7_ofSwitch_64 : decode cX7_ofSwitch 64 = .ok (.aload_n 0, 1) := by decide +kernel
theorem dX7_ofSwitch_65 : decode cX7_ofSwitch 65 = .ok (.getfield 31, 3) := by decide +kernel
theorem dX7_ofSwitch_68 : decode cX7_ofSwitch 68 = .ok (.iload_n 1, 1) := by decide +kernel
theorem dX7_ofSwitch_69 : decode cX7_ofSwitch 69 = .ok (.iaload, 1) := by decide +kernel
theorem dX7_ofSwitch_70 : decode cX7_ofSwitch 70 = .ok (.ireturn, 1) := by decide +kernel
theorem dX7_ofSwitch_71 : decode cX7_ofSwitch 71 = .ok (.aload_n 0, 1) := by decide +kernel
theorem dX7_ofSwitch_72 : decode cX7_ofSwitch 72 = .ok (.getfield 34, 3) := by decide +kernel
theorem dX7_ofSwitch_75 : decode cX7_ofSwitch 75 = .ok (.iload_n 1, 1) := by decide +kernel
theorem dX7_ofSwitch_76 : decode cX7_ofSwitch 76 = .ok (.iaload, 1) := by decide +kernel
theorem dX7_ofSwitch_77 : decode cX7_ofSwitch 77 = .ok (.ireturn, 1) := by decide +kernel
theorem dX7_ofSwitch_78 : decode cX7_ofSwitch 78 = .ok (.bipush (-2), 2) := by decide +kernel
theorem dX7_ofSwitch_80 : decode cX7_ofSwitch 80 = .ok (.ireturn, 1) := by decide +kernel
theorem dX7_shade_0 : decode cX7_shade 0 = .ok (.aload_n 0, 1) := by decide +kernel
theorem dX7_shade_1 : decode cX7_shade 1 = .ok (.iload_n 1, 1) := by decide +kernel
theorem dX7_shade_2 : decode cX7_shade 2 = .ok (.invokevirtual 127, 3) := by decide +kernel
theorem dX7_shade_5 : decode cX7_shade 5 = .ok (.ifCond .ne 5, 3) := by decide +kernel
theorem dX7_shade_8 : decode cX7_shade 8 = .ok (.iconst (-1), 1) := by decide +kernel
theorem dX7_shade_9 : decode cX7_shade 9 = .ok (.ireturn, 1) := by decide +kernel
theorem dX7_shade_10 : decode cX7_shade 10 = .ok (.iload_n 2, 1) := by decide +kernel
theorem dX7_shade_11 : decode cX7_shade 11 = .ok (.iconst 0, 1) := by decide +kernel
theorem dX7_shade_12 : decode cX7_shade 12 = .ok (.aload_n 0, 1) := by decide +kernel
theorem dX7_shade_13 : decode cX7_shade 13 = .ok (.getfield 19, 3) := by decide +kernel
theorem dX7_shade_16 : decode cX7_shade 16 = .ok (.iload_n 1, 1) := by decide +kernel
theorem dX7_shade_17 : decode cX7_shade 17 = .ok (.iaload, 1) := by decide +kernel
theorem dX7_shade_18 : decode cX7_shade 18 = .ok (.iconst 1, 1) := by decide +kernel
theorem dX7_shade_19 : decode cX7_shade 19 = .ok (.isub, 1) := by decide +kernel
theorem dX7_shade_20 : decode cX7_shade 20 = .ok (.invokestatic 67, 3) := by decide +kernel
theorem dX7_shade_23 : decode cX7_shade 23 = .ok (.ifCond .ne 6, 3) := by decide +kernel
theorem dX7_shade_26 : decode cX7_shade 26 = .ok (.bipush (-2), 2) := by decide +kernel
theorem dX7_shade_28 : decode cX7_shade 28 = .ok (.ireturn, 1) := by decide +kernel
theorem dX7_shade_29 : decode cX7_shade 29 = .ok (.aload_n 0, 1) := by decide +kernel
theorem dX7_shade_30 : decode cX7_shade 30 = .ok (.getfield 22, 3) := by decide +kernel
theorem dX7_shade_33 : decode cX7_shade 33 = .ok (.iload_n 1, 1) := by decide +kernel
theorem dX7_shade_34 : decode cX7_shade 34 = .ok (.iaload, 1) := by decide +kernel
theorem dX7_shade_35 : decode cX7_shade 35 = .ok (.istore_n 3, 1) := by decide +kernel
theorem dX7_shade_36 : decode cX7_shade 36 = .ok (.aload_n 0, 1) := by decide +kernel
theorem dX7_shade_37 : decode cX7_shade 37 = .ok (.getfield 22, 3) := by decide +kernel
theorem dX7_shade_40 : decode cX7_shade 40 = .ok (.iload_n 1, 1) := by decide +kernel
theorem dX7_shade_41 : decode cX7_shade 41 = .ok (.iload_n 2, 1) := by decide +kernel
theorem dX7_shade_42 : decode cX7_shade 42 = .ok (.iastore, 1) := by decide +kernel
theorem dX7_shade_43 : decode cX7_shade 43 = .ok (.iload_n 3, 1) := by decide +kernel
theorem dX7_shade_44 : decode cX7_shade 44 = .ok (.ireturn, 1) := by decide +kernel
theorem dX7_turn_0 : decode cX7_turn 0 = .ok (.aload_n 0, 1) := by decide +kernel
theorem dX7_turn_1 : decode cX7_turn 1 = .ok (.iload_n 1, 1) := by decide +kernel
theorem dX7_turn_2 : decode cX7_turn 2 = .ok (.invokevirtual 133, 3) := by decide +kernel
theorem dX7_turn_5 : decode cX7_turn 5 = .ok (.ifCond .ne 5, 3) := by decide +kernel
theorem dX7_turn_8 : decode cX7_turn 8 = .ok (.iconst (-1), 1) := by decide +kernel
theorem dX7_turn_9 : decode cX7_turn 9 = .ok (.ireturn, 1) := by decide +kernel
theorem dX7_turn_10 : decode cX7_turn 10 = .ok (.iload_n 2, 1) := by decide +kernel
theorem dX7_turn_11 : decode cX7_turn 11 = .ok (.iconst 1, 1) := by decide +kernel
theorem dX7_turn_12 : decode cX7_turn 12 = .ok (.iconst 4, 1) := by decide +kernel
theorem dX7_turn_13 : decode cX7_turn 13 = .ok (.invokestatic 67, 3) := by decide +kernel
theorem dX7_turn_16 : decode cX7_turn 16 = .ok (.ifCond .ne 6, 3) := by decide +kernel
theorem dX7_turn_19 : decode cX7_turn 19 = .ok (.bipush (-2), 2) := by decide +kernel
theorem dX7_turn_21 : decode cX7_turn 21 = .ok (.ireturn, 1) := by decide +kernel
theorem dX7_turn_22 : decode cX7_turn 22 = .ok (.aload_n 0, 1) := by decide +kernel
theorem dX7_turn_23 : decode cX7_turn 23 = .ok (.getfield 28, 3) := by decide +kernel
theorem dX7_turn_26 : decode cX7_turn 26 = .ok (.iload_n 1, 1) := by decide +kernel
theorem dX7_turn_27 : decode cX7_turn 27 = .ok (.iaload, 1) := by decide +kernel
theorem dX7_turn_28 : decode cX7_turn 28 = .ok (.istore_n 3, 1) := by decide +kernel
theorem dX7_turn_29 : decode cX7_turn 29 = .ok (.aload_n 0, 1) := by decide +kernel
theorem dX7_turn_30 : decode cX7_turn 30 = .ok (.getfield 28, 3) := by decide +kernel
theorem dX7_turn_33 : decode cX7_turn 33 = .ok (.iload_n 1, 1) := by decide +kernel
theorem dX7_turn_34 : decode cX7_turn 34 = .ok (.iload_n 2, 1) := by decide +kernel
theorem dX7_turn_35 : decode cX7_turn 35 = .ok (.iastore, 1) := by decide +kernel
theorem dX7_turn_36 : decode cX7_turn 36 = .ok (.iload_n 3, 1) := by decide +kernel
theorem dX7_turn_37 : decode cX7_turn 37 = .ok (.ireturn, 1) := by decide +kernel
theorem dX7_wire_0 : decode cX7_wire 0 = .ok (.aload_n 0, 1) := by decide +kernel
theorem dX7_wire_1 : decode cX7_wire 1 = .ok (.iload_n 1, 1) := by decide +kernel
theorem dX7_wire_2 : decode cX7_wire 2 = .ok (.invokevirtual 133, 3) := by decide +kernel
theorem dX7_wire_5 : decode cX7_wire 5 = .ok (.ifCond .eq 11, 3) := by decide +kernel
theorem dX7_wire_8 : decode cX7_wire 8 = .ok (.aload_n 0, 1) := by decide +kernel
theorem dX7_wire_9 : decode cX7_wire 9 = .ok (.iload_n 2, 1) := by decide +kernel
theorem dX7_wire_10 : decode cX7_wire 10 = .ok (.invokevirtual 127, 3) := by decide +kernel
theorem dX7_wire_13 : decode cX7_wire 13 = .ok (.ifCond .ne 5, 3) := by decide +kernel
theorem dX7_wire_16 : decode cX7_wire 16 = .ok (.iconst (-1), 1) := by decide +kernel
theorem dX7_wire_17 : decode cX7_wire 17 = .ok (.ireturn, 1) := by decide +kernel
theorem dX7_wire_18 : decode cX7_wire 18 = .ok (.aload_n 0, 1) := by decide +kernel
theorem dX7_wire_19 : decode cX7_wire 19 = .ok (.getfield 31, 3) := by decide +kernel
theorem dX7_wire_22 : decode cX7_wire 22 = .ok (.iload_n 1, 1) := by decide +kernel
theorem dX7_wire_23 : decode cX7_wire 23 = .ok (.dup2, 1) := by decide +kernel
theorem dX7_wire_24 : decode cX7_wire 24 = .ok (.iaload, 1) := by decide +kernel
theorem dX7_wire_25 : decode cX7_wire 25 = .ok (.iconst 1, 1) := by decide +kernel
theorem dX7_wire_26 : decode cX7_wire 26 = .ok (.iload_n 2, 1) := by decide +kernel
theorem dX7_wire_27 : decode cX7_wire 27 = .ok (.ishl, 1) := by decide +kernel
theorem dX7_wire_28 : decode cX7_wire 28 = .ok (.ixor, 1) := by decide +kernel
theorem dX7_wire_29 : decode cX7_wire 29 = .ok (.iastore, 1) := by decide +kernel
theorem dX7_wire_30 : decode cX7_wire 30 = .ok (.aload_n 0, 1) := by decide +kernel
theorem dX7_wire_31 : decode cX7_wire 31 = .ok (.getfield 31, 3) := by decide +kernel
theorem dX7_wire_34 : decode cX7_wire 34 = .ok (.iload_n 1, 1) := by decide +kernel
theorem dX7_wire_35 : decode cX7_wire 35 = .ok (.iaload, 1) := by decide +kernel
theorem dX7_wire_36 : decode cX7_wire 36 = .ok (.iload_n 2, 1) := by decide +kernel
theorem dX7_wire_37 : decode cX7_wire 37 = .ok (.ishr, 1) := by decide +kernel
theorem dX7_wire_38 : decode cX7_wire 38 = .ok (.iconst 1, 1) := by decide +kernel
theorem dX7_wire_39 : decode cX7_wire 39 = .ok (.iand, 1) := by decide +kernel
theorem dX7_wire_40 : decode cX7_wire 40 = .ok (.ireturn, 1) := by decide +kernel
theorem dX7_turnsAll_0 : decode cX7_turnsAll 0 = .ok (.iconst 0, 1) := by decide +kernel
theorem dX7_turnsAll_1 : decode cX7_turnsAll 1 = .ok (.istore_n 3, 1) := by decide +kernel
theorem dX7_turnsAll_2 : decode cX7_turnsAll 2 = .ok (.iload_n 3, 1) := by decide +kernel
theorem dX7_turnsAll_3 : decode cX7_turnsAll 3 = .ok (.aload_n 0, 1) := by decide +kernel
theorem dX7_turnsAll_4 : decode cX7_turnsAll 4 = .ok (.getfield 71, 3) := by decide +kernel
theorem dX7_turnsAll_7 : decode cX7_turnsAll 7 = .ok (.if_icmp .ge 49, 3) := by decide +kernel
theorem dX7_turnsAll_10 : decode cX7_turnsAll 10 = .ok (.aload_n 0, 1) := by decide +kernel
theorem dX7_turnsAll_11 : decode cX7_turnsAll 11 = .ok (.getfield 31, 3) := by decide +kernel
theorem dX7_turnsAll_14 : decode cX7_turnsAll 14 = .ok (.iload_n 1, 1) := by decide +kernel
theorem dX7_turnsAll_15 : decode cX7_turnsAll 15 = .ok (.iaload, 1) := by decide +kernel
theorem dX7_turnsAll_16 : decode cX7_turnsAll 16 = .ok (.iload_n 3, 1) := by decide +kernel
theorem dX7_turnsAll_17 : decode cX7_turnsAll 17 = .ok (.invokestatic 124, 3) := by decide +kernel
theorem dX7_turnsAll_20 : decode cX7_turnsAll 20 = .ok (.ifCond .eq 30, 3) := by decide +kernel
theorem dX7_turnsAll_23 : decode cX7_turnsAll 23 = .ok (.aload_n 0, 1) := by decide +kernel
theorem dX7_turnsAll_24 : decode cX7_turnsAll 24 = .ok (.getfield 22, 3) := by decide +kernel
theorem dX7_turnsAll_27 : decode cX7_turnsAll 27 = .ok (.iload_n 3, 1) := by decide +kernel
theorem dX7_turnsAll_28 : decode cX7_turnsAll 28 = .ok (.aload_n 0, 1) := by decide +kernel
theorem dX7_turnsAll_29 : decode cX7_turnsAll 29 = .ok (.getfield 22, 3) := by decide +kernel
theorem dX7_turnsAll_32 : decode cX7_turnsAll 32 = .ok (.iload_n 3, 1) := by decide +kernel
theorem dX7_turnsAll_33 : decode cX7_turnsAll 33 = .ok (.iaload, 1) := by decide +kernel
theorem dX7_turnsAll_34 : decode cX7_turnsAll 34 = .ok (.iload_n 2, 1) := by decide +kernel
theorem dX7_turnsAll_35 : decode cX7_turnsAll 35 = .ok (.aload_n 0, 1) := by decide +kernel
theorem dX7_turnsAll_36 : decode cX7_turnsAll 36 = .ok (.iload_n 1, 1) := by decide +kernel
theorem dX7_turnsAll_37 : decode cX7_turnsAll 37 = .ok (.invokevirtual 136, 3) := by decide +kernel
theorem dX7_turnsAll_40 : decode cX7_turnsAll 40 = .ok (.imul, 1) := by decide +kernel
theorem dX7_turnsAll_41 : decode cX7_turnsAll 41 = .ok (.iadd, 1) := by decide +kernel
theorem dX7_turnsAll_42 : decode cX7_turnsAll 42 = .ok (.aload_n 0, 1) := by decide +kernel
theorem dX7_turnsAll_43 : decode cX7_turnsAll 43 = .ok (.getfield 19, 3) := by decide +kernel
theorem dX7_turnsAll_46 : decode cX7_turnsAll 46 = .ok (.iload_n 3, 1) := by decide +kernel
theorem dX7_turnsAll_47 : decode cX7_turnsAll 47 = .ok (.iaload, 1) := by decide +kernel
theorem dX7_turnsAll_48 : decode cX7_turnsAll 48 = .ok (.irem, 1) := by decide +kernel
theorem dX7_turnsAll_49 : decode cX7_turnsAll 49 = .ok (.iastore, 1) := by decide +kernel
theorem dX7_turnsAll_50 : decode cX7_turnsAll 50 = .ok (.iinc 3 1, 3) := by decide +kernel
theorem dX7_turnsAll_53 : decode cX7_turnsAll 53 = .ok (.goto (-51), 3) := by decide +kernel
theorem dX7_turnsAll_56 : decode cX7_turnsAll 56 = .ok (.return_, 1) := by decide +kernel
theorem dX7_press_0 : decode cX7_press 0 = .ok (.aload_n 0, 1) := by decide +kernel
theorem dX7_press_1 : decode cX7_press 1 = .ok (.iload_n 1, 1) := by decide +kernel
theorem dX7_press_2 : decode cX7_press 2 = .ok (.invokevirtual 133, 3) := by decide +kernel
theorem dX7_press_5 : decode cX7_press 5 = .ok (.ifCond .ne 5, 3) := by decide +kernel
theorem dX7_press_8 : decode cX7_press 8 = .ok (.iconst (-1), 1) := by decide +kernel
theorem dX7_press_9 : decode cX7_press 9 = .ok (.ireturn, 1) := by decide +kernel
theorem dX7_press_10 : decode cX7_press 10 = .ok (.iload_n 2, 1) := by decide +kernel
theorem dX7_press_11 : decode cX7_press 11 = .ok (.iconst 1, 1) := by decide +kernel
theorem dX7_press_12 : decode cX7_press 12 = .ok (.bipush 99, 2) := by decide +kernel
theorem dX7_press_14 : decode cX7_press 14 = .ok (.invokestatic 67, 3) := by decide +kernel
theorem dX7_press_17 : decode cX7_press 17 = .ok (.ifCond .ne 6, 3) := by decide +kernel
theorem dX7_press_20 : decode cX7_press 20 = .ok (.bipush (-2), 2) := by decide +kernel
theorem dX7_press_22 : decode cX7_press 22 = .ok (.ireturn, 1) := by decide +kernel
theorem dX7_press_23 : decode cX7_press 23 = .ok (.aload_n 0, 1) := by decide +kernel
theorem dX7_press_24 : decode cX7_press 24 = .ok (.iload_n 1, 1) := by decide +kernel
theorem dX7_press_25 : decode cX7_press 25 = .ok (.iload_n 2, 1) := by decide +kernel
theorem dX7_press_26 : decode cX7_press 26 = .ok (.invokevirtual 139, 3) := by decide +kernel
theorem dX7_press_29 : decode cX7_press 29 = .ok (.aload_n 0, 1) := by decide +kernel
theorem dX7_press_30 : decode cX7_press 30 = .ok (.getfield 34, 3) := by decide +kernel
theorem dX7_press_33 : decode cX7_press 33 = .ok (.iload_n 1, 1) := by decide +kernel
theorem dX7_press_34 : decode cX7_press 34 = .ok (.dup2, 1) := by decide +kernel
theorem dX7_press_35 : decode cX7_press 35 = .ok (.iaload, 1) := by decide +kernel
theorem dX7_press_36 : decode cX7_press 36 = .ok (.iload_n 2, 1) := by decide +kernel
theorem dX7_press_37 : decode cX7_press 37 = .ok (.iadd, 1) := by decide +kernel
theorem dX7_press_38 : decode cX7_press 38 = .ok (.iastore, 1) := by decide +kernel
theorem dX7_press_39 : decode cX7_press 39 = .ok (.aload_n 0, 1) := by decide +kernel
theorem dX7_press_40 : decode cX7_press 40 = .ok (.dup, 1) := by decide +kernel
theorem dX7_press_41 : decode cX7_press 41 = .ok (.getfield 107, 3) := by decide +kernel
theorem dX7_press_44 : decode cX7_press 44 = .ok (.iload_n 2, 1) := by decide +kernel
theorem dX7_press_45 : decode cX7_press 45 = .ok (.iadd, 1) := by decide +kernel
theorem dX7_press_46 : decode cX7_press 46 = .ok (.putfield 107, 3) := by decide +kernel
theorem dX7_press_49 : decode cX7_press 49 = .ok (.aload_n 0, 1) := by decide +kernel
theorem dX7_press_50 : decode cX7_press 50 = .ok (.invokevirtual 143, 3) := by decide +kernel
theorem dX7_press_53 : decode cX7_press 53 = .ok (.ireturn, 1) := by decide +kernel
theorem dX7_keep_0 : decode cX7_keep 0 = .ok (.iconst 0, 1) := by decide +kernel
theorem dX7_keep_1 : decode cX7_keep 1 = .ok (.istore_n 1, 1) := by decide +kernel
theorem dX7_keep_2 : decode cX7_keep 2 = .ok (.iload_n 1, 1) := by decide +kernel
theorem dX7_keep_3 : decode cX7_keep 3 = .ok (.aload_n 0, 1) := by decide +kernel
theorem dX7_keep_4 : decode cX7_keep 4 = .ok (.getfield 71, 3) := by decide +kernel
theorem dX7_keep_7 : decode cX7_keep 7 = .ok (.if_icmp .ge 21, 3) := by decide +kernel
theorem dX7_keep_10 : decode cX7_keep 10 = .ok (.aload_n 0, 1) := by decide +kernel
theorem dX7_keep_11 : decode cX7_keep 11 = .ok (.getfield 43, 3) := by decide +kernel
theorem dX7_keep_14 : decode cX7_keep 14 = .ok (.iload_n 1, 1) := by decide +kernel
theorem dX7_keep_15 : decode cX7_keep 15 = .ok (.aload_n 0, 1) := by decide +kernel
theorem dX7_keep_16 : decode cX7_keep 16 = .ok (.getfield 22, 3) := by decide +kernel
theorem dX7_keep_19 : decode cX7_keep 19 = .ok (.iload_n 1, 1) := by decide +kernel
theorem dX7_keep_20 : decode cX7_keep 20 = .ok (.iaload, 1) := by decide +kernel
theorem dX7_keep_21 : decode cX7_keep 21 = .ok (.iastore, 1) := by decide +kernel
theorem dX7_keep_22 : decode cX7_keep 22 = .ok (.iinc 1 1, 3) := by decide +kernel
theorem dX7_keep_25 : decode cX7_keep 25 = .ok (.goto (-23), 3) := by decide +kernel
theorem dX7_keep_28 : decode cX7_keep 28 = .ok (.return_, 1) := by decide +kernel
theorem dX7_putBack_0 : decode cX7_putBack 0 = .ok (.iconst 0, 1) := by decide +kernel
theorem dX7_putBack_1 : decode cX7_putBack 1 = .ok (.istore_n 1, 1) := by decide +kernel
theorem dX7_putBack_2 : decode cX7_putBack 2 = .ok (.iload_n 1, 1) := by decide +kernel
theorem dX7_putBack_3 : decode cX7_putBack 3 = .ok (.aload_n 0, 1) := by decide +kernel
theorem dX7_putBack_4 : decode cX7_putBack 4 = .ok (.getfield 71, 3) := by decide +kernel
theorem dX7_putBack_7 : decode cX7_putBack 7 = .ok (.if_icmp .ge 21, 3) := by decide +kernel
theorem dX7_putBack_10 : decode cX7_putBack 10 = .ok (.aload_n 0, 1) := by decide +kernel
theorem dX7_putBack_11 : decode cX7_putBack 11 = .ok (.getfield 22, 3) := by decide +kernel
theorem dX7_putBack_14 : decode cX7_putBack 14 = .ok (.iload_n 1, 1) := by decide +kernel
theorem dX7_putBack_15 : decode cX7_putBack 15 = .ok (.aload_n 0, 1) := by decide +kernel
theorem dX7_putBack_16 : decode cX7_putBack 16 = .ok (.getfield 43, 3) := by decide +kernel
theorem dX7_putBack_19 : decode cX7_putBack 19 = .ok (.iload_n 1, 1) := by decide +kernel
theorem dX7_putBack_20 : decode cX7_putBack 20 = .ok (.iaload, 1) := by decide +kernel
theorem dX7_putBack_21 : decode cX7_putBack 21 = .ok (.iastore, 1) := by decide +kernel
theorem dX7_putBack_22 : decode cX7_putBack 22 = .ok (.iinc 1 1, 3) := by decide +kernel
theorem dX7_putBack_25 : decode cX7_putBack 25 = .ok (.goto (-23), 3) := by decide +kernel
theorem dX7_putBack_28 : decode cX7_putBack 28 = .ok (.return_, 1) := by decide +kernel
theorem dX7_does_0 : decode cX7_does 0 = .ok (.iload_n 2, 1) := by decide +kernel
theorem dX7_does_1 : decode cX7_does 1 = .ok (.bipush 10, 2) := by decide +kernel
theorem dX7_does_3 : decode cX7_does 3 = .ok (.if_icmp .ge 22, 3) := by decide +kernel
theorem dX7_does_6 : decode cX7_does 6 = .ok (.aload_n 0, 1) := by decide +kernel
theorem dX7_does_7 : decode cX7_does 7 = .ok (.iload_n 1, 1) := by decide +kernel
theorem dX7_does_8 : decode cX7_does 8 = .ok (.iload_n 2, 1) := by decide +kernel
theorem dX7_does_9 : decode cX7_does 9 = .ok (.invokevirtual 139, 3) := by decide +kernel
theorem dX7_does_12 : decode cX7_does 12 = .ok (.aload_n 0, 1) := by decide +kernel
theorem dX7_does_13 : decode cX7_does 13 = .ok (.dup, 1) := by decide +kernel
theorem dX7_does_14 : decode cX7_does 14 = .ok (.getfield 147, 3) := by decide +kernel
theorem dX7_does_17 : decode cX7_does 17 = .ok (.iload_n 2, 1) := by decide +kernel
theorem dX7_does_18 : decode cX7_does 18 = .ok (.iadd, 1) := by decide +kernel
theorem dX7_does_19 : decode cX7_does 19 = .ok (.putfield 147, 3) := by decide +kernel
theorem dX7_does_22 : decode cX7_does 22 = .ok (.goto 35, 3) := by decide +kernel
theorem dX7_does_25 : decode cX7_does 25 = .ok (.iload_n 2, 1) := by decide +kernel
theorem dX7_does_26 : decode cX7_does 26 = .ok (.bipush 10, 2) := by decide +kernel
theorem dX7_does_28 : decode cX7_does 28 = .ok (.isub, 1) := by decide +kernel
theorem dX7_does_29 : decode cX7_does 29 = .ok (.istore_n 3, 1) := by decide +kernel
theorem dX7_does_30 : decode cX7_does 30 = .ok (.aload_n 0, 1) := by decide +kernel
theorem dX7_does_31 : decode cX7_does 31 = .ok (.iload_n 3, 1) := by decide +kernel
theorem dX7_does_32 : decode cX7_does 32 = .ok (.invokevirtual 127, 3) := by decide +kernel
theorem dX7_does_35 : decode cX7_does 35 = .ok (.ifCond .eq 13, 3) := by decide +kernel
theorem dX7_does_38 : decode cX7_does 38 = .ok (.iload_n 1, 1) := by decide +kernel
theorem dX7_does_39 : decode cX7_does 39 = .ok (.aload_n 0, 1) := by decide +kernel
theorem dX7_does_40 : decode cX7_does 40 = .ok (.getfield 19, 3) := by decide +kernel
theorem dX7_does_43 : decode cX7_does 43 = .ok (.iload_n 3, 1) := by decide +kernel
theorem dX7_does_44 : decode cX7_does 44 = .ok (.iaload, 1) := by decide +kernel
theorem dX7_does_45 : decode cX7_does 45 = .ok (.if_icmp .lt 5, 3) := by decide +kernel
theorem dX7_does_48 : decode cX7_does 48 = .ok (.iconst 0, 1) := by decide +kernel
theorem dX7_does_49 : decode cX7_does 49 = .ok (.ireturn, 1) := by decide +kernel
theorem dX7_does_50 : decode cX7_does 50 = .ok (.aload_n 0, 1) := by decide +kernel
theorem dX7_does_51 : decode cX7_does 51 = .ok (.getfield 22, 3) := by decide +kernel
theorem dX7_does_54 : decode cX7_does 54 = .ok (.iload_n 3, 1) := by decide +kernel
theorem dX7_does_55 : decode cX7_does 55 = .ok (.iload_n 1, 1) := by decide +kernel
theorem dX7_does_56 : decode cX7_does 56 = .ok (.iastore, 1) := by decide +kernel
theorem dX7_does_57 : decode cX7_does 57 = .ok (.aload_n 0, 1) := by decide +kernel
theorem dX7_does_58 : decode cX7_does 58 = .ok (.dup, 1) := by decide +kernel
theorem dX7_does_59 : decode cX7_does 59 = .ok (.getfield 150, 3) := by decide +kernel
theorem dX7_does_62 : decode cX7_does 62 = .ok (.aload_n 0, 1) := by decide +kernel
theorem dX7_does_63 : decode cX7_does 63 = .ok (.invokevirtual 143, 3) := by decide +kernel
theorem dX7_does_66 : decode cX7_does 66 = .ok (.aload_n 0, 1) := by decide +kernel
theorem dX7_does_67 : decode cX7_does 67 = .ok (.getfield 71, 3) := by decide +kernel
theorem dX7_does_70 : decode cX7_does 70 = .ok (.if_icmp .ne 7, 3) := by decide +kernel
theorem dX7_does_73 : decode cX7_does 73 = .ok (.iconst 1, 1) := by decide +kernel
theorem dX7_does_74 : decode cX7_does 74 = .ok (.goto 4, 3) := by decide +kernel
theorem dX7_does_77 : decode cX7_does 77 = .ok (.iconst 0, 1) := by decide +kernel
theorem dX7_does_78 : decode cX7_does 78 = .ok (.iadd, 1) := by decide +kernel
theorem dX7_does_79 : decode cX7_does 79 = .ok (.putfield 150, 3) := by decide +kernel
theorem dX7_does_82 : decode cX7_does 82 = .ok (.iconst 1, 1) := by decide +kernel
theorem dX7_does_83 : decode cX7_does 83 = .ok (.ireturn, 1) := by decide +kernel
theorem dX7_goDay_0 : decode cX7_goDay 0 = .ok (.aload_n 0, 1) := by decide +kernel
theorem dX7_goDay_1 : decode cX7_goDay 1 = .ok (.iconst 0, 1) := by decide +kernel
theorem dX7_goDay_2 : decode cX7_goDay 2 = .ok (.putfield 147, 3) := by decide +kernel
theorem dX7_goDay_5 : decode cX7_goDay 5 = .ok (.aload_n 0, 1) := by decide +kernel
theorem dX7_goDay_6 : decode cX7_goDay 6 = .ok (.iconst 0, 1) := by decide +kernel
theorem dX7_goDay_7 : decode cX7_goDay 7 = .ok (.putfield 150, 3) := by decide +kernel
theorem dX7_goDay_10 : decode cX7_goDay 10 = .ok (.iconst 0, 1) := by decide +kernel
theorem dX7_goDay_11 : decode cX7_goDay 11 = .ok (.istore_n 3, 1) := by decide +kernel
theorem dX7_goDay_12 : decode cX7_goDay 12 = .ok (.iload_n 3, 1) := by decide +kernel
theorem dX7_goDay_13 : decode cX7_goDay 13 = .ok (.iload_n 2, 1) := by decide +kernel
theorem dX7_goDay_14 : decode cX7_goDay 14 = .ok (.if_icmp .ge 40, 3) := by decide +kernel
theorem dX7_goDay_17 : decode cX7_goDay 17 = .ok (.aload_n 0, 1) := by decide +kernel
theorem dX7_goDay_18 : decode cX7_goDay 18 = .ok (.aload_n 0, 1) := by decide +kernel
theorem dX7_goDay_19 : decode cX7_goDay 19 = .ok (.getfield 16, 3) := by decide +kernel
theorem dX7_goDay_22 : decode cX7_goDay 22 = .ok (.iload_n 1, 1) := by decide +kernel
theorem dX7_goDay_23 : decode cX7_goDay 23 = .ok (.iconst 2, 1) := by decide +kernel
theorem dX7_goDay_24 : decode cX7_goDay 24 = .ok (.iload_n 3, 1) := by decide +kernel
theorem dX7_goDay_25 : decode cX7_goDay 25 = .ok (.imul, 1) := by decide +kernel
theorem dX7_goDay_26 : decode cX7_goDay 26 = .ok (.iadd, 1) := by decide +kernel
theorem dX7_goDay_27 : decode cX7_goDay 27 = .ok (.iaload, 1) := by decide +kernel
theorem dX7_goDay_28 : decode cX7_goDay 28 = .ok (.aload_n 0, 1) := by decide +kernel
theorem dX7_goDay_29 : decode cX7_goDay 29 = .ok (.getfield 16, 3) := by decide +kernel
theorem dX7_goDay_32 : decode cX7_goDay 32 = .ok (.iload_n 1, 1) := by decide +kernel
theorem dX7_goDay_33 : decode cX7_goDay 33 = .ok (.iconst 2, 1) := by decide +kernel
theorem dX7_goDay_34 : decode cX7_goDay 34 = .ok (.iload_n 3, 1) := by decide +kernel
theorem dX7_goDay_35 : decode cX7_goDay 35 = .ok (.imul, 1) := by decide +kernel
theorem dX7_goDay_36 : decode cX7_goDay 36 = .ok (.iadd, 1) := by decide +kernel
theorem dX7_goDay_37 : decode cX7_goDay 37 = .ok (.iconst 1, 1) := by decide +kernel
theorem dX7_goDay_38 : decode cX7_goDay 38 = .ok (.iadd, 1) := by decide +kernel
theorem dX7_goDay_39 : decode cX7_goDay 39 = .ok (.iaload, 1) := by decide +kernel
theorem dX7_goDay_40 : decode cX7_goDay 40 = .ok (.invokevirtual 153, 3) := by decide +kernel
theorem dX7_goDay_43 : decode cX7_goDay 43 = .ok (.ifCond .ne 5, 3) := by decide +kernel
theorem dX7_goDay_46 : decode cX7_goDay 46 = .ok (.iload_n 3, 1) := by decide +kernel
theorem dX7_goDay_47 : decode cX7_goDay 47 = .ok (.ireturn, 1) := by decide +kernel
theorem dX7_goDay_48 : decode cX7_goDay 48 = .ok (.iinc 3 1, 3) := by decide +kernel
theorem dX7_goDay_51 : decode cX7_goDay 51 = .ok (.goto (-39), 3) := by decide +kernel
theorem dX7_goDay_54 : decode cX7_goDay 54 = .ok (.bipush (-9), 2) := by decide +kernel
theorem dX7_goDay_56 : decode cX7_goDay 56 = .ok (.ireturn, 1) := by decide +kernel
theorem dX7_refusesPair_0 : decode cX7_refusesPair 0 = .ok (.iload_n 2, 1) := by decide +kernel
theorem dX7_refusesPair_1 : decode cX7_refusesPair 1 = .ok (.bipush 10, 2) := by decide +kernel
theorem dX7_refusesPair_3 : decode cX7_refusesPair 3 = .ok (.if_icmp .lt 7, 3) := by decide +kernel
theorem dX7_refusesPair_6 : decode cX7_refusesPair 6 = .ok (.iconst 1, 1) := by decide +kernel
theorem dX7_refusesPair_7 : decode cX7_refusesPair 7 = .ok (.goto 4, 3) := by decide +kernel
theorem dX7_refusesPair_10 : decode cX7_refusesPair 10 = .ok (.iconst 0, 1) := by decide +kernel
theorem dX7_refusesPair_11 : decode cX7_refusesPair 11 = .ok (.istore_n 3, 1) := by decide +kernel
theorem dX7_refusesPair_12 : decode cX7_refusesPair 12 = .ok (.iload_n 2, 1) := by decide +kernel
theorem dX7_refusesPair_13 : decode cX7_refusesPair 13 = .ok (.iconst 0, 1) := by decide +kernel
theorem dX7_refusesPair_14 : decode cX7_refusesPair 14 = .ok (.bipush 14, 2) := by decide +kernel
theorem dX7_refusesPair_16 : decode cX7_refusesPair 16 = .ok (.invokestatic 67, 3) := by decide +kernel
theorem dX7_refusesPair_19 : decode cX7_refusesPair 19 = .ok (.ifCond .eq 16, 3) := by decide +kernel
theorem dX7_refusesPair_22 : decode cX7_refusesPair 22 = .ok (.iload_n 3, 1) := by decide +kernel
theorem dX7_refusesPair_23 : decode cX7_refusesPair 23 = .ok (.ifCond .eq 15, 3) := by decide +kernel
theorem dX7_refusesPair_26 : decode cX7_refusesPair 26 = .ok (.iload_n 1, 1) := by decide +kernel
theorem dX7_refusesPair_27 : decode cX7_refusesPair 27 = .ok (.iconst 0, 1) := by decide +kernel
theorem dX7_refusesPair_28 : decode cX7_refusesPair 28 = .ok (.iconst 4, 1) := by decide +kernel
theorem dX7_refusesPair_29 : decode cX7_refusesPair 29 = .ok (.invokestatic 67, 3) := by decide +kernel
theorem dX7_refusesPair_32 : decode cX7_refusesPair 32 = .ok (.ifCond .ne 6, 3) := by decide +kernel
theorem dX7_refusesPair_35 : decode cX7_refusesPair 35 = .ok (.bipush (-2), 2) := by decide +kernel
theorem dX7_refusesPair_37 : decode cX7_refusesPair 37 = .ok (.ireturn, 1) := by decide +kernel
theorem dX7_refusesPair_38 : decode cX7_refusesPair 38 = .ok (.iload_n 3, 1) := by decide +kernel
theorem dX7_refusesPair_39 : decode cX7_refusesPair 39 = .ok (.ifCond .ne 15, 3) := by decide +kernel
theorem dX7_refusesPair_42 : decode cX7_refusesPair 42 = .ok (.aload_n 0, 1) := by decide +kernel
theorem dX7_refusesPair_43 : decode cX7_refusesPair 43 = .ok (.iload_n 1, 1) := by decide +kernel
theorem dX7_refusesPair_44 : decode cX7_refusesPair 44 = .ok (.invokevirtual 133, 3) := by decide +kernel
theorem dX7_refusesPair_47 : decode cX7_refusesPair 47 = .ok (.ifCond .ne 7, 3) := by decide +kernel
theorem dX7_refusesPair_50 : decode cX7_refusesPair 50 = .ok (.iconst (-1), 1) := by decide +kernel
theorem dX7_refusesPair_51 : decode cX7_refusesPair 51 = .ok (.goto 4, 3) := by decide +kernel
theorem dX7_refusesPair_54 : decode cX7_refusesPair 54 = .ok (.iconst 0, 1) := by decide +kernel
theorem dX7_refusesPair_55 : decode cX7_refusesPair 55 = .ok (.ireturn, 1) := by decide +kernel
theorem dX7_day_0 : decode cX7_day 0 = .ok (.aload_n 0, 1) := by decide +kernel
theorem dX7_day_1 : decode cX7_day 1 = .ok (.iconst 0, 1) := by decide +kernel
theorem dX7_day_2 : decode cX7_day 2 = .ok (.putfield 61, 3) := by decide +kernel
theorem dX7_day_5 : decode cX7_day 5 = .ok (.iload_n 1, 1) := by decide +kernel
theorem dX7_day_6 : decode cX7_day 6 = .ok (.invokestatic 80, 3) := by decide +kernel
theorem dX7_day_9 : decode cX7_day 9 = .ok (.ifCond .ne 5, 3) := by decide +kernel
theorem dX7_day_12 : decode cX7_day 12 = .ok (.iconst (-1), 1) := by decide +kernel
theorem dX7_day_13 : decode cX7_day 13 = .ok (.ireturn, 1) := by decide +kernel
theorem dX7_day_14 : decode cX7_day 14 = .ok (.iload_n 2, 1) := by decide +kernel
theorem dX7_day_15 : decode cX7_day 15 = .ok (.invokestatic 84, 3) := by decide +kernel
theorem dX7_day_18 : decode cX7_day 18 = .ok (.ifCond .eq 36, 3) := by decide +kernel
theorem dX7_day_21 : decode cX7_day 21 = .ok (.iload 4, 2) := by decide +kernel
theorem dX7_day_23 : decode cX7_day 23 = .ok (.iconst 0, 1) := by decide +kernel
theorem dX7_day_24 : decode cX7_day 24 = .ok (.bipush 20, 2) := by decide +kernel
theorem dX7_day_26 : decode cX7_day 26 = .ok (.invokestatic 67, 3) := by decide +kernel
theorem dX7_day_29 : decode cX7_day 29 = .ok (.ifCond .eq 25, 3) := by decide +kernel
theorem dX7_day_32 : decode cX7_day 32 = .ok (.iload 5, 2) := by decide +kernel
theorem dX7_day_34 : decode cX7_day 34 = .ok (.iconst 0, 1) := by decide +kernel
theorem dX7_day_35 : decode cX7_day 35 = .ok (.iconst 4, 1) := by decide +kernel
theorem dX7_day_36 : decode cX7_day 36 = .ok (.invokestatic 67, 3) := by decide +kernel
theorem dX7_day_39 : decode cX7_day 39 = .ok (.ifCond .ne 18, 3) := by decide +kernel
theorem dX7_day_42 : decode cX7_day 42 = .ok (.iload 5, 2) := by decide +kernel
theorem dX7_day_44 : decode cX7_day 44 = .ok (.bipush 10, 2) := by decide +kernel
theorem dX7_day_46 : decode cX7_day 46 = .ok (.bipush 14, 2) := by decide +kernel
theorem dX7_day_48 : decode cX7_day 48 = .ok (.invokestatic 67, 3) := by decide +kernel
theorem dX7_day_51 : decode cX7_day 51 = .ok (.ifCond .ne 6, 3) := by decide +kernel
theorem dX7_day_54 : decode cX7_day 54 = .ok (.bipush (-2), 2) := by decide +kernel
theorem dX7_day_56 : decode cX7_day 56 = .ok (.ireturn, 1) := by decide +kernel
theorem dX7_day_57 : decode cX7_day 57 = .ok (.aload_n 0, 1) := by decide +kernel
theorem dX7_day_58 : decode cX7_day 58 = .ok (.iload_n 1, 1) := by decide +kernel
theorem dX7_day_59 : decode cX7_day 59 = .ok (.iload_n 2, 1) := by decide +kernel
theorem dX7_day_60 : decode cX7_day 60 = .ok (.iload_n 3, 1) := by decide +kernel
theorem dX7_day_61 : decode cX7_day 61 = .ok (.iconst 2, 1) := by decide +kernel
theorem dX7_day_62 : decode cX7_day 62 = .ok (.iload 4, 2) := by decide +kernel
theorem dX7_day_64 : decode cX7_day 64 = .ok (.imul, 1) := by decide +kernel
theorem dX7_day_65 : decode cX7_day 65 = .ok (.invokevirtual 87, 3) := by decide +kernel
theorem dX7_day_68 : decode cX7_day 68 = .ok (.istore 6, 2) := by decide +kernel
theorem dX7_day_70 : decode cX7_day 70 = .ok (.iload 6, 2) := by decide +kernel
theorem dX7_day_72 : decode cX7_day 72 = .ok (.ifCond .eq 10, 3) := by decide +kernel
theorem dX7_day_75 : decode cX7_day 75 = .ok (.aload_n 0, 1) := by decide +kernel
theorem dX7_day_76 : decode cX7_day 76 = .ok (.iload 6, 2) := by decide +kernel
theorem dX7_day_78 : decode cX7_day 78 = .ok (.invokevirtual 91, 3) := by decide +kernel
theorem dX7_day_81 : decode cX7_day 81 = .ok (.ireturn, 1) := by decide +kernel
theorem dX7_day_82 : decode cX7_day 82 = .ok (.aload_n 0, 1) := by decide +kernel
theorem dX7_day_83 : decode cX7_day 83 = .ok (.getfield 71, 3) := by decide +kernel
theorem dX7_day_86 : decode cX7_day 86 = .ok (.ifCond .ne 6, 3) := by decide +kernel
theorem dX7_day_89 : decode cX7_day 89 = .ok (.bipush (-3), 2) := by decide +kernel
theorem dX7_day_91 : decode cX7_day 91 = .ok (.ireturn, 1) := by decide +kernel
theorem dX7_day_92 : decode cX7_day 92 = .ok (.bipush 60, 2) := by decide +kernel
theorem dX7_day_94 : decode cX7_day 94 = .ok (.iload_n 1, 1) := by decide +kernel
theorem dX7_day_95 : decode cX7_day 95 = .ok (.imul, 1) := by decide +kernel
theorem dX7_day_96 : decode cX7_day 96 = .ok (.iload_n 3, 1) := by decide +kernel
theorem dX7_day_97 : decode cX7_day 97 = .ok (.iadd, 1) := by decide +kernel
theorem dX7_day_98 : decode cX7_day 98 = .ok (.istore 7, 2) := by decide +kernel
theorem dX7_day_100 : decode cX7_day 100 = .ok (.iconst 0, 1) := by decide +kernel
theorem dX7_day_101 : decode cX7_day 101 = .ok (.istore 8, 2) := by decide +kernel
theorem dX7_day_103 : decode cX7_day 103 = .ok (.iload 8, 2) := by decide +kernel
theorem dX7_day_105 : decode cX7_day 105 = .ok (.iload 4, 2) := by decide +kernel
theorem dX7_day_107 : decode cX7_day 107 = .ok (.if_icmp .ge 49, 3) := by decide +kernel
theorem dX7_day_110 : decode cX7_day 110 = .ok (.aload_n 0, 1) := by decide +kernel
theorem dX7_day_111 : decode cX7_day 111 = .ok (.aload_n 0, 1) := by decide +kernel
theorem dX7_day_112 : decode cX7_day 112 = .ok (.getfield 16, 3) := by decide +kernel
theorem dX7_day_115 : decode cX7_day 115 = .ok (.iload 7, 2) := by decide +kernel
theorem dX7_day_117 : decode cX7_day 117 = .ok (.iconst 2, 1) := by decide +kernel
theorem dX7_day_118 : decode cX7_day 118 = .ok (.iload 8, 2) := by decide +kernel
theorem dX7_day_120 : decode cX7_day 120 = .ok (.imul, 1) := by decide +kernel
theorem dX7_day_121 : decode cX7_day 121 = .ok (.iadd, 1) := by decide +kernel
theorem dX7_day_122 : decode cX7_day 122 = .ok (.iaload, 1) := by decide +kernel
theorem dX7_day_123 : decode cX7_day 123 = .ok (.aload_n 0, 1) := by decide +kernel
theorem dX7_day_124 : decode cX7_day 124 = .ok (.getfield 16, 3) := by decide +kernel
theorem dX7_day_127 : decode cX7_day 127 = .ok (.iload 7, 2) := by decide +kernel
theorem dX7_day_129 : decode cX7_day 129 = .ok (.iconst 2, 1) := by decide +kernel
theorem dX7_day_130 : decode cX7_day 130 = .ok (.iload 8, 2) := by decide +kernel
theorem dX7_day_132 : decode cX7_day 132 = .ok (.imul, 1) := by decide +kernel
theorem dX7_day_133 : decode cX7_day 133 = .ok (.iadd, 1) := by decide +kernel
theorem dX7_day_134 : decode cX7_day 134 = .ok (.iconst 1, 1) := by decide +kernel
theorem dX7_day_135 : decode cX7_day 135 = .ok (.iadd, 1) := by decide +kernel
theorem dX7_day_136 : decode cX7_day 136 = .ok (.iaload, 1) := by decide +kernel
theorem dX7_day_137 : decode cX7_day 137 = .ok (.invokevirtual 156, 3) := by decide +kernel
theorem dX7_day_140 : decode cX7_day 140 = .ok (.istore 9, 2) := by decide +kernel
theorem dX7_day_142 : decode cX7_day 142 = .ok (.iload 9, 2) := by decide +kernel
theorem dX7_day_144 : decode cX7_day 144 = .ok (.ifCond .eq 6, 3) := by decide +kernel
theorem dX7_day_147 : decode cX7_day 147 = .ok (.iload 9, 2) := by decide +kernel
theorem dX7_day_149 : decode cX7_day 149 = .ok (.ireturn, 1) := by decide +kernel
theorem dX7_day_150 : decode cX7_day 150 = .ok (.iinc 8 1, 3) := by decide +kernel
theorem dX7_day_153 : decode cX7_day 153 = .ok (.goto (-50), 3) := by decide +kernel
theorem dX7_day_156 : decode cX7_day 156 = .ok (.aload_n 0, 1) := by decide +kernel
theorem dX7_day_157 : decode cX7_day 157 = .ok (.invokevirtual 160, 3) := by decide +kernel
theorem dX7_day_160 : decode cX7_day 160 = .ok (.aload_n 0, 1) := by decide +kernel
theorem dX7_day_161 : decode cX7_day 161 = .ok (.iload 7, 2) := by decide +kernel
theorem dX7_day_163 : decode cX7_day 163 = .ok (.iload 4, 2) := by decide +kernel
theorem dX7_day_165 : decode cX7_day 165 = .ok (.invokevirtual 163, 3) := by decide +kernel
theorem dX7_day_168 : decode cX7_day 168 = .ok (.istore 8, 2) := by decide +kernel
theorem dX7_day_170 : decode cX7_day 170 = .ok (.aload_n 0, 1) := by decide +kernel
theorem dX7_day_171 : decode cX7_day 171 = .ok (.iload 5, 2) := by decide +kernel
theorem dX7_day_173 : decode cX7_day 173 = .ok (.invokevirtual 166, 3) := by decide +kernel
theorem dX7_day_176 : decode cX7_day 176 = .ok (.istore 9, 2) := by decide +kernel
theorem dX7_day_178 : decode cX7_day 178 = .ok (.aload_n 0, 1) := by decide +kernel
theorem dX7_day_179 : decode cX7_day 179 = .ok (.invokevirtual 169, 3) := by decide +kernel
theorem dX7_day_182 : decode cX7_day 182 = .ok (.iload 5, 2) := by decide +kernel
theorem dX7_day_184 : decode cX7_day 184 = .ok (.iconst 1, 1) := by decide +kernel
theorem dX7_day_185 : decode cX7_day 185 = .ok (.if_icmp .ne 8, 3) := by decide +kernel
theorem dX7_day_188 : decode cX7_day 188 = .ok (.iload 8, 2) := by decide +kernel
theorem dX7_day_190 : decode cX7_day 190 = .ok (.goto 20, 3) := by decide +kernel
theorem dX7_day_193 : decode cX7_day 193 = .ok (.iload 8, 2) := by decide +kernel
theorem dX7_day_195 : decode cX7_day 195 = .ok (.bipush (-9), 2) := by decide +kernel
theorem dX7_day_197 : decode cX7_day 197 = .ok (.if_icmp .ne 8, 3) := by decide +kernel
theorem dX7_day_200 : decode cX7_day 200 = .ok (.iload 9, 2) := by decide +kernel
theorem dX7_day_202 : decode cX7_day 202 = .ok (.goto 8, 3) := by decide +kernel
theorem dX7_day_205 : decode cX7_day 205 = .ok (.bipush (-100), 2) := by decide +kernel
theorem dX7_day_207 : decode cX7_day 207 = .ok (.iload 8, 2) := by decide +kernel
theorem dX7_day_209 : decode cX7_day 209 = .ok (.isub, 1) := by decide +kernel
theorem dX7_day_210 : decode cX7_day 210 = .ok (.ireturn, 1) := by decide +kernel
theorem dX7_allShades_0 : decode cX7_allShades 0 = .ok (.iconst 0, 1) := by decide +kernel
theorem dX7_allShades_1 : decode cX7_allShades 1 = .ok (.istore_n 1, 1) := by decide +kernel
theorem dX7_allShades_2 : decode cX7_allShades 2 = .ok (.iconst 0, 1) := by decide +kernel
theorem dX7_allShades_3 : decode cX7_allShades 3 = .ok (.istore_n 2, 1) := by decide +kernel
theorem dX7_allShades_4 : decode cX7_allShades 4 = .ok (.iload_n 2, 1) := by decide +kernel
theorem dX7_allShades_5 : decode cX7_allShades 5 = .ok (.aload_n 0, 1) := by decide +kernel
theorem dX7_allShades_6 : decode cX7_allShades 6 = .ok (.getfield 71, 3) := by decide +kernel
theorem dX7_allShades_9 : decode cX7_allShades 9 = .ok (.if_icmp .ge 18, 3) := by decide +kernel
theorem dX7_allShades_12 : decode cX7_allShades 12 = .ok (.iload_n 1, 1) := by decide +kernel
theorem dX7_allShades_13 : decode cX7_allShades 13 = .ok (.aload_n 0, 1) := by decide +kernel
theorem dX7_allShades_14 : decode cX7_allShades 14 = .ok (.getfield 22, 3) := by decide +kernel
theorem dX7_allShades_17 : decode cX7_allShades 17 = .ok (.iload_n 2, 1) := by decide +kernel
theorem dX7_allShades_18 : decode cX7_allShades 18 = .ok (.iaload, 1) := by decide +kernel
theorem dX7_allShades_19 : decode cX7_allShades 19 = .ok (.iadd, 1) := by decide +kernel
theorem dX7_allShades_20 : decode cX7_allShades 20 = .ok (.istore_n 1, 1) := by decide +kernel
theorem dX7_allShades_21 : decode cX7_allShades 21 = .ok (.iinc 2 1, 3) := by decide +kernel
theorem dX7_allShades_24 : decode cX7_allShades 24 = .ok (.goto (-20), 3) := by decide +kernel
theorem dX7_allShades_27 : decode cX7_allShades 27 = .ok (.iload_n 1, 1) := by decide +kernel
theorem dX7_allShades_28 : decode cX7_allShades 28 = .ok (.ireturn, 1) := by decide +kernel
theorem dX7_tellDay_0 : decode cX7_tellDay 0 = .ok (.iload_n 1, 1) := by decide +kernel
theorem dX7_tellDay_1 : decode cX7_tellDay 1 = .ok (.bipush 10, 2) := by decide +kernel
theorem dX7_tellDay_3 : decode cX7_tellDay 3 = .ok (.if_icmp .lt 29, 3) := by decide +kernel
theorem dX7_tellDay_6 : decode cX7_tellDay 6 = .ok (.aload_n 0, 1) := by decide +kernel
theorem dX7_tellDay_7 : decode cX7_tellDay 7 = .ok (.iload_n 1, 1) := by decide +kernel
theorem dX7_tellDay_8 : decode cX7_tellDay 8 = .ok (.bipush 10, 2) := by decide +kernel
theorem dX7_tellDay_10 : decode cX7_tellDay 10 = .ok (.isub, 1) := by decide +kernel
theorem dX7_tellDay_11 : decode cX7_tellDay 11 = .ok (.invokevirtual 127, 3) := by decide +kernel
theorem dX7_tellDay_14 : decode cX7_tellDay 14 = .ok (.ifCond .eq 15, 3) := by decide +kernel
theorem dX7_tellDay_17 : decode cX7_tellDay 17 = .ok (.aload_n 0, 1) := by decide +kernel
theorem dX7_tellDay_18 : decode cX7_tellDay 18 = .ok (.getfield 22, 3) := by decide +kernel
theorem dX7_tellDay_21 : decode cX7_tellDay 21 = .ok (.iload_n 1, 1) := by decide +kernel
theorem dX7_tellDay_22 : decode cX7_tellDay 22 = .ok (.bipush 10, 2) := by decide +kernel
theorem dX7_tellDay_24 : decode cX7_tellDay 24 = .ok (.isub, 1) := by decide +kernel
theorem dX7_tellDay_25 : decode cX7_tellDay 25 = .ok (.iaload, 1) := by decide +kernel
theorem dX7_tellDay_26 : decode cX7_tellDay 26 = .ok (.goto 5, 3) := by decide +kernel
theorem dX7_tellDay_29 : decode cX7_tellDay 29 = .ok (.bipush (-9), 2) := by decide +kernel
theorem dX7_tellDay_31 : decode cX7_tellDay 31 = .ok (.ireturn, 1) := by decide +kernel
theorem dX7_tellDay_32 : decode cX7_tellDay 32 = .ok (.iload_n 1, 1) := by decide +kernel
theorem dX7_tellDay_33 : decode cX7_tellDay 33 = .ok (.tableswitch 46 0 3 #[31, 46, 36, 41], 31) := by decide +kernel
theorem dX7_tellDay_64 : decode cX7_tellDay 64 = .ok (.aload_n 0, 1) := by decide +kernel
theorem dX7_tellDay_65 : decode cX7_tellDay 65 = .ok (.invokevirtual 143, 3) := by decide +kernel
theorem dX7_tellDay_68 : decode cX7_tellDay 68 = .ok (.ireturn, 1) := by decide +kernel
theorem dX7_tellDay_69 : decode cX7_tellDay 69 = .ok (.aload_n 0, 1) := by decide +kernel
theorem dX7_tellDay_70 : decode cX7_tellDay 70 = .ok (.invokevirtual 172, 3) := by decide +kernel
theorem dX7_tellDay_73 : decode cX7_tellDay 73 = .ok (.ireturn, 1) := by decide +kernel
theorem dX7_tellDay_74 : decode cX7_tellDay 74 = .ok (.aload_n 0, 1) := by decide +kernel
theorem dX7_tellDay_75 : decode cX7_tellDay 75 = .ok (.getfield 147, 3) := by decide +kernel
theorem dX7_tellDay_78 : decode cX7_tellDay 78 = .ok (.ireturn, 1) := by decide +kernel
theorem dX7_tellDay_79 : decode cX7_tellDay 79 = .ok (.aload_n 0, 1) := by decide +kernel
theorem dX7_tellDay_80 : decode cX7_tellDay 80 = .ok (.getfield 150, 3) := by decide +kernel
theorem dX7_tellDay_83 : decode cX7_tellDay 83 = .ok (.ireturn, 1) := by decide +kernel
theorem dX7_manyOf_0 : decode cX7_manyOf 0 = .ok (.iconst 1, 1) := by decide +kernel
theorem dX7_manyOf_1 : decode cX7_manyOf 1 = .ok (.istore_n 1, 1) := by decide +kernel
theorem dX7_manyOf_2 : decode cX7_manyOf 2 = .ok (.iconst 0, 1) := by decide +kernel
theorem dX7_manyOf_3 : decode cX7_manyOf 3 = .ok (.istore_n 2, 1) := by decide +kernel
theorem dX7_manyOf_4 : decode cX7_manyOf 4 = .ok (.iload_n 2, 1) := by decide +kernel
theorem dX7_manyOf_5 : decode cX7_manyOf 5 = .ok (.aload_n 0, 1) := by decide +kernel
theorem dX7_manyOf_6 : decode cX7_manyOf 6 = .ok (.getfield 71, 3) := by decide +kernel
theorem dX7_manyOf_9 : decode cX7_manyOf 9 = .ok (.if_icmp .ge 18, 3) := by decide +kernel
theorem dX7_manyOf_12 : decode cX7_manyOf 12 = .ok (.iload_n 1, 1) := by decide +kernel
theorem dX7_manyOf_13 : decode cX7_manyOf 13 = .ok (.aload_n 0, 1) := by decide +kernel
theorem dX7_manyOf_14 : decode cX7_manyOf 14 = .ok (.getfield 19, 3) := by decide +kernel
theorem dX7_manyOf_17 : decode cX7_manyOf 17 = .ok (.iload_n 2, 1) := by decide +kernel
theorem dX7_manyOf_18 : decode cX7_manyOf 18 = .ok (.iaload, 1) := by decide +kernel
theorem dX7_manyOf_19 : decode cX7_manyOf 19 = .ok (.imul, 1) := by decide +kernel
theorem dX7_manyOf_20 : decode cX7_manyOf 20 = .ok (.istore_n 1, 1) := by decide +kernel
theorem dX7_manyOf_21 : decode cX7_manyOf 21 = .ok (.iinc 2 1, 3) := by decide +kernel
theorem dX7_manyOf_24 : decode cX7_manyOf 24 = .ok (.goto (-20), 3) := by decide +kernel
theorem dX7_manyOf_27 : decode cX7_manyOf 27 = .ok (.iload_n 1, 1) := by decide +kernel
theorem dX7_manyOf_28 : decode cX7_manyOf 28 = .ok (.ireturn, 1) := by decide +kernel
theorem dX7_movedBy_0 : decode cX7_movedBy 0 = .ok (.iload_n 1, 1) := by decide +kernel
theorem dX7_movedBy_1 : decode cX7_movedBy 1 = .ok (.istore 4, 2) := by decide +kernel
theorem dX7_movedBy_3 : decode cX7_movedBy 3 = .ok (.iconst 1, 1) := by decide +kernel
theorem dX7_movedBy_4 : decode cX7_movedBy 4 = .ok (.istore 5, 2) := by decide +kernel
theorem dX7_movedBy_6 : decode cX7_movedBy 6 = .ok (.iconst 0, 1) := by decide +kernel
theorem dX7_movedBy_7 : decode cX7_movedBy 7 = .ok (.istore 6, 2) := by decide +kernel
theorem dX7_movedBy_9 : decode cX7_movedBy 9 = .ok (.iconst 0, 1) := by decide +kernel
theorem dX7_movedBy_10 : decode cX7_movedBy 10 = .ok (.istore 7, 2) := by decide +kernel
theorem dX7_movedBy_12 : decode cX7_movedBy 12 = .ok (.iload 7, 2) := by decide +kernel
theorem dX7_movedBy_14 : decode cX7_movedBy 14 = .ok (.aload_n 0, 1) := by decide +kernel
theorem dX7_movedBy_15 : decode cX7_movedBy 15 = .ok (.getfield 71, 3) := by decide +kernel
theorem dX7_movedBy_18 : decode cX7_movedBy 18 = .ok (.if_icmp .ge 123, 3) := by decide +kernel
theorem dX7_movedBy_21 : decode cX7_movedBy 21 = .ok (.iload 4, 2) := by decide +kernel
theorem dX7_movedBy_23 : decode cX7_movedBy 23 = .ok (.aload_n 0, 1) := by decide +kernel
theorem dX7_movedBy_24 : decode cX7_movedBy 24 = .ok (.getfield 19, 3) := by decide +kernel
theorem dX7_movedBy_27 : decode cX7_movedBy 27 = .ok (.iload 7, 2) := by decide +kernel
theorem dX7_movedBy_29 : decode cX7_movedBy 29 = .ok (.iaload, 1) := by decide +kernel
theorem dX7_movedBy_30 : decode cX7_movedBy 30 = .ok (.irem, 1) := by decide +kernel
theorem dX7_movedBy_31 : decode cX7_movedBy 31 = .ok (.istore 8, 2) := by decide +kernel
theorem dX7_movedBy_33 : decode cX7_movedBy 33 = .ok (.iload 4, 2) := by decide +kernel
theorem dX7_movedBy_35 : decode cX7_movedBy 35 = .ok (.aload_n 0, 1) := by decide +kernel
theorem dX7_movedBy_36 : decode cX7_movedBy 36 = .ok (.getfield 19, 3) := by decide +kernel
theorem dX7_movedBy_39 : decode cX7_movedBy 39 = .ok (.iload 7, 2) := by decide +kernel
theorem dX7_movedBy_41 : decode cX7_movedBy 41 = .ok (.iaload, 1) := by decide +kernel
theorem dX7_movedBy_42 : decode cX7_movedBy 42 = .ok (.idiv, 1) := by decide +kernel
theorem dX7_movedBy_43 : decode cX7_movedBy 43 = .ok (.istore 4, 2) := by decide +kernel
theorem dX7_movedBy_45 : decode cX7_movedBy 45 = .ok (.aload_n 0, 1) := by decide +kernel
theorem dX7_movedBy_46 : decode cX7_movedBy 46 = .ok (.getfield 31, 3) := by decide +kernel
theorem dX7_movedBy_49 : decode cX7_movedBy 49 = .ok (.iload_n 2, 1) := by decide +kernel
theorem dX7_movedBy_50 : decode cX7_movedBy 50 = .ok (.iaload, 1) := by decide +kernel
theorem dX7_movedBy_51 : decode cX7_movedBy 51 = .ok (.iload 7, 2) := by decide +kernel
theorem dX7_movedBy_53 : decode cX7_movedBy 53 = .ok (.invokestatic 124, 3) := by decide +kernel
theorem dX7_movedBy_56 : decode cX7_movedBy 56 = .ok (.ifCond .eq 19, 3) := by decide +kernel
theorem dX7_movedBy_59 : decode cX7_movedBy 59 = .ok (.aload_n 0, 1) := by decide +kernel
theorem dX7_movedBy_60 : decode cX7_movedBy 60 = .ok (.iload_n 2, 1) := by decide +kernel
theorem dX7_movedBy_61 : decode cX7_movedBy 61 = .ok (.invokevirtual 136, 3) := by decide +kernel
theorem dX7_movedBy_64 : decode cX7_movedBy 64 = .ok (.aload_n 0, 1) := by decide +kernel
theorem dX7_movedBy_65 : decode cX7_movedBy 65 = .ok (.getfield 19, 3) := by decide +kernel
theorem dX7_movedBy_68 : decode cX7_movedBy 68 = .ok (.iload 7, 2) := by decide +kernel
theorem dX7_movedBy_70 : decode cX7_movedBy 70 = .ok (.iaload, 1) := by decide +kernel
theorem dX7_movedBy_71 : decode cX7_movedBy 71 = .ok (.irem, 1) := by decide +kernel
theorem dX7_movedBy_72 : decode cX7_movedBy 72 = .ok (.goto 4, 3) := by decide +kernel
theorem dX7_movedBy_75 : decode cX7_movedBy 75 = .ok (.iconst 0, 1) := by decide +kernel
theorem dX7_movedBy_76 : decode cX7_movedBy 76 = .ok (.istore 9, 2) := by decide +kernel
theorem dX7_movedBy_78 : decode cX7_movedBy 78 = .ok (.iload_n 3, 1) := by decide +kernel
theorem dX7_movedBy_79 : decode cX7_movedBy 79 = .ok (.ifCond .eq 19, 3) := by decide +kernel
theorem dX7_movedBy_82 : decode cX7_movedBy 82 = .ok (.iload 8, 2) := by decide +kernel
theorem dX7_movedBy_84 : decode cX7_movedBy 84 = .ok (.aload_n 0, 1) := by decide +kernel
theorem dX7_movedBy_85 : decode cX7_movedBy 85 = .ok (.getfield 19, 3) := by decide +kernel
theorem dX7_movedBy_88 : decode cX7_movedBy 88 = .ok (.iload 7, 2) := by decide +kernel
theorem dX7_movedBy_90 : decode cX7_movedBy 90 = .ok (.iaload, 1) := by decide +kernel
theorem dX7_movedBy_91 : decode cX7_movedBy 91 = .ok (.iadd, 1) := by decide +kernel
theorem dX7_movedBy_92 : decode cX7_movedBy 92 = .ok (.iload 9, 2) := by decide +kernel
theorem dX7_movedBy_94 : decode cX7_movedBy 94 = .ok (.isub, 1) := by decide +kernel
theorem dX7_movedBy_95 : decode cX7_movedBy 95 = .ok (.goto 8, 3) := by decide +kernel
theorem dX7_movedBy_98 : decode cX7_movedBy 98 = .ok (.iload 8, 2) := by decide +kernel
theorem dX7_movedBy_100 : decode cX7_movedBy 100 = .ok (.iload 9, 2) := by decide +kernel
theorem dX7_movedBy_102 : decode cX7_movedBy 102 = .ok (.iadd, 1) := by decide +kernel
theorem dX7_movedBy_103 : decode cX7_movedBy 103 = .ok (.istore 10, 2) := by decide +kernel
theorem dX7_movedBy_105 : decode cX7_movedBy 105 = .ok (.iload 6, 2) := by decide +kernel
theorem dX7_movedBy_107 : decode cX7_movedBy 107 = .ok (.iload 10, 2) := by decide +kernel
theorem dX7_movedBy_109 : decode cX7_movedBy 109 = .ok (.aload_n 0, 1) := by decide +kernel
theorem dX7_movedBy_110 : decode cX7_movedBy 110 = .ok (.getfield 19, 3) := by decide +kernel
theorem dX7_movedBy_113 : decode cX7_movedBy 113 = .ok (.iload 7, 2) := by decide +kernel
theorem dX7_movedBy_115 : decode cX7_movedBy 115 = .ok (.iaload, 1) := by decide +kernel
theorem dX7_movedBy_116 : decode cX7_movedBy 116 = .ok (.irem, 1) := by decide +kernel
theorem dX7_movedBy_117 : decode cX7_movedBy 117 = .ok (.iload 5, 2) := by decide +kernel
theorem dX7_movedBy_119 : decode cX7_movedBy 119 = .ok (.imul, 1) := by decide +kernel
theorem dX7_movedBy_120 : decode cX7_movedBy 120 = .ok (.iadd, 1) := by decide +kernel
theorem dX7_movedBy_121 : decode cX7_movedBy 121 = .ok (.istore 6, 2) := by decide +kernel
theorem dX7_movedBy_123 : decode cX7_movedBy 123 = .ok (.iload 5, 2) := by decide +kernel
theorem dX7_movedBy_125 : decode cX7_movedBy 125 = .ok (.aload_n 0, 1) := by decide +kernel
theorem dX7_movedBy_126 : decode cX7_movedBy 126 = .ok (.getfield 19, 3) := by decide +kernel
theorem dX7_movedBy_129 : decode cX7_movedBy 129 = .ok (.iload 7, 2) := by decide +kernel
theorem dX7_movedBy_131 : decode cX7_movedBy 131 = .ok (.iaload, 1) := by decide +kernel
theorem dX7_movedBy_132 : decode cX7_movedBy 132 = .ok (.imul, 1) := by decide +kernel
theorem dX7_movedBy_133 : decode cX7_movedBy 133 = .ok (.istore 5, 2) := by decide +kernel
theorem dX7_movedBy_135 : decode cX7_movedBy 135 = .ok (.iinc 7 1, 3) := by decide +kernel
theorem dX7_movedBy_138 : decode cX7_movedBy 138 = .ok (.goto (-126), 3) := by decide +kernel
theorem dX7_movedBy_141 : decode cX7_movedBy 141 = .ok (.iload 6, 2) := by decide +kernel
theorem dX7_movedBy_143 : decode cX7_movedBy 143 = .ok (.ireturn, 1) := by decide +kernel
theorem dX7_findMany_0 : decode cX7_findMany 0 = .ok (.aload_n 0, 1) := by decide +kernel
theorem dX7_findMany_1 : decode cX7_findMany 1 = .ok (.invokevirtual 175, 3) := by decide +kernel
theorem dX7_findMany_4 : decode cX7_findMany 4 = .ok (.istore_n 2, 1) := by decide +kernel
theorem dX7_findMany_5 : decode cX7_findMany 5 = .ok (.iconst 0, 1) := by decide +kernel
theorem dX7_findMany_6 : decode cX7_findMany 6 = .ok (.istore_n 3, 1) := by decide +kernel
theorem dX7_findMany_7 : decode cX7_findMany 7 = .ok (.iload_n 3, 1) := by decide +kernel
theorem dX7_findMany_8 : decode cX7_findMany 8 = .ok (.iload_n 2, 1) := by decide +kernel
theorem dX7_findMany_9 : decode cX7_findMany 9 = .ok (.if_icmp .ge 17, 3) := by decide +kernel
theorem dX7_findMany_12 : decode cX7_findMany 12 = .ok (.aload_n 0, 1) := by decide +kernel
theorem dX7_findMany_13 : decode cX7_findMany 13 = .ok (.getfield 46, 3) := by decide +kernel
theorem dX7_findMany_16 : decode cX7_findMany 16 = .ok (.iload_n 3, 1) := by decide +kernel
theorem dX7_findMany_17 : decode cX7_findMany 17 = .ok (.bipush (-9), 2) := by decide +kernel
theorem dX7_findMany_19 : decode cX7_findMany 19 = .ok (.iastore, 1) := by decide +kernel
theorem dX7_findMany_20 : decode cX7_findMany 20 = .ok (.iinc 3 1, 3) := by decide +kernel
theorem dX7_findMany_23 : decode cX7_findMany 23 = .ok (.goto (-16), 3) := by decide +kernel
theorem dX7_findMany_26 : decode cX7_findMany 26 = .ok (.aload_n 0, 1) := by decide +kernel
theorem dX7_findMany_27 : decode cX7_findMany 27 = .ok (.getfield 46, 3) := by decide +kernel
theorem dX7_findMany_30 : decode cX7_findMany 30 = .ok (.iconst 0, 1) := by decide +kernel
theorem dX7_findMany_31 : decode cX7_findMany 31 = .ok (.iconst 0, 1) := by decide +kernel
theorem dX7_findMany_32 : decode cX7_findMany 32 = .ok (.iastore, 1) := by decide +kernel
theorem dX7_findMany_33 : decode cX7_findMany 33 = .ok (.aload_n 0, 1) := by decide +kernel
theorem dX7_findMany_34 : decode cX7_findMany 34 = .ok (.getfield 49, 3) := by decide +kernel
theorem dX7_findMany_37 : decode cX7_findMany 37 = .ok (.iconst 0, 1) := by decide +kernel
theorem dX7_findMany_38 : decode cX7_findMany 38 = .ok (.iconst 0, 1) := by decide +kernel
theorem dX7_findMany_39 : decode cX7_findMany 39 = .ok (.iastore, 1) := by decide +kernel
theorem dX7_findMany_40 : decode cX7_findMany 40 = .ok (.iconst 1, 1) := by decide +kernel
theorem dX7_findMany_41 : decode cX7_findMany 41 = .ok (.istore_n 3, 1) := by decide +kernel
theorem dX7_findMany_42 : decode cX7_findMany 42 = .ok (.iconst 0, 1) := by decide +kernel
theorem dX7_findMany_43 : decode cX7_findMany 43 = .ok (.istore 4, 2) := by decide +kernel
theorem dX7_findMany_45 : decode cX7_findMany 45 = .ok (.iload 4, 2) := by decide +kernel
theorem dX7_findMany_47 : decode cX7_findMany 47 = .ok (.aload_n 0, 1) := by decide +kernel
theorem dX7_findMany_48 : decode cX7_findMany 48 = .ok (.getfield 74, 3) := by decide +kernel
theorem dX7_findMany_51 : decode cX7_findMany 51 = .ok (.if_icmp .ge 122, 3) := by decide +kernel
theorem dX7_findMany_54 : decode cX7_findMany 54 = .ok (.iload_n 3, 1) := by decide +kernel
theorem dX7_findMany_55 : decode cX7_findMany 55 = .ok (.istore 5, 2) := by decide +kernel
theorem dX7_findMany_57 : decode cX7_findMany 57 = .ok (.iload 4, 2) := by decide +kernel
theorem dX7_findMany_59 : decode cX7_findMany 59 = .ok (.iload_n 1, 1) := by decide +kernel
theorem dX7_findMany_60 : decode cX7_findMany 60 = .ok (.if_icmp .ne 7, 3) := by decide +kernel
theorem dX7_findMany_63 : decode cX7_findMany 63 = .ok (.iconst 0, 1) := by decide +kernel
theorem dX7_findMany_64 : decode cX7_findMany 64 = .ok (.goto 11, 3) := by decide +kernel
theorem dX7_findMany_67 : decode cX7_findMany 67 = .ok (.aload_n 0, 1) := by decide +kernel
theorem dX7_findMany_68 : decode cX7_findMany 68 = .ok (.iconst 0, 1) := by decide +kernel
theorem dX7_findMany_69 : decode cX7_findMany 69 = .ok (.iload 4, 2) := by decide +kernel
theorem dX7_findMany_71 : decode cX7_findMany 71 = .ok (.iconst 0, 1) := by decide +kernel
theorem dX7_findMany_72 : decode cX7_findMany 72 = .ok (.invokevirtual 178, 3) := by decide +kernel
theorem dX7_findMany_75 : decode cX7_findMany 75 = .ok (.istore 6, 2) := by decide +kernel
theorem dX7_findMany_77 : decode cX7_findMany 77 = .ok (.aload_n 0, 1) := by decide +kernel
theorem dX7_findMany_78 : decode cX7_findMany 78 = .ok (.getfield 46, 3) := by decide +kernel
theorem dX7_findMany_81 : decode cX7_findMany 81 = .ok (.iload 6, 2) := by decide +kernel
theorem dX7_findMany_83 : decode cX7_findMany 83 = .ok (.iaload, 1) := by decide +kernel
theorem dX7_findMany_84 : decode cX7_findMany 84 = .ok (.bipush (-9), 2) := by decide +kernel
theorem dX7_findMany_86 : decode cX7_findMany 86 = .ok (.if_icmp .ne 81, 3) := by decide +kernel
theorem dX7_findMany_89 : decode cX7_findMany 89 = .ok (.iconst 0, 1) := by decide +kernel
theorem dX7_findMany_90 : decode cX7_findMany 90 = .ok (.istore 7, 2) := by decide +kernel
theorem dX7_findMany_92 : decode cX7_findMany 92 = .ok (.iload 7, 2) := by decide +kernel
theorem dX7_findMany_94 : decode cX7_findMany 94 = .ok (.iload 5, 2) := by decide +kernel
theorem dX7_findMany_96 : decode cX7_findMany 96 = .ok (.if_icmp .ge 52, 3) := by decide +kernel
theorem dX7_findMany_99 : decode cX7_findMany 99 = .ok (.aload_n 0, 1) := by decide +kernel
theorem dX7_findMany_100 : decode cX7_findMany 100 = .ok (.getfield 49, 3) := by decide +kernel
theorem dX7_findMany_103 : decode cX7_findMany 103 = .ok (.iload_n 3, 1) := by decide +kernel
theorem dX7_findMany_104 : decode cX7_findMany 104 = .ok (.iload 7, 2) := by decide +kernel
theorem dX7_findMany_106 : decode cX7_findMany 106 = .ok (.iadd, 1) := by decide +kernel
theorem dX7_findMany_107 : decode cX7_findMany 107 = .ok (.aload_n 0, 1) := by decide +kernel
theorem dX7_findMany_108 : decode cX7_findMany 108 = .ok (.aload_n 0, 1) := by decide +kernel
theorem dX7_findMany_109 : decode cX7_findMany 109 = .ok (.getfield 49, 3) := by decide +kernel
theorem dX7_findMany_112 : decode cX7_findMany 112 = .ok (.iload_n 3, 1) := by decide +kernel
theorem dX7_findMany_113 : decode cX7_findMany 113 = .ok (.iload 5, 2) := by decide +kernel
theorem dX7_findMany_115 : decode cX7_findMany 115 = .ok (.isub, 1) := by decide +kernel
theorem dX7_findMany_116 : decode cX7_findMany 116 = .ok (.iload 7, 2) := by decide +kernel
theorem dX7_findMany_118 : decode cX7_findMany 118 = .ok (.iadd, 1) := by decide +kernel
theorem dX7_findMany_119 : decode cX7_findMany 119 = .ok (.iaload, 1) := by decide +kernel
theorem dX7_findMany_120 : decode cX7_findMany 120 = .ok (.iload 4, 2) := by decide +kernel
theorem dX7_findMany_122 : decode cX7_findMany 122 = .ok (.iconst 0, 1) := by decide +kernel
theorem dX7_findMany_123 : decode cX7_findMany 123 = .ok (.invokevirtual 178, 3) := by decide +kernel
theorem dX7_findMany_126 : decode cX7_findMany 126 = .ok (.iastore, 1) := by decide +kernel
theorem dX7_findMany_127 : decode cX7_findMany 127 = .ok (.aload_n 0, 1) := by decide +kernel
theorem dX7_findMany_128 : decode cX7_findMany 128 = .ok (.getfield 46, 3) := by decide +kernel
theorem dX7_findMany_131 : decode cX7_findMany 131 = .ok (.aload_n 0, 1) := by decide +kernel
theorem dX7_findMany_132 : decode cX7_findMany 132 = .ok (.getfield 49, 3) := by decide +kernel
theorem dX7_findMany_135 : decode cX7_findMany 135 = .ok (.iload_n 3, 1) := by decide +kernel
theorem dX7_findMany_136 : decode cX7_findMany 136 = .ok (.iload 7, 2) := by decide +kernel
theorem dX7_findMany_138 : decode cX7_findMany 138 = .ok (.iadd, 1) := by decide +kernel
theorem dX7_findMany_139 : decode cX7_findMany 139 = .ok (.iaload, 1) := by decide +kernel
theorem dX7_findMany_140 : decode cX7_findMany 140 = .ok (.iconst 0, 1) := by decide +kernel
theorem dX7_findMany_141 : decode cX7_findMany 141 = .ok (.iastore, 1) := by decide +kernel
theorem dX7_findMany_142 : decode cX7_findMany 142 = .ok (.iinc 7 1, 3) := by decide +kernel
theorem dX7_findMany_145 : decode cX7_findMany 145 = .ok (.goto (-53), 3) := by decide +kernel
theorem dX7_findMany_148 : decode cX7_findMany 148 = .ok (.iload_n 3, 1) := by decide +kernel
theorem dX7_findMany_149 : decode cX7_findMany 149 = .ok (.iload 5, 2) := by decide +kernel
theorem dX7_findMany_151 : decode cX7_findMany 151 = .ok (.iadd, 1) := by decide +kernel
theorem dX7_findMany_152 : decode cX7_findMany 152 = .ok (.istore_n 3, 1) := by decide +kernel
theorem dX7_findMany_153 : decode cX7_findMany 153 = .ok (.aload_n 0, 1) := by decide +kernel
theorem dX7_findMany_154 : decode cX7_findMany 154 = .ok (.iload 6, 2) := by decide +kernel
theorem dX7_findMany_156 : decode cX7_findMany 156 = .ok (.iload 4, 2) := by decide +kernel
theorem dX7_findMany_158 : decode cX7_findMany 158 = .ok (.iconst 0, 1) := by decide +kernel
theorem dX7_findMany_159 : decode cX7_findMany 159 = .ok (.invokevirtual 178, 3) := by decide +kernel
theorem dX7_findMany_162 : decode cX7_findMany 162 = .ok (.istore 6, 2) := by decide +kernel
theorem dX7_findMany_164 : decode cX7_findMany 164 = .ok (.goto (-87), 3) := by decide +kernel
theorem dX7_findMany_167 : decode cX7_findMany 167 = .ok (.iinc 4 1, 3) := by decide +kernel
theorem dX7_findMany_170 : decode cX7_findMany 170 = .ok (.goto (-125), 3) := by decide +kernel
theorem dX7_findMany_173 : decode cX7_findMany 173 = .ok (.iload_n 3, 1) := by decide +kernel
theorem dX7_findMany_174 : decode cX7_findMany 174 = .ok (.ireturn, 1) := by decide +kernel
theorem dX7_findFar_0 : decode cX7_findFar 0 = .ok (.aload_n 0, 1) := by decide +kernel
theorem dX7_findFar_1 : decode cX7_findFar 1 = .ok (.invokevirtual 175, 3) := by decide +kernel
theorem dX7_findFar_4 : decode cX7_findFar 4 = .ok (.istore_n 1, 1) := by decide +kernel
theorem dX7_findFar_5 : decode cX7_findFar 5 = .ok (.iconst 0, 1) := by decide +kernel
theorem dX7_findFar_6 : decode cX7_findFar 6 = .ok (.istore_n 2, 1) := by decide +kernel
theorem dX7_findFar_7 : decode cX7_findFar 7 = .ok (.iload_n 2, 1) := by decide +kernel
theorem dX7_findFar_8 : decode cX7_findFar 8 = .ok (.iload_n 1, 1) := by decide +kernel
theorem dX7_findFar_9 : decode cX7_findFar 9 = .ok (.if_icmp .ge 17, 3) := by decide +kernel
theorem dX7_findFar_12 : decode cX7_findFar 12 = .ok (.aload_n 0, 1) := by decide +kernel
theorem dX7_findFar_13 : decode cX7_findFar 13 = .ok (.getfield 46, 3) := by decide +kernel
theorem dX7_findFar_16 : decode cX7_findFar 16 = .ok (.iload_n 2, 1) := by decide +kernel
theorem dX7_findFar_17 : decode cX7_findFar 17 = .ok (.bipush (-9), 2) := by decide +kernel
theorem dX7_findFar_19 : decode cX7_findFar 19 = .ok (.iastore, 1) := by decide +kernel
theorem dX7_findFar_20 : decode cX7_findFar 20 = .ok (.iinc 2 1, 3) := by decide +kernel
theorem dX7_findFar_23 : decode cX7_findFar 23 = .ok (.goto (-16), 3) := by decide +kernel
theorem dX7_findFar_26 : decode cX7_findFar 26 = .ok (.aload_n 0, 1) := by decide +kernel
theorem dX7_findFar_27 : decode cX7_findFar 27 = .ok (.getfield 46, 3) := by decide +kernel
theorem dX7_findFar_30 : decode cX7_findFar 30 = .ok (.iconst 0, 1) := by decide +kernel
theorem dX7_findFar_31 : decode cX7_findFar 31 = .ok (.iconst 0, 1) := by decide +kernel
theorem dX7_findFar_32 : decode cX7_findFar 32 = .ok (.iastore, 1) := by decide +kernel
theorem dX7_findFar_33 : decode cX7_findFar 33 = .ok (.aload_n 0, 1) := by decide +kernel
theorem dX7_findFar_34 : decode cX7_findFar 34 = .ok (.getfield 49, 3) := by decide +kernel
theorem dX7_findFar_37 : decode cX7_findFar 37 = .ok (.iconst 0, 1) := by decide +kernel
theorem dX7_findFar_38 : decode cX7_findFar 38 = .ok (.iconst 0, 1) := by decide +kernel
theorem dX7_findFar_39 : decode cX7_findFar 39 = .ok (.iastore, 1) := by decide +kernel
theorem dX7_findFar_40 : decode cX7_findFar 40 = .ok (.iconst 1, 1) := by decide +kernel
theorem dX7_findFar_41 : decode cX7_findFar 41 = .ok (.istore_n 2, 1) := by decide +kernel
theorem dX7_findFar_42 : decode cX7_findFar 42 = .ok (.iconst 0, 1) := by decide +kernel
theorem dX7_findFar_43 : decode cX7_findFar 43 = .ok (.istore_n 3, 1) := by decide +kernel
theorem dX7_findFar_44 : decode cX7_findFar 44 = .ok (.iload_n 3, 1) := by decide +kernel
theorem dX7_findFar_45 : decode cX7_findFar 45 = .ok (.iload_n 2, 1) := by decide +kernel
theorem dX7_findFar_46 : decode cX7_findFar 46 = .ok (.if_icmp .ge 85, 3) := by decide +kernel
theorem dX7_findFar_49 : decode cX7_findFar 49 = .ok (.iconst 0, 1) := by decide +kernel
theorem dX7_findFar_50 : decode cX7_findFar 50 = .ok (.istore 4, 2) := by decide +kernel
theorem dX7_findFar_52 : decode cX7_findFar 52 = .ok (.iload 4, 2) := by decide +kernel
theorem dX7_findFar_54 : decode cX7_findFar 54 = .ok (.aload_n 0, 1) := by decide +kernel
theorem dX7_findFar_55 : decode cX7_findFar 55 = .ok (.getfield 74, 3) := by decide +kernel
theorem dX7_findFar_58 : decode cX7_findFar 58 = .ok (.if_icmp .ge 67, 3) := by decide +kernel
theorem dX7_findFar_61 : decode cX7_findFar 61 = .ok (.aload_n 0, 1) := by decide +kernel
theorem dX7_findFar_62 : decode cX7_findFar 62 = .ok (.aload_n 0, 1) := by decide +kernel
theorem dX7_findFar_63 : decode cX7_findFar 63 = .ok (.getfield 49, 3) := by decide +kernel
theorem dX7_findFar_66 : decode cX7_findFar 66 = .ok (.iload_n 3, 1) := by decide +kernel
theorem dX7_findFar_67 : decode cX7_findFar 67 = .ok (.iaload, 1) := by decide +kernel
theorem dX7_findFar_68 : decode cX7_findFar 68 = .ok (.iload 4, 2) := by decide +kernel
theorem dX7_findFar_70 : decode cX7_findFar 70 = .ok (.iconst 0, 1) := by decide +kernel
theorem dX7_findFar_71 : decode cX7_findFar 71 = .ok (.invokevirtual 178, 3) := by decide +kernel
theorem dX7_findFar_74 : decode cX7_findFar 74 = .ok (.istore 5, 2) := by decide +kernel
theorem dX7_findFar_76 : decode cX7_findFar 76 = .ok (.aload_n 0, 1) := by decide +kernel
theorem dX7_findFar_77 : decode cX7_findFar 77 = .ok (.getfield 46, 3) := by decide +kernel
theorem dX7_findFar_80 : decode cX7_findFar 80 = .ok (.iload 5, 2) := by decide +kernel
theorem dX7_findFar_82 : decode cX7_findFar 82 = .ok (.iaload, 1) := by decide +kernel
theorem dX7_findFar_83 : decode cX7_findFar 83 = .ok (.bipush (-9), 2) := by decide +kernel
theorem dX7_findFar_85 : decode cX7_findFar 85 = .ok (.if_icmp .ne 34, 3) := by decide +kernel
theorem dX7_findFar_88 : decode cX7_findFar 88 = .ok (.aload_n 0, 1) := by decide +kernel
theorem dX7_findFar_89 : decode cX7_findFar 89 = .ok (.getfield 46, 3) := by decide +kernel
theorem dX7_findFar_92 : decode cX7_findFar 92 = .ok (.iload 5, 2) := by decide +kernel
theorem dX7_findFar_94 : decode cX7_findFar 94 = .ok (.aload_n 0, 1) := by decide +kernel
theorem dX7_findFar_95 : decode cX7_findFar 95 = .ok (.getfield 46, 3) := by decide +kernel
theorem dX7_findFar_98 : decode cX7_findFar 98 = .ok (.aload_n 0, 1) := by decide +kernel
theorem dX7_findFar_99 : decode cX7_findFar 99 = .ok (.getfield 49, 3) := by decide +kernel
theorem dX7_findFar_102 : decode cX7_findFar 102 = .ok (.iload_n 3, 1) := by decide +kernel
theorem dX7_findFar_103 : decode cX7_findFar 103 = .ok (.iaload, 1) := by decide +kernel
theorem dX7_findFar_104 : decode cX7_findFar 104 = .ok (.iaload, 1) := by decide +kernel
theorem dX7_findFar_105 : decode cX7_findFar 105 = .ok (.iconst 1, 1) := by decide +kernel
theorem dX7_findFar_106 : decode cX7_findFar 106 = .ok (.iadd, 1) := by decide +kernel
theorem dX7_findFar_107 : decode cX7_findFar 107 = .ok (.iastore, 1) := by decide +kernel
theorem dX7_findFar_108 : decode cX7_findFar 108 = .ok (.aload_n 0, 1) := by decide +kernel
theorem dX7_findFar_109 : decode cX7_findFar 109 = .ok (.getfield 49, 3) := by decide +kernel
theorem dX7_findFar_112 : decode cX7_findFar 112 = .ok (.iload_n 2, 1) := by decide +kernel
theorem dX7_findFar_113 : decode cX7_findFar 113 = .ok (.iload 5, 2) := by decide +kernel
theorem dX7_findFar_115 : decode cX7_findFar 115 = .ok (.iastore, 1) := by decide +kernel
theorem dX7_findFar_116 : decode cX7_findFar 116 = .ok (.iinc 2 1, 3) := by decide +kernel
theorem dX7_findFar_119 : decode cX7_findFar 119 = .ok (.iinc 4 1, 3) := by decide +kernel
theorem dX7_findFar_122 : decode cX7_findFar 122 = .ok (.goto (-70), 3) := by decide +kernel
theorem dX7_findFar_125 : decode cX7_findFar 125 = .ok (.iinc 3 1, 3) := by decide +kernel
theorem dX7_findFar_128 : decode cX7_findFar 128 = .ok (.goto (-84), 3) := by decide +kernel
theorem dX7_findFar_131 : decode cX7_findFar 131 = .ok (.return_, 1) := by decide +kernel
theorem dX7_onTo_0 : decode cX7_onTo 0 = .ok (.iconst 1, 1) := by decide +kernel
theorem dX7_onTo_1 : decode cX7_onTo 1 = .ok (.istore_n 2, 1) := by decide +kernel
theorem dX7_onTo_2 : decode cX7_onTo 2 = .ok (.iconst 0, 1) := by decide +kernel
theorem dX7_onTo_3 : decode cX7_onTo 3 = .ok (.istore_n 3, 1) := by decide +kernel
theorem dX7_onTo_4 : decode cX7_onTo 4 = .ok (.iconst 0, 1) := by decide +kernel
theorem dX7_onTo_5 : decode cX7_onTo 5 = .ok (.istore 4, 2) := by decide +kernel
theorem dX7_onTo_7 : decode cX7_onTo 7 = .ok (.iload 4, 2) := by decide +kernel
theorem dX7_onTo_9 : decode cX7_onTo 9 = .ok (.aload_n 0, 1) := by decide +kernel
theorem dX7_onTo_10 : decode cX7_onTo 10 = .ok (.getfield 71, 3) := by decide +kernel
theorem dX7_onTo_13 : decode cX7_onTo 13 = .ok (.if_icmp .ge 57, 3) := by decide +kernel
theorem dX7_onTo_16 : decode cX7_onTo 16 = .ok (.iload_n 3, 1) := by decide +kernel
theorem dX7_onTo_17 : decode cX7_onTo 17 = .ok (.aload_n 0, 1) := by decide +kernel
theorem dX7_onTo_18 : decode cX7_onTo 18 = .ok (.getfield 16, 3) := by decide +kernel
theorem dX7_onTo_21 : decode cX7_onTo 21 = .ok (.iload_n 1, 1) := by decide +kernel
theorem dX7_onTo_22 : decode cX7_onTo 22 = .ok (.iload 4, 2) := by decide +kernel
theorem dX7_onTo_24 : decode cX7_onTo 24 = .ok (.iadd, 1) := by decide +kernel
theorem dX7_onTo_25 : decode cX7_onTo 25 = .ok (.iaload, 1) := by decide +kernel
theorem dX7_onTo_26 : decode cX7_onTo 26 = .ok (.aload_n 0, 1) := by decide +kernel
theorem dX7_onTo_27 : decode cX7_onTo 27 = .ok (.getfield 19, 3) := by decide +kernel
theorem dX7_onTo_30 : decode cX7_onTo 30 = .ok (.iload 4, 2) := by decide +kernel
theorem dX7_onTo_32 : decode cX7_onTo 32 = .ok (.iaload, 1) := by decide +kernel
theorem dX7_onTo_33 : decode cX7_onTo 33 = .ok (.iadd, 1) := by decide +kernel
theorem dX7_onTo_34 : decode cX7_onTo 34 = .ok (.aload_n 0, 1) := by decide +kernel
theorem dX7_onTo_35 : decode cX7_onTo 35 = .ok (.getfield 22, 3) := by decide +kernel
theorem dX7_onTo_38 : decode cX7_onTo 38 = .ok (.iload 4, 2) := by decide +kernel
theorem dX7_onTo_40 : decode cX7_onTo 40 = .ok (.iaload, 1) := by decide +kernel
theorem dX7_onTo_41 : decode cX7_onTo 41 = .ok (.isub, 1) := by decide +kernel
theorem dX7_onTo_42 : decode cX7_onTo 42 = .ok (.aload_n 0, 1) := by decide +kernel
theorem dX7_onTo_43 : decode cX7_onTo 43 = .ok (.getfield 19, 3) := by decide +kernel
theorem dX7_onTo_46 : decode cX7_onTo 46 = .ok (.iload 4, 2) := by decide +kernel
theorem dX7_onTo_48 : decode cX7_onTo 48 = .ok (.iaload, 1) := by decide +kernel
theorem dX7_onTo_49 : decode cX7_onTo 49 = .ok (.irem, 1) := by decide +kernel
theorem dX7_onTo_50 : decode cX7_onTo 50 = .ok (.iload_n 2, 1) := by decide +kernel
theorem dX7_onTo_51 : decode cX7_onTo 51 = .ok (.imul, 1) := by decide +kernel
theorem dX7_onTo_52 : decode cX7_onTo 52 = .ok (.iadd, 1) := by decide +kernel
theorem dX7_onTo_53 : decode cX7_onTo 53 = .ok (.istore_n 3, 1) := by decide +kernel
theorem dX7_onTo_54 : decode cX7_onTo 54 = .ok (.iload_n 2, 1) := by decide +kernel
theorem dX7_onTo_55 : decode cX7_onTo 55 = .ok (.aload_n 0, 1) := by decide +kernel
theorem dX7_onTo_56 : decode cX7_onTo 56 = .ok (.getfield 19, 3) := by decide +kernel
theorem dX7_onTo_59 : decode cX7_onTo 59 = .ok (.iload 4, 2) := by decide +kernel
theorem dX7_onTo_61 : decode cX7_onTo 61 = .ok (.iaload, 1) := by decide +kernel
theorem dX7_onTo_62 : decode cX7_onTo 62 = .ok (.imul, 1) := by decide +kernel
theorem dX7_onTo_63 : decode cX7_onTo 63 = .ok (.istore_n 2, 1) := by decide +kernel
theorem dX7_onTo_64 : decode cX7_onTo 64 = .ok (.iinc 4 1, 3) := by decide +kernel
theorem dX7_onTo_67 : decode cX7_onTo 67 = .ok (.goto (-60), 3) := by decide +kernel
theorem dX7_onTo_70 : decode cX7_onTo 70 = .ok (.iload_n 3, 1) := by decide +kernel
theorem dX7_onTo_71 : decode cX7_onTo 71 = .ok (.ireturn, 1) := by decide +kernel
theorem dX7_fewest_0 : decode cX7_fewest 0 = .ok (.aload_n 0, 1) := by decide +kernel
theorem dX7_fewest_1 : decode cX7_fewest 1 = .ok (.iconst 0, 1) := by decide +kernel
theorem dX7_fewest_2 : decode cX7_fewest 2 = .ok (.putfield 61, 3) := by decide +kernel
theorem dX7_fewest_5 : decode cX7_fewest 5 = .ok (.aload_n 0, 1) := by decide +kernel
theorem dX7_fewest_6 : decode cX7_fewest 6 = .ok (.getfield 71, 3) := by decide +kernel
theorem dX7_fewest_9 : decode cX7_fewest 9 = .ok (.ifCond .ne 6, 3) := by decide +kernel
theorem dX7_fewest_12 : decode cX7_fewest 12 = .ok (.bipush (-3), 2) := by decide +kernel
theorem dX7_fewest_14 : decode cX7_fewest 14 = .ok (.ireturn, 1) := by decide +kernel
theorem dX7_fewest_15 : decode cX7_fewest 15 = .ok (.iload_n 1, 1) := by decide +kernel
theorem dX7_fewest_16 : decode cX7_fewest 16 = .ok (.invokestatic 80, 3) := by decide +kernel
theorem dX7_fewest_19 : decode cX7_fewest 19 = .ok (.ifCond .ne 5, 3) := by decide +kernel
theorem dX7_fewest_22 : decode cX7_fewest 22 = .ok (.iconst (-1), 1) := by decide +kernel
theorem dX7_fewest_23 : decode cX7_fewest 23 = .ok (.ireturn, 1) := by decide +kernel
theorem dX7_fewest_24 : decode cX7_fewest 24 = .ok (.iload_n 2, 1) := by decide +kernel
theorem dX7_fewest_25 : decode cX7_fewest 25 = .ok (.invokestatic 84, 3) := by decide +kernel
theorem dX7_fewest_28 : decode cX7_fewest 28 = .ok (.ifCond .eq 14, 3) := by decide +kernel
theorem dX7_fewest_31 : decode cX7_fewest 31 = .ok (.iload 4, 2) := by decide +kernel
theorem dX7_fewest_33 : decode cX7_fewest 33 = .ok (.iconst (-1), 1) := by decide +kernel
theorem dX7_fewest_34 : decode cX7_fewest 34 = .ok (.bipush 99, 2) := by decide +kernel
theorem dX7_fewest_36 : decode cX7_fewest 36 = .ok (.invokestatic 67, 3) := by decide +kernel
theorem dX7_fewest_39 : decode cX7_fewest 39 = .ok (.ifCond .ne 6, 3) := by decide +kernel
theorem dX7_fewest_42 : decode cX7_fewest 42 = .ok (.bipush (-2), 2) := by decide +kernel
theorem dX7_fewest_44 : decode cX7_fewest 44 = .ok (.ireturn, 1) := by decide +kernel
theorem dX7_fewest_45 : decode cX7_fewest 45 = .ok (.aload_n 0, 1) := by decide +kernel
theorem dX7_fewest_46 : decode cX7_fewest 46 = .ok (.iload_n 1, 1) := by decide +kernel
theorem dX7_fewest_47 : decode cX7_fewest 47 = .ok (.iload_n 2, 1) := by decide +kernel
theorem dX7_fewest_48 : decode cX7_fewest 48 = .ok (.iload_n 3, 1) := by decide +kernel
theorem dX7_fewest_49 : decode cX7_fewest 49 = .ok (.aload_n 0, 1) := by decide +kernel
theorem dX7_fewest_50 : decode cX7_fewest 50 = .ok (.getfield 71, 3) := by decide +kernel
theorem dX7_fewest_53 : decode cX7_fewest 53 = .ok (.invokevirtual 87, 3) := by decide +kernel
theorem dX7_fewest_56 : decode cX7_fewest 56 = .ok (.istore 5, 2) := by decide +kernel
theorem dX7_fewest_58 : decode cX7_fewest 58 = .ok (.iload 5, 2) := by decide +kernel
theorem dX7_fewest_60 : decode cX7_fewest 60 = .ok (.ifCond .eq 10, 3) := by decide +kernel
theorem dX7_fewest_63 : decode cX7_fewest 63 = .ok (.aload_n 0, 1) := by decide +kernel
theorem dX7_fewest_64 : decode cX7_fewest 64 = .ok (.iload 5, 2) := by decide +kernel
theorem dX7_fewest_66 : decode cX7_fewest 66 = .ok (.invokevirtual 91, 3) := by decide +kernel
theorem dX7_fewest_69 : decode cX7_fewest 69 = .ok (.ireturn, 1) := by decide +kernel
theorem dX7_fewest_70 : decode cX7_fewest 70 = .ok (.bipush 60, 2) := by decide +kernel
theorem dX7_fewest_72 : decode cX7_fewest 72 = .ok (.iload_n 1, 1) := by decide +kernel
theorem dX7_fewest_73 : decode cX7_fewest 73 = .ok (.imul, 1) := by decide +kernel
theorem dX7_fewest_74 : decode cX7_fewest 74 = .ok (.iload_n 3, 1) := by decide +kernel
theorem dX7_fewest_75 : decode cX7_fewest 75 = .ok (.iadd, 1) := by decide +kernel
theorem dX7_fewest_76 : decode cX7_fewest 76 = .ok (.istore 6, 2) := by decide +kernel
theorem dX7_fewest_78 : decode cX7_fewest 78 = .ok (.iconst 0, 1) := by decide +kernel
theorem dX7_fewest_79 : decode cX7_fewest 79 = .ok (.istore 7, 2) := by decide +kernel
theorem dX7_fewest_81 : decode cX7_fewest 81 = .ok (.iload 7, 2) := by decide +kernel
theorem dX7_fewest_83 : decode cX7_fewest 83 = .ok (.aload_n 0, 1) := by decide +kernel
theorem dX7_fewest_84 : decode cX7_fewest 84 = .ok (.getfield 71, 3) := by decide +kernel
theorem dX7_fewest_87 : decode cX7_fewest 87 = .ok (.if_icmp .ge 38, 3) := by decide +kernel
theorem dX7_fewest_90 : decode cX7_fewest 90 = .ok (.aload_n 0, 1) := by decide +kernel
theorem dX7_fewest_91 : decode cX7_fewest 91 = .ok (.getfield 16, 3) := by decide +kernel
theorem dX7_fewest_94 : decode cX7_fewest 94 = .ok (.iload 6, 2) := by decide +kernel
theorem dX7_fewest_96 : decode cX7_fewest 96 = .ok (.iload 7, 2) := by decide +kernel
theorem dX7_fewest_98 : decode cX7_fewest 98 = .ok (.iadd, 1) := by decide +kernel
theorem dX7_fewest_99 : decode cX7_fewest 99 = .ok (.iaload, 1) := by decide +kernel
theorem dX7_fewest_100 : decode cX7_fewest 100 = .ok (.iconst 0, 1) := by decide +kernel
theorem dX7_fewest_101 : decode cX7_fewest 101 = .ok (.aload_n 0, 1) := by decide +kernel
theorem dX7_fewest_102 : decode cX7_fewest 102 = .ok (.getfield 19, 3) := by decide +kernel
theorem dX7_fewest_105 : decode cX7_fewest 105 = .ok (.iload 7, 2) := by decide +kernel
theorem dX7_fewest_107 : decode cX7_fewest 107 = .ok (.iaload, 1) := by decide +kernel
theorem dX7_fewest_108 : decode cX7_fewest 108 = .ok (.iconst 1, 1) := by decide +kernel
theorem dX7_fewest_109 : decode cX7_fewest 109 = .ok (.isub, 1) := by decide +kernel
theorem dX7_fewest_110 : decode cX7_fewest 110 = .ok (.invokestatic 67, 3) := by decide +kernel
theorem dX7_fewest_113 : decode cX7_fewest 113 = .ok (.ifCond .ne 6, 3) := by decide +kernel
theorem dX7_fewest_116 : decode cX7_fewest 116 = .ok (.bipush (-2), 2) := by decide +kernel
theorem dX7_fewest_118 : decode cX7_fewest 118 = .ok (.ireturn, 1) := by decide +kernel
theorem dX7_fewest_119 : decode cX7_fewest 119 = .ok (.iinc 7 1, 3) := by decide +kernel
theorem dX7_fewest_122 : decode cX7_fewest 122 = .ok (.goto (-41), 3) := by decide +kernel
theorem dX7_fewest_125 : decode cX7_fewest 125 = .ok (.aload_n 0, 1) := by decide +kernel
theorem dX7_fewest_126 : decode cX7_fewest 126 = .ok (.invokevirtual 182, 3) := by decide +kernel
theorem dX7_fewest_129 : decode cX7_fewest 129 = .ok (.aload_n 0, 1) := by decide +kernel
theorem dX7_fewest_130 : decode cX7_fewest 130 = .ok (.aload_n 0, 1) := by decide +kernel
theorem dX7_fewest_131 : decode cX7_fewest 131 = .ok (.iload 6, 2) := by decide +kernel
theorem dX7_fewest_133 : decode cX7_fewest 133 = .ok (.invokevirtual 185, 3) := by decide +kernel
theorem dX7_fewest_136 : decode cX7_fewest 136 = .ok (.iload 4, 2) := by decide +kernel
theorem dX7_fewest_138 : decode cX7_fewest 138 = .ok (.invokevirtual 188, 3) := by decide +kernel
theorem dX7_fewest_141 : decode cX7_fewest 141 = .ok (.ireturn, 1) := by decide +kernel
theorem dX7_fewestOf_0 : decode cX7_fewestOf 0 = .ok (.iload_n 2, 1) := by decide +kernel
theorem dX7_fewestOf_1 : decode cX7_fewestOf 1 = .ok (.iconst (-1), 1) := by decide +kernel
theorem dX7_fewestOf_2 : decode cX7_fewestOf 2 = .ok (.if_icmp .ne 10, 3) := by decide +kernel
theorem dX7_fewestOf_5 : decode cX7_fewestOf 5 = .ok (.aload_n 0, 1) := by decide +kernel
theorem dX7_fewestOf_6 : decode cX7_fewestOf 6 = .ok (.getfield 46, 3) := by decide +kernel
theorem dX7_fewestOf_9 : decode cX7_fewestOf 9 = .ok (.iload_n 1, 1) := by decide +kernel
theorem dX7_fewestOf_10 : decode cX7_fewestOf 10 = .ok (.iaload, 1) := by decide +kernel
theorem dX7_fewestOf_11 : decode cX7_fewestOf 11 = .ok (.ireturn, 1) := by decide +kernel
theorem dX7_fewestOf_12 : decode cX7_fewestOf 12 = .ok (.aload_n 0, 1) := by decide +kernel
theorem dX7_fewestOf_13 : decode cX7_fewestOf 13 = .ok (.getfield 46, 3) := by decide +kernel
theorem dX7_fewestOf_16 : decode cX7_fewestOf 16 = .ok (.iload_n 1, 1) := by decide +kernel
theorem dX7_fewestOf_17 : decode cX7_fewestOf 17 = .ok (.iaload, 1) := by decide +kernel
theorem dX7_fewestOf_18 : decode cX7_fewestOf 18 = .ok (.bipush (-9), 2) := by decide +kernel
theorem dX7_fewestOf_20 : decode cX7_fewestOf 20 = .ok (.if_icmp .eq 13, 3) := by decide +kernel
theorem dX7_fewestOf_23 : decode cX7_fewestOf 23 = .ok (.iload_n 2, 1) := by decide +kernel
theorem dX7_fewestOf_24 : decode cX7_fewestOf 24 = .ok (.aload_n 0, 1) := by decide +kernel
theorem dX7_fewestOf_25 : decode cX7_fewestOf 25 = .ok (.getfield 46, 3) := by decide +kernel
theorem dX7_fewestOf_28 : decode cX7_fewestOf 28 = .ok (.iload_n 1, 1) := by decide +kernel
theorem dX7_fewestOf_29 : decode cX7_fewestOf 29 = .ok (.iaload, 1) := by decide +kernel
theorem dX7_fewestOf_30 : decode cX7_fewestOf 30 = .ok (.if_icmp .lt 6, 3) := by decide +kernel
theorem dX7_fewestOf_33 : decode cX7_fewestOf 33 = .ok (.bipush (-9), 2) := by decide +kernel
theorem dX7_fewestOf_35 : decode cX7_fewestOf 35 = .ok (.ireturn, 1) := by decide +kernel
theorem dX7_fewestOf_36 : decode cX7_fewestOf 36 = .ok (.iload_n 1, 1) := by decide +kernel
theorem dX7_fewestOf_37 : decode cX7_fewestOf 37 = .ok (.istore_n 3, 1) := by decide +kernel
theorem dX7_fewestOf_38 : decode cX7_fewestOf 38 = .ok (.iconst 0, 1) := by decide +kernel
theorem dX7_fewestOf_39 : decode cX7_fewestOf 39 = .ok (.istore 4, 2) := by decide +kernel
theorem dX7_fewestOf_41 : decode cX7_fewestOf 41 = .ok (.iconst 0, 1) := by decide +kernel
theorem dX7_fewestOf_42 : decode cX7_fewestOf 42 = .ok (.istore 5, 2) := by decide +kernel
theorem dX7_fewestOf_44 : decode cX7_fewestOf 44 = .ok (.iload 5, 2) := by decide +kernel
theorem dX7_fewestOf_46 : decode cX7_fewestOf 46 = .ok (.iload_n 2, 1) := by decide +kernel
theorem dX7_fewestOf_47 : decode cX7_fewestOf 47 = .ok (.if_icmp .gt 51, 3) := by decide +kernel
theorem dX7_fewestOf_50 : decode cX7_fewestOf 50 = .ok (.iconst 0, 1) := by decide +kernel
theorem dX7_fewestOf_51 : decode cX7_fewestOf 51 = .ok (.istore 4, 2) := by decide +kernel
theorem dX7_fewestOf_53 : decode cX7_fewestOf 53 = .ok (.aload_n 0, 1) := by decide +kernel
theorem dX7_fewestOf_54 : decode cX7_fewestOf 54 = .ok (.getfield 46, 3) := by decide +kernel
theorem dX7_fewestOf_57 : decode cX7_fewestOf 57 = .ok (.aload_n 0, 1) := by decide +kernel
theorem dX7_fewestOf_58 : decode cX7_fewestOf 58 = .ok (.iload_n 3, 1) := by decide +kernel
theorem dX7_fewestOf_59 : decode cX7_fewestOf 59 = .ok (.iload 4, 2) := by decide +kernel
theorem dX7_fewestOf_61 : decode cX7_fewestOf 61 = .ok (.iconst 1, 1) := by decide +kernel
theorem dX7_fewestOf_62 : decode cX7_fewestOf 62 = .ok (.invokevirtual 178, 3) := by decide +kernel
theorem dX7_fewestOf_65 : decode cX7_fewestOf 65 = .ok (.iaload, 1) := by decide +kernel
theorem dX7_fewestOf_66 : decode cX7_fewestOf 66 = .ok (.aload_n 0, 1) := by decide +kernel
theorem dX7_fewestOf_67 : decode cX7_fewestOf 67 = .ok (.getfield 46, 3) := by decide +kernel
theorem dX7_fewestOf_70 : decode cX7_fewestOf 70 = .ok (.iload_n 3, 1) := by decide +kernel
theorem dX7_fewestOf_71 : decode cX7_fewestOf 71 = .ok (.iaload, 1) := by decide +kernel
theorem dX7_fewestOf_72 : decode cX7_fewestOf 72 = .ok (.iconst 1, 1) := by decide +kernel
theorem dX7_fewestOf_73 : decode cX7_fewestOf 73 = .ok (.isub, 1) := by decide +kernel
theorem dX7_fewestOf_74 : decode cX7_fewestOf 74 = .ok (.if_icmp .eq 9, 3) := by decide +kernel
theorem dX7_fewestOf_77 : decode cX7_fewestOf 77 = .ok (.iinc 4 1, 3) := by decide +kernel
theorem dX7_fewestOf_80 : decode cX7_fewestOf 80 = .ok (.goto (-27), 3) := by decide +kernel
theorem dX7_fewestOf_83 : decode cX7_fewestOf 83 = .ok (.aload_n 0, 1) := by decide +kernel
theorem dX7_fewestOf_84 : decode cX7_fewestOf 84 = .ok (.iload_n 3, 1) := by decide +kernel
theorem dX7_fewestOf_85 : decode cX7_fewestOf 85 = .ok (.iload 4, 2) := by decide +kernel
theorem dX7_fewestOf_87 : decode cX7_fewestOf 87 = .ok (.iconst 1, 1) := by decide +kernel
theorem dX7_fewestOf_88 : decode cX7_fewestOf 88 = .ok (.invokevirtual 178, 3) := by decide +kernel
theorem dX7_fewestOf_91 : decode cX7_fewestOf 91 = .ok (.istore_n 3, 1) := by decide +kernel
theorem dX7_fewestOf_92 : decode cX7_fewestOf 92 = .ok (.iinc 5 1, 3) := by decide +kernel
theorem dX7_fewestOf_95 : decode cX7_fewestOf 95 = .ok (.goto (-51), 3) := by decide +kernel
theorem dX7_fewestOf_98 : decode cX7_fewestOf 98 = .ok (.iload 4, 2) := by decide +kernel
theorem dX7_fewestOf_100 : decode cX7_fewestOf 100 = .ok (.ireturn, 1) := by decide +kernel
theorem dX7_halls_0 : decode cX7_halls 0 = .ok (.aload_n 0, 1) := by decide +kernel
theorem dX7_halls_1 : decode cX7_halls 1 = .ok (.getfield 71, 3) := by decide +kernel
theorem dX7_halls_4 : decode cX7_halls 4 = .ok (.ifCond .ne 8, 3) := by decide +kernel
theorem dX7_halls_7 : decode cX7_halls 7 = .ok (.bipush (-3), 2) := by decide +kernel
theorem dX7_halls_9 : decode cX7_halls 9 = .ok (.goto 9, 3) := by decide +kernel
theorem dX7_halls_12 : decode cX7_halls 12 = .ok (.aload_n 0, 1) := by decide +kernel
theorem dX7_halls_13 : decode cX7_halls 13 = .ok (.bipush (-9), 2) := by decide +kernel
theorem dX7_halls_15 : decode cX7_halls 15 = .ok (.invokevirtual 191, 3) := by decide +kernel
theorem dX7_halls_18 : decode cX7_halls 18 = .ok (.ireturn, 1) := by decide +kernel
theorem dX7_alone_0 : decode cX7_alone 0 = .ok (.aload_n 0, 1) := by decide +kernel
theorem dX7_alone_1 : decode cX7_alone 1 = .ok (.iload_n 1, 1) := by decide +kernel
theorem dX7_alone_2 : decode cX7_alone 2 = .ok (.invokevirtual 127, 3) := by decide +kernel
theorem dX7_alone_5 : decode cX7_alone 5 = .ok (.ifCond .ne 5, 3) := by decide +kernel
theorem dX7_alone_8 : decode cX7_alone 8 = .ok (.iconst (-1), 1) := by decide +kernel
theorem dX7_alone_9 : decode cX7_alone 9 = .ok (.ireturn, 1) := by decide +kernel
theorem dX7_alone_10 : decode cX7_alone 10 = .ok (.aload_n 0, 1) := by decide +kernel
theorem dX7_alone_11 : decode cX7_alone 11 = .ok (.invokevirtual 182, 3) := by decide +kernel
theorem dX7_alone_14 : decode cX7_alone 14 = .ok (.iconst 1, 1) := by decide +kernel
theorem dX7_alone_15 : decode cX7_alone 15 = .ok (.istore_n 2, 1) := by decide +kernel
theorem dX7_alone_16 : decode cX7_alone 16 = .ok (.iconst 0, 1) := by decide +kernel
theorem dX7_alone_17 : decode cX7_alone 17 = .ok (.istore_n 3, 1) := by decide +kernel
theorem dX7_alone_18 : decode cX7_alone 18 = .ok (.iload_n 3, 1) := by decide +kernel
theorem dX7_alone_19 : decode cX7_alone 19 = .ok (.iload_n 1, 1) := by decide +kernel
theorem dX7_alone_20 : decode cX7_alone 20 = .ok (.if_icmp .ge 18, 3) := by decide +kernel
theorem dX7_alone_23 : decode cX7_alone 23 = .ok (.iload_n 2, 1) := by decide +kernel
theorem dX7_alone_24 : decode cX7_alone 24 = .ok (.aload_n 0, 1) := by decide +kernel
theorem dX7_alone_25 : decode cX7_alone 25 = .ok (.getfield 19, 3) := by decide +kernel
theorem dX7_alone_28 : decode cX7_alone 28 = .ok (.iload_n 3, 1) := by decide +kernel
theorem dX7_alone_29 : decode cX7_alone 29 = .ok (.iaload, 1) := by decide +kernel
theorem dX7_alone_30 : decode cX7_alone 30 = .ok (.imul, 1) := by decide +kernel
theorem dX7_alone_31 : decode cX7_alone 31 = .ok (.istore_n 2, 1) := by decide +kernel
theorem dX7_alone_32 : decode cX7_alone 32 = .ok (.iinc 3 1, 3) := by decide +kernel
theorem dX7_alone_35 : decode cX7_alone 35 = .ok (.goto (-17), 3) := by decide +kernel
theorem dX7_alone_38 : decode cX7_alone 38 = .ok (.aload_n 0, 1) := by decide +kernel
theorem dX7_alone_39 : decode cX7_alone 39 = .ok (.getfield 46, 3) := by decide +kernel
theorem dX7_alone_42 : decode cX7_alone 42 = .ok (.iload_n 2, 1) := by decide +kernel
theorem dX7_alone_43 : decode cX7_alone 43 = .ok (.iaload, 1) := by decide +kernel
theorem dX7_alone_44 : decode cX7_alone 44 = .ok (.ireturn, 1) := by decide +kernel
theorem dX7_idle_0 : decode cX7_idle 0 = .ok (.aload_n 0, 1) := by decide +kernel
theorem dX7_idle_1 : decode cX7_idle 1 = .ok (.getfield 71, 3) := by decide +kernel
theorem dX7_idle_4 : decode cX7_idle 4 = .ok (.ifCond .ne 6, 3) := by decide +kernel
theorem dX7_idle_7 : decode cX7_idle 7 = .ok (.bipush (-3), 2) := by decide +kernel
theorem dX7_idle_9 : decode cX7_idle 9 = .ok (.ireturn, 1) := by decide +kernel
theorem dX7_idle_10 : decode cX7_idle 10 = .ok (.aload_n 0, 1) := by decide +kernel
theorem dX7_idle_11 : decode cX7_idle 11 = .ok (.invokevirtual 182, 3) := by decide +kernel
theorem dX7_idle_14 : decode cX7_idle 14 = .ok (.bipush (-9), 2) := by decide +kernel
theorem dX7_idle_16 : decode cX7_idle 16 = .ok (.istore_n 1, 1) := by decide +kernel
theorem dX7_idle_17 : decode cX7_idle 17 = .ok (.iconst 0, 1) := by decide +kernel
theorem dX7_idle_18 : decode cX7_idle 18 = .ok (.istore_n 2, 1) := by decide +kernel
theorem dX7_idle_19 : decode cX7_idle 19 = .ok (.iload_n 2, 1) := by decide +kernel
theorem dX7_idle_20 : decode cX7_idle 20 = .ok (.aload_n 0, 1) := by decide +kernel
theorem dX7_idle_21 : decode cX7_idle 21 = .ok (.getfield 74, 3) := by decide +kernel
theorem dX7_idle_24 : decode cX7_idle 24 = .ok (.if_icmp .ge 41, 3) := by decide +kernel
theorem dX7_idle_27 : decode cX7_idle 27 = .ok (.aload_n 0, 1) := by decide +kernel
theorem dX7_idle_28 : decode cX7_idle 28 = .ok (.getfield 46, 3) := by decide +kernel
theorem dX7_idle_31 : decode cX7_idle 31 = .ok (.aload_n 0, 1) := by decide +kernel
theorem dX7_idle_32 : decode cX7_idle 32 = .ok (.iconst 0, 1) := by decide +kernel
theorem dX7_idle_33 : decode cX7_idle 33 = .ok (.iload_n 2, 1) := by decide +kernel
theorem dX7_idle_34 : decode cX7_idle 34 = .ok (.iconst 1, 1) := by decide +kernel
theorem dX7_idle_35 : decode cX7_idle 35 = .ok (.invokevirtual 178, 3) := by decide +kernel
theorem dX7_idle_38 : decode cX7_idle 38 = .ok (.iaload, 1) := by decide +kernel
theorem dX7_idle_39 : decode cX7_idle 39 = .ok (.iconst 1, 1) := by decide +kernel
theorem dX7_idle_40 : decode cX7_idle 40 = .ok (.iadd, 1) := by decide +kernel
theorem dX7_idle_41 : decode cX7_idle 41 = .ok (.istore_n 3, 1) := by decide +kernel
theorem dX7_idle_42 : decode cX7_idle 42 = .ok (.iload_n 1, 1) := by decide +kernel
theorem dX7_idle_43 : decode cX7_idle 43 = .ok (.bipush (-9), 2) := by decide +kernel
theorem dX7_idle_45 : decode cX7_idle 45 = .ok (.if_icmp .eq 8, 3) := by decide +kernel
theorem dX7_idle_48 : decode cX7_idle 48 = .ok (.iload_n 3, 1) := by decide +kernel
theorem dX7_idle_49 : decode cX7_idle 49 = .ok (.iload_n 1, 1) := by decide +kernel
theorem dX7_idle_50 : decode cX7_idle 50 = .ok (.if_icmp .ge 7, 3) := by decide +kernel
theorem dX7_idle_53 : decode cX7_idle 53 = .ok (.iload_n 3, 1) := by decide +kernel
theorem dX7_idle_54 : decode cX7_idle 54 = .ok (.goto 4, 3) := by decide +kernel
theorem dX7_idle_57 : decode cX7_idle 57 = .ok (.iload_n 1, 1) := by decide +kernel
theorem dX7_idle_58 : decode cX7_idle 58 = .ok (.istore_n 1, 1) := by decide +kernel
theorem dX7_idle_59 : decode cX7_idle 59 = .ok (.iinc 2 1, 3) := by decide +kernel
theorem dX7_idle_62 : decode cX7_idle 62 = .ok (.goto (-43), 3) := by decide +kernel
theorem dX7_idle_65 : decode cX7_idle 65 = .ok (.iload_n 1, 1) := by decide +kernel
theorem dX7_idle_66 : decode cX7_idle 66 = .ok (.ireturn, 1) := by decide +kernel
theorem dX7_spare_0 : decode cX7_spare 0 = .ok (.aload_n 0, 1) := by decide +kernel
theorem dX7_spare_1 : decode cX7_spare 1 = .ok (.getfield 71, 3) := by decide +kernel
theorem dX7_spare_4 : decode cX7_spare 4 = .ok (.ifCond .ne 6, 3) := by decide +kernel
theorem dX7_spare_7 : decode cX7_spare 7 = .ok (.bipush (-3), 2) := by decide +kernel
theorem dX7_spare_9 : decode cX7_spare 9 = .ok (.ireturn, 1) := by decide +kernel
theorem dX7_spare_10 : decode cX7_spare 10 = .ok (.aload_n 0, 1) := by decide +kernel
theorem dX7_spare_11 : decode cX7_spare 11 = .ok (.bipush (-9), 2) := by decide +kernel
theorem dX7_spare_13 : decode cX7_spare 13 = .ok (.invokevirtual 191, 3) := by decide +kernel
theorem dX7_spare_16 : decode cX7_spare 16 = .ok (.istore_n 1, 1) := by decide +kernel
theorem dX7_spare_17 : decode cX7_spare 17 = .ok (.iconst 0, 1) := by decide +kernel
theorem dX7_spare_18 : decode cX7_spare 18 = .ok (.istore_n 2, 1) := by decide +kernel
theorem dX7_spare_19 : decode cX7_spare 19 = .ok (.iconst 0, 1) := by decide +kernel
theorem dX7_spare_20 : decode cX7_spare 20 = .ok (.istore_n 3, 1) := by decide +kernel
theorem dX7_spare_21 : decode cX7_spare 21 = .ok (.iload_n 3, 1) := by decide +kernel
theorem dX7_spare_22 : decode cX7_spare 22 = .ok (.aload_n 0, 1) := by decide +kernel
theorem dX7_spare_23 : decode cX7_spare 23 = .ok (.getfield 74, 3) := by decide +kernel
theorem dX7_spare_26 : decode cX7_spare 26 = .ok (.if_icmp .ge 28, 3) := by decide +kernel
theorem dX7_spare_29 : decode cX7_spare 29 = .ok (.iload_n 2, 1) := by decide +kernel
theorem dX7_spare_30 : decode cX7_spare 30 = .ok (.aload_n 0, 1) := by decide +kernel
theorem dX7_spare_31 : decode cX7_spare 31 = .ok (.iload_n 3, 1) := by decide +kernel
theorem dX7_spare_32 : decode cX7_spare 32 = .ok (.invokevirtual 191, 3) := by decide +kernel
theorem dX7_spare_35 : decode cX7_spare 35 = .ok (.iload_n 1, 1) := by decide +kernel
theorem dX7_spare_36 : decode cX7_spare 36 = .ok (.if_icmp .ne 9, 3) := by decide +kernel
theorem dX7_spare_39 : decode cX7_spare 39 = .ok (.iconst 1, 1) := by decide +kernel
theorem dX7_spare_40 : decode cX7_spare 40 = .ok (.iload_n 3, 1) := by decide +kernel
theorem dX7_spare_41 : decode cX7_spare 41 = .ok (.ishl, 1) := by decide +kernel
theorem dX7_spare_42 : decode cX7_spare 42 = .ok (.goto 4, 3) := by decide +kernel
theorem dX7_spare_45 : decode cX7_spare 45 = .ok (.iconst 0, 1) := by decide +kernel
theorem dX7_spare_46 : decode cX7_spare 46 = .ok (.ior, 1) := by decide +kernel
theorem dX7_spare_47 : decode cX7_spare 47 = .ok (.istore_n 2, 1) := by decide +kernel
theorem dX7_spare_48 : decode cX7_spare 48 = .ok (.iinc 3 1, 3) := by decide +kernel
theorem dX7_spare_51 : decode cX7_spare 51 = .ok (.goto (-30), 3) := by decide +kernel
theorem dX7_spare_54 : decode cX7_spare 54 = .ok (.iload_n 2, 1) := by decide +kernel
theorem dX7_spare_55 : decode cX7_spare 55 = .ok (.ireturn, 1) := by decide +kernel
theorem dX7_reading_0 : decode cX7_reading 0 = .ok (.aload_n 0, 1) := by decide +kernel
theorem dX7_reading_1 : decode cX7_reading 1 = .ok (.iload_n 1, 1) := by decide +kernel
theorem dX7_reading_2 : decode cX7_reading 2 = .ok (.invokevirtual 133, 3) := by decide +kernel
theorem dX7_reading_5 : decode cX7_reading 5 = .ok (.ifCond .eq 11, 3) := by decide +kernel
theorem dX7_reading_8 : decode cX7_reading 8 = .ok (.aload_n 0, 1) := by decide +kernel
theorem dX7_reading_9 : decode cX7_reading 9 = .ok (.iload_n 2, 1) := by decide +kernel
theorem dX7_reading_10 : decode cX7_reading 10 = .ok (.invokevirtual 127, 3) := by decide +kernel
theorem dX7_reading_13 : decode cX7_reading 13 = .ok (.ifCond .ne 5, 3) := by decide +kernel
theorem dX7_reading_16 : decode cX7_reading 16 = .ok (.iconst (-1), 1) := by decide +kernel
theorem dX7_reading_17 : decode cX7_reading 17 = .ok (.ireturn, 1) := by decide +kernel
theorem dX7_reading_18 : decode cX7_reading 18 = .ok (.iload_n 3, 1) := by decide +kernel
theorem dX7_reading_19 : decode cX7_reading 19 = .ok (.iconst 0, 1) := by decide +kernel
theorem dX7_reading_20 : decode cX7_reading 20 = .ok (.iconst 4, 1) := by decide +kernel
theorem dX7_reading_21 : decode cX7_reading 21 = .ok (.invokestatic 67, 3) := by decide +kernel
theorem dX7_reading_24 : decode cX7_reading 24 = .ok (.ifCond .ne 6, 3) := by decide +kernel
theorem dX7_reading_27 : decode cX7_reading 27 = .ok (.bipush (-2), 2) := by decide +kernel
theorem dX7_reading_29 : decode cX7_reading 29 = .ok (.ireturn, 1) := by decide +kernel
theorem dX7_reading_30 : decode cX7_reading 30 = .ok (.aload_n 0, 1) := by decide +kernel
theorem dX7_reading_31 : decode cX7_reading 31 = .ok (.getfield 110, 3) := by decide +kernel
theorem dX7_reading_34 : decode cX7_reading 34 = .ok (.bipush 8, 2) := by decide +kernel
theorem dX7_reading_36 : decode cX7_reading 36 = .ok (.if_icmp .ne 6, 3) := by decide +kernel
theorem dX7_reading_39 : decode cX7_reading 39 = .ok (.bipush (-4), 2) := by decide +kernel
theorem dX7_reading_41 : decode cX7_reading 41 = .ok (.ireturn, 1) := by decide +kernel
theorem dX7_reading_42 : decode cX7_reading 42 = .ok (.aload_n 0, 1) := by decide +kernel
theorem dX7_reading_43 : decode cX7_reading 43 = .ok (.getfield 52, 3) := by decide +kernel
theorem dX7_reading_46 : decode cX7_reading 46 = .ok (.aload_n 0, 1) := by decide +kernel
theorem dX7_reading_47 : decode cX7_reading 47 = .ok (.getfield 110, 3) := by decide +kernel
theorem dX7_reading_50 : decode cX7_reading 50 = .ok (.iload_n 1, 1) := by decide +kernel
theorem dX7_reading_51 : decode cX7_reading 51 = .ok (.iastore, 1) := by decide +kernel
theorem dX7_reading_52 : decode cX7_reading 52 = .ok (.aload_n 0, 1) := by decide +kernel
theorem dX7_reading_53 : decode cX7_reading 53 = .ok (.getfield 55, 3) := by decide +kernel
theorem dX7_reading_56 : decode cX7_reading 56 = .ok (.aload_n 0, 1) := by decide +kernel
theorem dX7_reading_57 : decode cX7_reading 57 = .ok (.getfield 110, 3) := by decide +kernel
theorem dX7_reading_60 : decode cX7_reading 60 = .ok (.iload_n 2, 1) := by decide +kernel
theorem dX7_reading_61 : decode cX7_reading 61 = .ok (.iastore, 1) := by decide +kernel
theorem dX7_reading_62 : decode cX7_reading 62 = .ok (.aload_n 0, 1) := by decide +kernel
theorem dX7_reading_63 : decode cX7_reading 63 = .ok (.getfield 58, 3) := by decide +kernel
theorem dX7_reading_66 : decode cX7_reading 66 = .ok (.aload_n 0, 1) := by decide +kernel
theorem dX7_reading_67 : decode cX7_reading 67 = .ok (.getfield 110, 3) := by decide +kernel
theorem dX7_reading_70 : decode cX7_reading 70 = .ok (.iload_n 3, 1) := by decide +kernel
theorem dX7_reading_71 : decode cX7_reading 71 = .ok (.iastore, 1) := by decide +kernel
theorem dX7_reading_72 : decode cX7_reading 72 = .ok (.aload_n 0, 1) := by decide +kernel
theorem dX7_reading_73 : decode cX7_reading 73 = .ok (.dup, 1) := by decide +kernel
theorem dX7_reading_74 : decode cX7_reading 74 = .ok (.getfield 110, 3) := by decide +kernel
theorem dX7_reading_77 : decode cX7_reading 77 = .ok (.iconst 1, 1) := by decide +kernel
theorem dX7_reading_78 : decode cX7_reading 78 = .ok (.iadd, 1) := by decide +kernel
theorem dX7_reading_79 : decode cX7_reading 79 = .ok (.putfield 110, 3) := by decide +kernel
theorem dX7_reading_82 : decode cX7_reading 82 = .ok (.aload_n 0, 1) := by decide +kernel
theorem dX7_reading_83 : decode cX7_reading 83 = .ok (.getfield 110, 3) := by decide +kernel
theorem dX7_reading_86 : decode cX7_reading 86 = .ok (.iconst 1, 1) := by decide +kernel
theorem dX7_reading_87 : decode cX7_reading 87 = .ok (.isub, 1) := by decide +kernel
theorem dX7_reading_88 : decode cX7_reading 88 = .ok (.ireturn, 1) := by decide +kernel
theorem dX7_back_0 : decode cX7_back 0 = .ok (.iload_n 1, 1) := by decide +kernel
theorem dX7_back_1 : decode cX7_back 1 = .ok (.iconst 0, 1) := by decide +kernel
theorem dX7_back_2 : decode cX7_back 2 = .ok (.aload_n 0, 1) := by decide +kernel
theorem dX7_back_3 : decode cX7_back 3 = .ok (.getfield 110, 3) := by decide +kernel
theorem dX7_back_6 : decode cX7_back 6 = .ok (.invokestatic 67, 3) := by decide +kernel
theorem dX7_back_9 : decode cX7_back 9 = .ok (.ifCond .ne 6, 3) := by decide +kernel
theorem dX7_back_12 : decode cX7_back 12 = .ok (.bipush (-2), 2) := by decide +kernel
theorem dX7_back_14 : decode cX7_back 14 = .ok (.ireturn, 1) := by decide +kernel
theorem dX7_back_15 : decode cX7_back 15 = .ok (.aload_n 0, 1) := by decide +kernel
theorem dX7_back_16 : decode cX7_back 16 = .ok (.dup, 1) := by decide +kernel
theorem dX7_back_17 : decode cX7_back 17 = .ok (.getfield 110, 3) := by decide +kernel
theorem dX7_back_20 : decode cX7_back 20 = .ok (.iload_n 1, 1) := by decide +kernel
theorem dX7_back_21 : decode cX7_back 21 = .ok (.isub, 1) := by decide +kernel
theorem dX7_back_22 : decode cX7_back 22 = .ok (.putfield 110, 3) := by decide +kernel
theorem dX7_back_25 : decode cX7_back 25 = .ok (.aload_n 0, 1) := by decide +kernel
theorem dX7_back_26 : decode cX7_back 26 = .ok (.getfield 110, 3) := by decide +kernel
theorem dX7_back_29 : decode cX7_back 29 = .ok (.ireturn, 1) := by decide +kernel
theorem dX7_areSo_0 : decode cX7_areSo 0 = .ok (.iconst 0, 1) := by decide +kernel
theorem dX7_areSo_1 : decode cX7_areSo 1 = .ok (.istore_n 1, 1) := by decide +kernel
theorem dX7_areSo_2 : decode cX7_areSo 2 = .ok (.iload_n 1, 1) := by decide +kernel
theorem dX7_areSo_3 : decode cX7_areSo 3 = .ok (.aload_n 0, 1) := by decide +kernel
theorem dX7_areSo_4 : decode cX7_areSo 4 = .ok (.getfield 110, 3) := by decide +kernel
theorem dX7_areSo_7 : decode cX7_areSo 7 = .ok (.if_icmp .ge 67, 3) := by decide +kernel
theorem dX7_areSo_10 : decode cX7_areSo 10 = .ok (.aload_n 0, 1) := by decide +kernel
theorem dX7_areSo_11 : decode cX7_areSo 11 = .ok (.getfield 52, 3) := by decide +kernel
theorem dX7_areSo_14 : decode cX7_areSo 14 = .ok (.iload_n 1, 1) := by decide +kernel
theorem dX7_areSo_15 : decode cX7_areSo 15 = .ok (.iaload, 1) := by decide +kernel
theorem dX7_areSo_16 : decode cX7_areSo 16 = .ok (.istore_n 2, 1) := by decide +kernel
theorem dX7_areSo_17 : decode cX7_areSo 17 = .ok (.aload_n 0, 1) := by decide +kernel
theorem dX7_areSo_18 : decode cX7_areSo 18 = .ok (.getfield 55, 3) := by decide +kernel
theorem dX7_areSo_21 : decode cX7_areSo 21 = .ok (.iload_n 1, 1) := by decide +kernel
theorem dX7_areSo_22 : decode cX7_areSo 22 = .ok (.iaload, 1) := by decide +kernel
theorem dX7_areSo_23 : decode cX7_areSo 23 = .ok (.istore_n 3, 1) := by decide +kernel
theorem dX7_areSo_24 : decode cX7_areSo 24 = .ok (.aload_n 0, 1) := by decide +kernel
theorem dX7_areSo_25 : decode cX7_areSo 25 = .ok (.getfield 31, 3) := by decide +kernel
theorem dX7_areSo_28 : decode cX7_areSo 28 = .ok (.iload_n 2, 1) := by decide +kernel
theorem dX7_areSo_29 : decode cX7_areSo 29 = .ok (.iaload, 1) := by decide +kernel
theorem dX7_areSo_30 : decode cX7_areSo 30 = .ok (.iload_n 3, 1) := by decide +kernel
theorem dX7_areSo_31 : decode cX7_areSo 31 = .ok (.invokestatic 124, 3) := by decide +kernel
theorem dX7_areSo_34 : decode cX7_areSo 34 = .ok (.ifCond .eq 18, 3) := by decide +kernel
theorem dX7_areSo_37 : decode cX7_areSo 37 = .ok (.aload_n 0, 1) := by decide +kernel
theorem dX7_areSo_38 : decode cX7_areSo 38 = .ok (.iload_n 2, 1) := by decide +kernel
theorem dX7_areSo_39 : decode cX7_areSo 39 = .ok (.invokevirtual 136, 3) := by decide +kernel
theorem dX7_areSo_42 : decode cX7_areSo 42 = .ok (.aload_n 0, 1) := by decide +kernel
theorem dX7_areSo_43 : decode cX7_areSo 43 = .ok (.getfield 19, 3) := by decide +kernel
theorem dX7_areSo_46 : decode cX7_areSo 46 = .ok (.iload_n 3, 1) := by decide +kernel
theorem dX7_areSo_47 : decode cX7_areSo 47 = .ok (.iaload, 1) := by decide +kernel
theorem dX7_areSo_48 : decode cX7_areSo 48 = .ok (.irem, 1) := by decide +kernel
theorem dX7_areSo_49 : decode cX7_areSo 49 = .ok (.goto 4, 3) := by decide +kernel
theorem dX7_areSo_52 : decode cX7_areSo 52 = .ok (.iconst 0, 1) := by decide +kernel
theorem dX7_areSo_53 : decode cX7_areSo 53 = .ok (.istore 4, 2) := by decide +kernel
theorem dX7_areSo_55 : decode cX7_areSo 55 = .ok (.iload 4, 2) := by decide +kernel
theorem dX7_areSo_57 : decode cX7_areSo 57 = .ok (.aload_n 0, 1) := by decide +kernel
theorem dX7_areSo_58 : decode cX7_areSo 58 = .ok (.getfield 58, 3) := by decide +kernel
theorem dX7_areSo_61 : decode cX7_areSo 61 = .ok (.iload_n 1, 1) := by decide +kernel
theorem dX7_areSo_62 : decode cX7_areSo 62 = .ok (.iaload, 1) := by decide +kernel
theorem dX7_areSo_63 : decode cX7_areSo 63 = .ok (.if_icmp .eq 5, 3) := by decide +kernel
theorem dX7_areSo_66 : decode cX7_areSo 66 = .ok (.iconst 0, 1) := by decide +kernel
theorem dX7_areSo_67 : decode cX7_areSo 67 = .ok (.ireturn, 1) := by decide +kernel
theorem dX7_areSo_68 : decode cX7_areSo 68 = .ok (.iinc 1 1, 3) := by decide +kernel
theorem dX7_areSo_71 : decode cX7_areSo 71 = .ok (.goto (-69), 3) := by decide +kernel
theorem dX7_areSo_74 : decode cX7_areSo 74 = .ok (.iconst 1, 1) := by decide +kernel
theorem dX7_areSo_75 : decode cX7_areSo 75 = .ok (.ireturn, 1) := by decide +kernel
theorem dX7_turnings_0 : decode cX7_turnings 0 = .ok (.aload_n 0, 1) := by decide +kernel
theorem dX7_turnings_1 : decode cX7_turnings 1 = .ok (.iload_n 1, 1) := by decide +kernel
theorem dX7_turnings_2 : decode cX7_turnings 2 = .ok (.invokevirtual 133, 3) := by decide +kernel
theorem dX7_turnings_5 : decode cX7_turnings 5 = .ok (.ifCond .ne 5, 3) := by decide +kernel
theorem dX7_turnings_8 : decode cX7_turnings 8 = .ok (.iconst (-1), 1) := by decide +kernel
theorem dX7_turnings_9 : decode cX7_turnings 9 = .ok (.ireturn, 1) := by decide +kernel
theorem dX7_turnings_10 : decode cX7_turnings 10 = .ok (.aload_n 0, 1) := by decide +kernel
theorem dX7_turnings_11 : decode cX7_turnings 11 = .ok (.getfield 28, 3) := by decide +kernel
theorem dX7_turnings_14 : decode cX7_turnings 14 = .ok (.iload_n 1, 1) := by decide +kernel
theorem dX7_turnings_15 : decode cX7_turnings 15 = .ok (.iaload, 1) := by decide +kernel
theorem dX7_turnings_16 : decode cX7_turnings 16 = .ok (.istore_n 2, 1) := by decide +kernel
theorem dX7_turnings_17 : decode cX7_turnings 17 = .ok (.iconst 0, 1) := by decide +kernel
theorem dX7_turnings_18 : decode cX7_turnings 18 = .ok (.istore_n 3, 1) := by decide +kernel
theorem dX7_turnings_19 : decode cX7_turnings 19 = .ok (.iconst 1, 1) := by decide +kernel
theorem dX7_turnings_20 : decode cX7_turnings 20 = .ok (.istore 4, 2) := by decide +kernel
theorem dX7_turnings_22 : decode cX7_turnings 22 = .ok (.iload 4, 2) := by decide +kernel
theorem dX7_turnings_24 : decode cX7_turnings 24 = .ok (.iconst 4, 1) := by decide +kernel
theorem dX7_turnings_25 : decode cX7_turnings 25 = .ok (.if_icmp .gt 35, 3) := by decide +kernel
theorem dX7_turnings_28 : decode cX7_turnings 28 = .ok (.aload_n 0, 1) := by decide +kernel
theorem dX7_turnings_29 : decode cX7_turnings 29 = .ok (.getfield 28, 3) := by decide +kernel
theorem dX7_turnings_32 : decode cX7_turnings 32 = .ok (.iload_n 1, 1) := by decide +kernel
theorem dX7_turnings_33 : decode cX7_turnings 33 = .ok (.iload 4, 2) := by decide +kernel
theorem dX7_turnings_35 : decode cX7_turnings 35 = .ok (.iastore, 1) := by decide +kernel
theorem dX7_turnings_36 : decode cX7_turnings 36 = .ok (.iload_n 3, 1) := by decide +kernel
theorem dX7_turnings_37 : decode cX7_turnings 37 = .ok (.aload_n 0, 1) := by decide +kernel
theorem dX7_turnings_38 : decode cX7_turnings 38 = .ok (.invokevirtual 194, 3) := by decide +kernel
theorem dX7_turnings_41 : decode cX7_turnings 41 = .ok (.ifCond .eq 10, 3) := by decide +kernel
theorem dX7_turnings_44 : decode cX7_turnings 44 = .ok (.iconst 1, 1) := by decide +kernel
theorem dX7_turnings_45 : decode cX7_turnings 45 = .ok (.iload 4, 2) := by decide +kernel
theorem dX7_turnings_47 : decode cX7_turnings 47 = .ok (.ishl, 1) := by decide +kernel
theorem dX7_turnings_48 : decode cX7_turnings 48 = .ok (.goto 4, 3) := by decide +kernel
theorem dX7_turnings_51 : decode cX7_turnings 51 = .ok (.iconst 0, 1) := by decide +kernel
theorem dX7_turnings_52 : decode cX7_turnings 52 = .ok (.ior, 1) := by decide +kernel
theorem dX7_turnings_53 : decode cX7_turnings 53 = .ok (.istore_n 3, 1) := by decide +kernel
theorem dX7_turnings_54 : decode cX7_turnings 54 = .ok (.iinc 4 1, 3) := by decide +kernel
theorem dX7_turnings_57 : decode cX7_turnings 57 = .ok (.goto (-35), 3) := by decide +kernel
theorem dX7_turnings_60 : decode cX7_turnings 60 = .ok (.aload_n 0, 1) := by decide +kernel
theorem dX7_turnings_61 : decode cX7_turnings 61 = .ok (.getfield 28, 3) := by decide +kernel
theorem dX7_turnings_64 : decode cX7_turnings 64 = .ok (.iload_n 1, 1) := by decide +kernel
theorem dX7_turnings_65 : decode cX7_turnings 65 = .ok (.iload_n 2, 1) := by decide +kernel
theorem dX7_turnings_66 : decode cX7_turnings 66 = .ok (.iastore, 1) := by decide +kernel
theorem dX7_turnings_67 : decode cX7_turnings 67 = .ok (.iload_n 3, 1) := by decide +kernel
theorem dX7_turnings_68 : decode cX7_turnings 68 = .ok (.ireturn, 1) := by decide +kernel
theorem dX7_kinds_0 : decode cX7_kinds 0 = .ok (.aload_n 0, 1) := by decide +kernel
theorem dX7_kinds_1 : decode cX7_kinds 1 = .ok (.iload_n 1, 1) := by decide +kernel
theorem dX7_kinds_2 : decode cX7_kinds 2 = .ok (.invokevirtual 133, 3) := by decide +kernel
theorem dX7_kinds_5 : decode cX7_kinds 5 = .ok (.ifCond .ne 5, 3) := by decide +kernel
theorem dX7_kinds_8 : decode cX7_kinds 8 = .ok (.iconst (-1), 1) := by decide +kernel
theorem dX7_kinds_9 : decode cX7_kinds 9 = .ok (.ireturn, 1) := by decide +kernel
theorem dX7_kinds_10 : decode cX7_kinds 10 = .ok (.aload_n 0, 1) := by decide +kernel
theorem dX7_kinds_11 : decode cX7_kinds 11 = .ok (.getfield 25, 3) := by decide +kernel
theorem dX7_kinds_14 : decode cX7_kinds 14 = .ok (.iload_n 1, 1) := by decide +kernel
theorem dX7_kinds_15 : decode cX7_kinds 15 = .ok (.iaload, 1) := by decide +kernel
theorem dX7_kinds_16 : decode cX7_kinds 16 = .ok (.istore_n 2, 1) := by decide +kernel
theorem dX7_kinds_17 : decode cX7_kinds 17 = .ok (.iconst 0, 1) := by decide +kernel
theorem dX7_kinds_18 : decode cX7_kinds 18 = .ok (.istore_n 3, 1) := by decide +kernel
theorem dX7_kinds_19 : decode cX7_kinds 19 = .ok (.iconst 0, 1) := by decide +kernel
theorem dX7_kinds_20 : decode cX7_kinds 20 = .ok (.istore 4, 2) := by decide +kernel
theorem dX7_kinds_22 : decode cX7_kinds 22 = .ok (.iload 4, 2) := by decide +kernel
theorem dX7_kinds_24 : decode cX7_kinds 24 = .ok (.iconst 3, 1) := by decide +kernel
theorem dX7_kinds_25 : decode cX7_kinds 25 = .ok (.if_icmp .ge 35, 3) := by decide +kernel
theorem dX7_kinds_28 : decode cX7_kinds 28 = .ok (.aload_n 0, 1) := by decide +kernel
theorem dX7_kinds_29 : decode cX7_kinds 29 = .ok (.getfield 25, 3) := by decide +kernel
theorem dX7_kinds_32 : decode cX7_kinds 32 = .ok (.iload_n 1, 1) := by decide +kernel
theorem dX7_kinds_33 : decode cX7_kinds 33 = .ok (.iload 4, 2) := by decide +kernel
theorem dX7_kinds_35 : decode cX7_kinds 35 = .ok (.iastore, 1) := by decide +kernel
theorem dX7_kinds_36 : decode cX7_kinds 36 = .ok (.iload_n 3, 1) := by decide +kernel
theorem dX7_kinds_37 : decode cX7_kinds 37 = .ok (.aload_n 0, 1) := by decide +kernel
theorem dX7_kinds_38 : decode cX7_kinds 38 = .ok (.invokevirtual 194, 3) := by decide +kernel
theorem dX7_kinds_41 : decode cX7_kinds 41 = .ok (.ifCond .eq 10, 3) := by decide +kernel
theorem dX7_kinds_44 : decode cX7_kinds 44 = .ok (.iconst 1, 1) := by decide +kernel
theorem dX7_kinds_45 : decode cX7_kinds 45 = .ok (.iload 4, 2) := by decide +kernel
theorem dX7_kinds_47 : decode cX7_kinds 47 = .ok (.ishl, 1) := by decide +kernel
theorem dX7_kinds_48 : decode cX7_kinds 48 = .ok (.goto 4, 3) := by decide +kernel
theorem dX7_kinds_51 : decode cX7_kinds 51 = .ok (.iconst 0, 1) := by decide +kernel
theorem dX7_kinds_52 : decode cX7_kinds 52 = .ok (.ior, 1) := by decide +kernel
theorem dX7_kinds_53 : decode cX7_kinds 53 = .ok (.istore_n 3, 1) := by decide +kernel
theorem dX7_kinds_54 : decode cX7_kinds 54 = .ok (.iinc 4 1, 3) := by decide +kernel
theorem dX7_kinds_57 : decode cX7_kinds 57 = .ok (.goto (-35), 3) := by decide +kernel
theorem dX7_kinds_60 : decode cX7_kinds 60 = .ok (.aload_n 0, 1) := by decide +kernel
theorem dX7_kinds_61 : decode cX7_kinds 61 = .ok (.getfield 25, 3) := by decide +kernel
theorem dX7_kinds_64 : decode cX7_kinds 64 = .ok (.iload_n 1, 1) := by decide +kernel
theorem dX7_kinds_65 : decode cX7_kinds 65 = .ok (.iload_n 2, 1) := by decide +kernel
theorem dX7_kinds_66 : decode cX7_kinds 66 = .ok (.iastore, 1) := by decide +kernel
theorem dX7_kinds_67 : decode cX7_kinds 67 = .ok (.iload_n 3, 1) := by decide +kernel
theorem dX7_kinds_68 : decode cX7_kinds 68 = .ok (.ireturn, 1) := by decide +kernel
theorem dX7_shadings_0 : decode cX7_shadings 0 = .ok (.aload_n 0, 1) := by decide +kernel
theorem dX7_shadings_1 : decode cX7_shadings 1 = .ok (.iload_n 1, 1) := by decide +kernel
theorem dX7_shadings_2 : decode cX7_shadings 2 = .ok (.invokevirtual 127, 3) := by decide +kernel
theorem dX7_shadings_5 : decode cX7_shadings 5 = .ok (.ifCond .ne 5, 3) := by decide +kernel
theorem dX7_shadings_8 : decode cX7_shadings 8 = .ok (.iconst (-1), 1) := by decide +kernel
theorem dX7_shadings_9 : decode cX7_shadings 9 = .ok (.ireturn, 1) := by decide +kernel
theorem dX7_shadings_10 : decode cX7_shadings 10 = .ok (.aload_n 0, 1) := by decide +kernel
theorem dX7_shadings_11 : decode cX7_shadings 11 = .ok (.getfield 19, 3) := by decide +kernel
theorem dX7_shadings_14 : decode cX7_shadings 14 = .ok (.iload_n 1, 1) := by decide +kernel
theorem dX7_shadings_15 : decode cX7_shadings 15 = .ok (.iaload, 1) := by decide +kernel
theorem dX7_shadings_16 : decode cX7_shadings 16 = .ok (.istore_n 2, 1) := by decide +kernel
theorem dX7_shadings_17 : decode cX7_shadings 17 = .ok (.iconst 0, 1) := by decide +kernel
theorem dX7_shadings_18 : decode cX7_shadings 18 = .ok (.istore_n 3, 1) := by decide +kernel
theorem dX7_shadings_19 : decode cX7_shadings 19 = .ok (.iconst 2, 1) := by decide +kernel
theorem dX7_shadings_20 : decode cX7_shadings 20 = .ok (.istore 4, 2) := by decide +kernel
theorem dX7_shadings_22 : decode cX7_shadings 22 = .ok (.iload 4, 2) := by decide +kernel
theorem dX7_shadings_24 : decode cX7_shadings 24 = .ok (.iconst 5, 1) := by decide +kernel
theorem dX7_shadings_25 : decode cX7_shadings 25 = .ok (.if_icmp .gt 35, 3) := by decide +kernel
theorem dX7_shadings_28 : decode cX7_shadings 28 = .ok (.aload_n 0, 1) := by decide +kernel
theorem dX7_shadings_29 : decode cX7_shadings 29 = .ok (.getfield 19, 3) := by decide +kernel
theorem dX7_shadings_32 : decode cX7_shadings 32 = .ok (.iload_n 1, 1) := by decide +kernel
theorem dX7_shadings_33 : decode cX7_shadings 33 = .ok (.iload 4, 2) := by decide +kernel
theorem dX7_shadings_35 : decode cX7_shadings 35 = .ok (.iastore, 1) := by decide +kernel
theorem dX7_shadings_36 : decode cX7_shadings 36 = .ok (.iload_n 3, 1) := by decide +kernel
theorem dX7_shadings_37 : decode cX7_shadings 37 = .ok (.aload_n 0, 1) := by decide +kernel
theorem dX7_shadings_38 : decode cX7_shadings 38 = .ok (.invokevirtual 194, 3) := by decide +kernel
theorem dX7_shadings_41 : decode cX7_shadings 41 = .ok (.ifCond .eq 10, 3) := by decide +kernel
theorem dX7_shadings_44 : decode cX7_shadings 44 = .ok (.iconst 1, 1) := by decide +kernel
theorem dX7_shadings_45 : decode cX7_shadings 45 = .ok (.iload 4, 2) := by decide +kernel
theorem dX7_shadings_47 : decode cX7_shadings 47 = .ok (.ishl, 1) := by decide +kernel
theorem dX7_shadings_48 : decode cX7_shadings 48 = .ok (.goto 4, 3) := by decide +kernel
theorem dX7_shadings_51 : decode cX7_shadings 51 = .ok (.iconst 0, 1) := by decide +kernel
theorem dX7_shadings_52 : decode cX7_shadings 52 = .ok (.ior, 1) := by decide +kernel
theorem dX7_shadings_53 : decode cX7_shadings 53 = .ok (.istore_n 3, 1) := by decide +kernel
theorem dX7_shadings_54 : decode cX7_shadings 54 = .ok (.iinc 4 1, 3) := by decide +kernel
theorem dX7_shadings_57 : decode cX7_shadings 57 = .ok (.goto (-35), 3) := by decide +kernel
theorem dX7_shadings_60 : decode cX7_shadings 60 = .ok (.aload_n 0, 1) := by decide +kernel
theorem dX7_shadings_61 : decode cX7_shadings 61 = .ok (.getfield 19, 3) := by decide +kernel
theorem dX7_shadings_64 : decode cX7_shadings 64 = .ok (.iload_n 1, 1) := by decide +kernel
theorem dX7_shadings_65 : decode cX7_shadings 65 = .ok (.iload_n 2, 1) := by decide +kernel
theorem dX7_shadings_66 : decode cX7_shadings 66 = .ok (.iastore, 1) := by decide +kernel
theorem dX7_shadings_67 : decode cX7_shadings 67 = .ok (.iload_n 3, 1) := by decide +kernel
theorem dX7_shadings_68 : decode cX7_shadings 68 = .ok (.ireturn, 1) := by decide +kernel
theorem dX7_inLeastTerms_0 : decode cX7_inLeastTerms 0 = .ok (.lload_n 0, 1) := by decide +kernel
theorem dX7_inLeastTerms_1 : decode cX7_inLeastTerms 1 = .ok (.lstore 5, 2) := by decide +kernel
theorem dX7_inLeastTerms_3 : decode cX7_inLeastTerms 3 = .ok (.lload_n 2, 1) := by decide +kernel
theorem dX7_inLeastTerms_4 : decode cX7_inLeastTerms 4 = .ok (.lstore 7, 2) := by decide +kernel
theorem dX7_inLeastTerms_6 : decode cX7_inLeastTerms 6 = .ok (.lload 7, 2) := by decide +kernel
theorem dX7_inLeastTerms_8 : decode cX7_inLeastTerms 8 = .ok (.lconst 0, 1) := by decide +kernel
theorem dX7_inLeastTerms_9 : decode cX7_inLeastTerms 9 = .ok (.lcmp, 1) := by decide +kernel
theorem dX7_inLeastTerms_10 : decode cX7_inLeastTerms 10 = .ok (.ifCond .eq 21, 3) := by decide +kernel
theorem dX7_inLeastTerms_13 : decode cX7_inLeastTerms 13 = .ok (.lload 5, 2) := by decide +kernel
theorem dX7_inLeastTerms_15 : decode cX7_inLeastTerms 15 = .ok (.lload 7, 2) := by decide +kernel
theorem dX7_inLeastTerms_17 : decode cX7_inLeastTerms 17 = .ok (.lrem, 1) := by decide +kernel
theorem dX7_inLeastTerms_18 : decode cX7_inLeastTerms 18 = .ok (.lstore 9, 2) := by decide +kernel
theorem dX7_inLeastTerms_20 : decode cX7_inLeastTerms 20 = .ok (.lload 7, 2) := by decide +kernel
theorem dX7_inLeastTerms_22 : decode cX7_inLeastTerms 22 = .ok (.lstore 5, 2) := by decide +kernel
theorem dX7_inLeastTerms_24 : decode cX7_inLeastTerms 24 = .ok (.lload 9, 2) := by decide +kernel
theorem dX7_inLeastTerms_26 : decode cX7_inLeastTerms 26 = .ok (.lstore 7, 2) := by decide +kernel
theorem dX7_inLeastTerms_28 : decode cX7_inLeastTerms 28 = .ok (.goto (-22), 3) := by decide +kernel
theorem dX7_inLeastTerms_31 : decode cX7_inLeastTerms 31 = .ok (.iload 4, 2) := by decide +kernel
theorem dX7_inLeastTerms_33 : decode cX7_inLeastTerms 33 = .ok (.ifCond .ne 10, 3) := by decide +kernel
theorem dX7_inLeastTerms_36 : decode cX7_inLeastTerms 36 = .ok (.lload_n 0, 1) := by decide +kernel
theorem dX7_inLeastTerms_37 : decode cX7_inLeastTerms 37 = .ok (.lload 5, 2) := by decide +kernel
theorem dX7_inLeastTerms_39 : decode cX7_inLeastTerms 39 = .ok (.ldiv, 1) := by decide +kernel
theorem dX7_inLeastTerms_40 : decode cX7_inLeastTerms 40 = .ok (.goto 7, 3) := by decide +kernel
theorem dX7_inLeastTerms_43 : decode cX7_inLeastTerms 43 = .ok (.lload_n 2, 1) := by decide +kernel
theorem dX7_inLeastTerms_44 : decode cX7_inLeastTerms 44 = .ok (.lload 5, 2) := by decide +kernel
theorem dX7_inLeastTerms_46 : decode cX7_inLeastTerms 46 = .ok (.ldiv, 1) := by decide +kernel
theorem dX7_inLeastTerms_47 : decode cX7_inLeastTerms 47 = .ok (.lreturn, 1) := by decide +kernel
theorem dX7_odds_0 : decode cX7_odds 0 = .ok (.iload_n 1, 1) := by decide +kernel
theorem dX7_odds_1 : decode cX7_odds 1 = .ok (.iconst 0, 1) := by decide +kernel
theorem dX7_odds_2 : decode cX7_odds 2 = .ok (.iconst 4, 1) := by decide +kernel
theorem dX7_odds_3 : decode cX7_odds 3 = .ok (.invokestatic 67, 3) := by decide +kernel
theorem dX7_odds_6 : decode cX7_odds 6 = .ok (.ifCond .eq 19, 3) := by decide +kernel
theorem dX7_odds_9 : decode cX7_odds 9 = .ok (.iload_n 2, 1) := by decide +kernel
theorem dX7_odds_10 : decode cX7_odds 10 = .ok (.iconst 0, 1) := by decide +kernel
theorem dX7_odds_11 : decode cX7_odds 11 = .ok (.iconst 1, 1) := by decide +kernel
theorem dX7_odds_12 : decode cX7_odds 12 = .ok (.invokestatic 67, 3) := by decide +kernel
theorem dX7_odds_15 : decode cX7_odds 15 = .ok (.ifCond .eq 10, 3) := by decide +kernel
theorem dX7_odds_18 : decode cX7_odds 18 = .ok (.aload_n 0, 1) := by decide +kernel
theorem dX7_odds_19 : decode cX7_odds 19 = .ok (.getfield 71, 3) := by decide +kernel
theorem dX7_odds_22 : decode cX7_odds 22 = .ok (.ifCond .ne 7, 3) := by decide +kernel
theorem dX7_odds_25 : decode cX7_odds 25 = .ok (.ldc2_w 65, 3) := by decide +kernel
theorem dX7_odds_28 : decode cX7_odds 28 = .ok (.lreturn, 1) := by decide +kernel
theorem dX7_odds_29 : decode cX7_odds 29 = .ok (.iconst 1, 1) := by decide +kernel
theorem dX7_odds_30 : decode cX7_odds 30 = .ok (.istore_n 3, 1) := by decide +kernel
theorem dX7_odds_31 : decode cX7_odds 31 = .ok (.iconst 0, 1) := by decide +kernel
theorem dX7_odds_32 : decode cX7_odds 32 = .ok (.istore 4, 2) := by decide +kernel
theorem dX7_odds_34 : decode cX7_odds 34 = .ok (.iload 4, 2) := by decide +kernel
theorem dX7_odds_36 : decode cX7_odds 36 = .ok (.iload_n 1, 1) := by decide +kernel
theorem dX7_odds_37 : decode cX7_odds 37 = .ok (.if_icmp .ge 16, 3) := by decide +kernel
theorem dX7_odds_40 : decode cX7_odds 40 = .ok (.iload_n 3, 1) := by decide +kernel
theorem dX7_odds_41 : decode cX7_odds 41 = .ok (.aload_n 0, 1) := by decide +kernel
theorem dX7_odds_42 : decode cX7_odds 42 = .ok (.getfield 74, 3) := by decide +kernel
theorem dX7_odds_45 : decode cX7_odds 45 = .ok (.imul, 1) := by decide +kernel
theorem dX7_odds_46 : decode cX7_odds 46 = .ok (.istore_n 3, 1) := by decide +kernel
theorem dX7_odds_47 : decode cX7_odds 47 = .ok (.iinc 4 1, 3) := by decide +kernel
theorem dX7_odds_50 : decode cX7_odds 50 = .ok (.goto (-16), 3) := by decide +kernel
theorem dX7_odds_53 : decode cX7_odds 53 = .ok (.iconst 0, 1) := by decide +kernel
theorem dX7_odds_54 : decode cX7_odds 54 = .ok (.istore 4, 2) := by decide +kernel
theorem dX7_odds_56 : decode cX7_odds 56 = .ok (.aload_n 0, 1) := by decide +kernel
theorem dX7_odds_57 : decode cX7_odds 57 = .ok (.invokevirtual 160, 3) := by decide +kernel
theorem dX7_odds_60 : decode cX7_odds 60 = .ok (.iconst 0, 1) := by decide +kernel
theorem dX7_odds_61 : decode cX7_odds 61 = .ok (.istore 5, 2) := by decide +kernel
theorem dX7_odds_63 : decode cX7_odds 63 = .ok (.iload 5, 2) := by decide +kernel
theorem dX7_odds_65 : decode cX7_odds 65 = .ok (.iload_n 3, 1) := by decide +kernel
theorem dX7_odds_66 : decode cX7_odds 66 = .ok (.if_icmp .ge 74, 3) := by decide +kernel
theorem dX7_odds_69 : decode cX7_odds 69 = .ok (.iload 5, 2) := by decide +kernel
theorem dX7_odds_71 : decode cX7_odds 71 = .ok (.istore 6, 2) := by decide +kernel
theorem dX7_odds_73 : decode cX7_odds 73 = .ok (.iconst 0, 1) := by decide +kernel
theorem dX7_odds_74 : decode cX7_odds 74 = .ok (.istore 7, 2) := by decide +kernel
theorem dX7_odds_76 : decode cX7_odds 76 = .ok (.iload 7, 2) := by decide +kernel
theorem dX7_odds_78 : decode cX7_odds 78 = .ok (.iload_n 1, 1) := by decide +kernel
theorem dX7_odds_79 : decode cX7_odds 79 = .ok (.if_icmp .ge 30, 3) := by decide +kernel
theorem dX7_odds_82 : decode cX7_odds 82 = .ok (.aload_n 0, 1) := by decide +kernel
theorem dX7_odds_83 : decode cX7_odds 83 = .ok (.iload 6, 2) := by decide +kernel
theorem dX7_odds_85 : decode cX7_odds 85 = .ok (.aload_n 0, 1) := by decide +kernel
theorem dX7_odds_86 : decode cX7_odds 86 = .ok (.getfield 74, 3) := by decide +kernel
theorem dX7_odds_89 : decode cX7_odds 89 = .ok (.irem, 1) := by decide +kernel
