theorem dX7_placeOf_139 : decode cX7_placeOf 139 = .ok (.aload_n 2, 1) := by decide +kernel
theorem dX7_placeOf_140 : decode cX7_placeOf 140 = .ok (.getfield 40, 3) := by decide +kernel
theorem dX7_placeOf_143 : decode cX7_placeOf 143 = .ok (.iload_n 3, 1) := by decide +kernel
theorem dX7_placeOf_144 : decode cX7_placeOf 144 = .ok (.lload 6, 2) := by decide +kernel
theorem dX7_placeOf_146 : decode cX7_placeOf 146 = .ok (.invokestatic 47, 3) := by decide +kernel
theorem dX7_placeOf_149 : decode cX7_placeOf 149 = .ok (.iinc 3 (-1), 3) := by decide +kernel
theorem dX7_placeOf_152 : decode cX7_placeOf 152 = .ok (.goto (-132), 3) := by decide +kernel
theorem dX7_placeOf_155 : decode cX7_placeOf 155 = .ok (.aload_n 2, 1) := by decide +kernel
theorem dX7_placeOf_156 : decode cX7_placeOf 156 = .ok (.getfield 40, 3) := by decide +kernel
theorem dX7_placeOf_159 : decode cX7_placeOf 159 = .ok (.iconst 0, 1) := by decide +kernel
theorem dX7_placeOf_160 : decode cX7_placeOf 160 = .ok (.invokestatic 44, 3) := by decide +kernel
theorem dX7_placeOf_163 : decode cX7_placeOf 163 = .ok (.lreturn, 1) := by decide +kernel
theorem dX7_lay_0 : decode cX7_lay 0 = .ok (.aload 4, 2) := by decide +kernel
theorem dX7_lay_2 : decode cX7_lay 2 = .ok (.getfield 15, 3) := by decide +kernel
theorem dX7_lay_5 : decode cX7_lay 5 = .ok (.iconst 0, 1) := by decide +kernel
theorem dX7_lay_6 : decode cX7_lay 6 = .ok (.aload_n 0, 1) := by decide +kernel
theorem dX7_lay_7 : decode cX7_lay 7 = .ok (.getfield 9, 3) := by decide +kernel
theorem dX7_lay_10 : decode cX7_lay 10 = .ok (.invokestatic 25, 3) := by decide +kernel
theorem dX7_lay_13 : decode cX7_lay 13 = .ok (.aload 4, 2) := by decide +kernel
theorem dX7_lay_15 : decode cX7_lay 15 = .ok (.getfield 40, 3) := by decide +kernel
theorem dX7_lay_18 : decode cX7_lay 18 = .ok (.iconst 0, 1) := by decide +kernel
theorem dX7_lay_19 : decode cX7_lay 19 = .ok (.lload_n 1, 1) := by decide +kernel
theorem dX7_lay_20 : decode cX7_lay 20 = .ok (.invokestatic 47, 3) := by decide +kernel
theorem dX7_lay_23 : decode cX7_lay 23 = .ok (.iconst 0, 1) := by decide +kernel
theorem dX7_lay_24 : decode cX7_lay 24 = .ok (.istore 5, 2) := by decide +kernel
theorem dX7_lay_26 : decode cX7_lay 26 = .ok (.iload 5, 2) := by decide +kernel
theorem dX7_lay_28 : decode cX7_lay 28 = .ok (.aload_n 0, 1) := by decide +kernel
theorem dX7_lay_29 : decode cX7_lay 29 = .ok (.getfield 9, 3) := by decide +kernel
theorem dX7_lay_32 : decode cX7_lay 32 = .ok (.if_icmp .ge 129, 3) := by decide +kernel
theorem dX7_lay_35 : decode cX7_lay 35 = .ok (.aload 4, 2) := by decide +kernel
theorem dX7_lay_37 : decode cX7_lay 37 = .ok (.getfield 15, 3) := by decide +kernel
theorem dX7_lay_40 : decode cX7_lay 40 = .ok (.iload 5, 2) := by decide +kernel
theorem dX7_lay_42 : decode cX7_lay 42 = .ok (.invokestatic 29, 3) := by decide +kernel
theorem dX7_lay_45 : decode cX7_lay 45 = .ok (.iconst 1, 1) := by decide +kernel
theorem dX7_lay_46 : decode cX7_lay 46 = .ok (.isub, 1) := by decide +kernel
theorem dX7_lay_47 : decode cX7_lay 47 = .ok (.istore 6, 2) := by decide +kernel
theorem dX7_lay_49 : decode cX7_lay 49 = .ok (.aload 4, 2) := by decide +kernel
theorem dX7_lay_51 : decode cX7_lay 51 = .ok (.getfield 40, 3) := by decide +kernel
theorem dX7_lay_54 : decode cX7_lay 54 = .ok (.iload 5, 2) := by decide +kernel
theorem dX7_lay_56 : decode cX7_lay 56 = .ok (.invokestatic 44, 3) := by decide +kernel
theorem dX7_lay_59 : decode cX7_lay 59 = .ok (.lstore 7, 2) := by decide +kernel
theorem dX7_lay_61 : decode cX7_lay 61 = .ok (.iconst 0, 1) := by decide +kernel
theorem dX7_lay_62 : decode cX7_lay 62 = .ok (.istore 9, 2) := by decide +kernel
theorem dX7_lay_64 : decode cX7_lay 64 = .ok (.iconst 0, 1) := by decide +kernel
theorem dX7_lay_65 : decode cX7_lay 65 = .ok (.istore 10, 2) := by decide +kernel
theorem dX7_lay_67 : decode cX7_lay 67 = .ok (.iload 10, 2) := by decide +kernel
theorem dX7_lay_69 : decode cX7_lay 69 = .ok (.iload 6, 2) := by decide +kernel
theorem dX7_lay_71 : decode cX7_lay 71 = .ok (.if_icmp .ge 53, 3) := by decide +kernel
theorem dX7_lay_74 : decode cX7_lay 74 = .ok (.aload 4, 2) := by decide +kernel
theorem dX7_lay_76 : decode cX7_lay 76 = .ok (.iload 10, 2) := by decide +kernel
theorem dX7_lay_78 : decode cX7_lay 78 = .ok (.invokevirtual 36, 3) := by decide +kernel
theorem dX7_lay_81 : decode cX7_lay 81 = .ok (.aload 4, 2) := by decide +kernel
theorem dX7_lay_83 : decode cX7_lay 83 = .ok (.iload 6, 2) := by decide +kernel
theorem dX7_lay_85 : decode cX7_lay 85 = .ok (.iload 10, 2) := by decide +kernel
theorem dX7_lay_87 : decode cX7_lay 87 = .ok (.isub, 1) := by decide +kernel
theorem dX7_lay_88 : decode cX7_lay 88 = .ok (.invokevirtual 36, 3) := by decide +kernel
theorem dX7_lay_91 : decode cX7_lay 91 = .ok (.lmul, 1) := by decide +kernel
theorem dX7_lay_92 : decode cX7_lay 92 = .ok (.lstore 11, 2) := by decide +kernel
theorem dX7_lay_94 : decode cX7_lay 94 = .ok (.lload 7, 2) := by decide +kernel
theorem dX7_lay_96 : decode cX7_lay 96 = .ok (.lload 11, 2) := by decide +kernel
theorem dX7_lay_98 : decode cX7_lay 98 = .ok (.lcmp, 1) := by decide +kernel
theorem dX7_lay_99 : decode cX7_lay 99 = .ok (.ifCond .ge 6, 3) := by decide +kernel
theorem dX7_lay_102 : decode cX7_lay 102 = .ok (.goto 22, 3) := by decide +kernel
theorem dX7_lay_105 : decode cX7_lay 105 = .ok (.lload 7, 2) := by decide +kernel
theorem dX7_lay_107 : decode cX7_lay 107 = .ok (.lload 11, 2) := by decide +kernel
theorem dX7_lay_109 : decode cX7_lay 109 = .ok (.lsub, 1) := by decide +kernel
theorem dX7_lay_110 : decode cX7_lay 110 = .ok (.lstore 7, 2) := by decide +kernel
theorem dX7_lay_112 : decode cX7_lay 112 = .ok (.iload 10, 2) := by decide +kernel
theorem dX7_lay_114 : decode cX7_lay 114 = .ok (.iconst 1, 1) := by decide +kernel
theorem dX7_lay_115 : decode cX7_lay 115 = .ok (.iadd, 1) := by decide +kernel
theorem dX7_lay_116 : decode cX7_lay 116 = .ok (.istore 9, 2) := by decide +kernel
theorem dX7_lay_118 : decode cX7_lay 118 = .ok (.iinc 10 1, 3) := by decide +kernel
theorem dX7_lay_121 : decode cX7_lay 121 = .ok (.goto (-54), 3) := by decide +kernel
theorem dX7_lay_124 : decode cX7_lay 124 = .ok (.aload_n 3, 1) := by decide +kernel
theorem dX7_lay_125 : decode cX7_lay 125 = .ok (.iload 5, 2) := by decide +kernel
theorem dX7_lay_127 : decode cX7_lay 127 = .ok (.iload 9, 2) := by decide +kernel
theorem dX7_lay_129 : decode cX7_lay 129 = .ok (.invokestatic 25, 3) := by decide +kernel
theorem dX7_lay_132 : decode cX7_lay 132 = .ok (.aload 4, 2) := by decide +kernel
theorem dX7_lay_134 : decode cX7_lay 134 = .ok (.getfield 15, 3) := by decide +kernel
theorem dX7_lay_137 : decode cX7_lay 137 = .ok (.iload 5, 2) := by decide +kernel
theorem dX7_lay_139 : decode cX7_lay 139 = .ok (.iload 9, 2) := by decide +kernel
theorem dX7_lay_141 : decode cX7_lay 141 = .ok (.invokestatic 33, 3) := by decide +kernel
theorem dX7_lay_144 : decode cX7_lay 144 = .ok (.aload 4, 2) := by decide +kernel
theorem dX7_lay_146 : decode cX7_lay 146 = .ok (.iload 5, 2) := by decide +kernel
theorem dX7_lay_148 : decode cX7_lay 148 = .ok (.iload 9, 2) := by decide +kernel
theorem dX7_lay_150 : decode cX7_lay 150 = .ok (.lload 7, 2) := by decide +kernel
theorem dX7_lay_152 : decode cX7_lay 152 = .ok (.invokestatic 50, 3) := by decide +kernel
theorem dX7_lay_155 : decode cX7_lay 155 = .ok (.iinc 5 1, 3) := by decide +kernel
theorem dX7_lay_158 : decode cX7_lay 158 = .ok (.goto (-132), 3) := by decide +kernel
theorem dX7_lay_161 : decode cX7_lay 161 = .ok (.return_, 1) := by decide +kernel
theorem dX7_splitRank_0 : decode cX7_splitRank 0 = .ok (.aload_n 0, 1) := by decide +kernel
theorem dX7_splitRank_1 : decode cX7_splitRank 1 = .ok (.getfield 15, 3) := by decide +kernel
theorem dX7_splitRank_4 : decode cX7_splitRank 4 = .ok (.iload_n 1, 1) := by decide +kernel
theorem dX7_splitRank_5 : decode cX7_splitRank 5 = .ok (.invokestatic 29, 3) := by decide +kernel
theorem dX7_splitRank_8 : decode cX7_splitRank 8 = .ok (.iconst 1, 1) := by decide +kernel
theorem dX7_splitRank_9 : decode cX7_splitRank 9 = .ok (.isub, 1) := by decide +kernel
theorem dX7_splitRank_10 : decode cX7_splitRank 10 = .ok (.iload_n 2, 1) := by decide +kernel
theorem dX7_splitRank_11 : decode cX7_splitRank 11 = .ok (.isub, 1) := by decide +kernel
theorem dX7_splitRank_12 : decode cX7_splitRank 12 = .ok (.istore 5, 2) := by decide +kernel
theorem dX7_splitRank_14 : decode cX7_splitRank 14 = .ok (.aload_n 0, 1) := by decide +kernel
theorem dX7_splitRank_15 : decode cX7_splitRank 15 = .ok (.iload 5, 2) := by decide +kernel
theorem dX7_splitRank_17 : decode cX7_splitRank 17 = .ok (.invokevirtual 36, 3) := by decide +kernel
theorem dX7_splitRank_20 : decode cX7_splitRank 20 = .ok (.lstore 6, 2) := by decide +kernel
theorem dX7_splitRank_22 : decode cX7_splitRank 22 = .ok (.iload_n 2, 1) := by decide +kernel
theorem dX7_splitRank_23 : decode cX7_splitRank 23 = .ok (.ifCond .le 19, 3) := by decide +kernel
theorem dX7_splitRank_26 : decode cX7_splitRank 26 = .ok (.aload_n 0, 1) := by decide +kernel
theorem dX7_splitRank_27 : decode cX7_splitRank 27 = .ok (.getfield 40, 3) := by decide +kernel
theorem dX7_splitRank_30 : decode cX7_splitRank 30 = .ok (.iload_n 1, 1) := by decide +kernel
theorem dX7_splitRank_31 : decode cX7_splitRank 31 = .ok (.iconst 1, 1) := by decide +kernel
theorem dX7_splitRank_32 : decode cX7_splitRank 32 = .ok (.iadd, 1) := by decide +kernel
theorem dX7_splitRank_33 : decode cX7_splitRank 33 = .ok (.lload_n 3, 1) := by decide +kernel
theorem dX7_splitRank_34 : decode cX7_splitRank 34 = .ok (.lload 6, 2) := by decide +kernel
theorem dX7_splitRank_36 : decode cX7_splitRank 36 = .ok (.invokestatic 54, 3) := by decide +kernel
theorem dX7_splitRank_39 : decode cX7_splitRank 39 = .ok (.invokestatic 47, 3) := by decide +kernel
theorem dX7_splitRank_42 : decode cX7_splitRank 42 = .ok (.iload 5, 2) := by decide +kernel
theorem dX7_splitRank_44 : decode cX7_splitRank 44 = .ok (.ifCond .le 21, 3) := by decide +kernel
theorem dX7_splitRank_47 : decode cX7_splitRank 47 = .ok (.aload_n 0, 1) := by decide +kernel
theorem dX7_splitRank_48 : decode cX7_splitRank 48 = .ok (.getfield 40, 3) := by decide +kernel
theorem dX7_splitRank_51 : decode cX7_splitRank 51 = .ok (.iload_n 1, 1) := by decide +kernel
theorem dX7_splitRank_52 : decode cX7_splitRank 52 = .ok (.iconst 1, 1) := by decide +kernel
theorem dX7_splitRank_53 : decode cX7_splitRank 53 = .ok (.iadd, 1) := by decide +kernel
theorem dX7_splitRank_54 : decode cX7_splitRank 54 = .ok (.iload_n 2, 1) := by decide +kernel
theorem dX7_splitRank_55 : decode cX7_splitRank 55 = .ok (.iadd, 1) := by decide +kernel
theorem dX7_splitRank_56 : decode cX7_splitRank 56 = .ok (.lload_n 3, 1) := by decide +kernel
theorem dX7_splitRank_57 : decode cX7_splitRank 57 = .ok (.lload 6, 2) := by decide +kernel
theorem dX7_splitRank_59 : decode cX7_splitRank 59 = .ok (.invokestatic 58, 3) := by decide +kernel
theorem dX7_splitRank_62 : decode cX7_splitRank 62 = .ok (.invokestatic 47, 3) := by decide +kernel
theorem dX7_splitRank_65 : decode cX7_splitRank 65 = .ok (.return_, 1) := by decide +kernel
theorem dX7_turn_0 : decode cX7_turn 0 = .ok (.aload_n 1, 1) := by decide +kernel
theorem dX7_turn_1 : decode cX7_turn 1 = .ok (.aload_n 0, 1) := by decide +kernel
theorem dX7_turn_2 : decode cX7_turn 2 = .ok (.getfield 9, 3) := by decide +kernel
theorem dX7_turn_5 : decode cX7_turn 5 = .ok (.aload_n 3, 1) := by decide +kernel
theorem dX7_turn_6 : decode cX7_turn 6 = .ok (.getfield 15, 3) := by decide +kernel
theorem dX7_turn_9 : decode cX7_turn 9 = .ok (.invokestatic 21, 3) := by decide +kernel
theorem dX7_turn_12 : decode cX7_turn 12 = .ok (.pop, 1) := by decide +kernel
theorem dX7_turn_13 : decode cX7_turn 13 = .ok (.aload_n 3, 1) := by decide +kernel
theorem dX7_turn_14 : decode cX7_turn 14 = .ok (.getfield 61, 3) := by decide +kernel
theorem dX7_turn_17 : decode cX7_turn 17 = .ok (.iconst 0, 1) := by decide +kernel
theorem dX7_turn_18 : decode cX7_turn 18 = .ok (.iconst 0, 1) := by decide +kernel
theorem dX7_turn_19 : decode cX7_turn 19 = .ok (.invokestatic 25, 3) := by decide +kernel
theorem dX7_turn_22 : decode cX7_turn 22 = .ok (.iconst 0, 1) := by decide +kernel
theorem dX7_turn_23 : decode cX7_turn 23 = .ok (.istore 4, 2) := by decide +kernel
theorem dX7_turn_25 : decode cX7_turn 25 = .ok (.iload 4, 2) := by decide +kernel
theorem dX7_turn_27 : decode cX7_turn 27 = .ok (.aload_n 0, 1) := by decide +kernel
theorem dX7_turn_28 : decode cX7_turn 28 = .ok (.getfield 9, 3) := by decide +kernel
theorem dX7_turn_31 : decode cX7_turn 31 = .ok (.if_icmp .ge 98, 3) := by decide +kernel
theorem dX7_turn_34 : decode cX7_turn 34 = .ok (.aload_n 1, 1) := by decide +kernel
theorem dX7_turn_35 : decode cX7_turn 35 = .ok (.iload 4, 2) := by decide +kernel
theorem dX7_turn_37 : decode cX7_turn 37 = .ok (.invokestatic 29, 3) := by decide +kernel
theorem dX7_turn_40 : decode cX7_turn 40 = .ok (.istore 5, 2) := by decide +kernel
theorem dX7_turn_42 : decode cX7_turn 42 = .ok (.aload_n 3, 1) := by decide +kernel
theorem dX7_turn_43 : decode cX7_turn 43 = .ok (.getfield 15, 3) := by decide +kernel
theorem dX7_turn_46 : decode cX7_turn 46 = .ok (.iload 4, 2) := by decide +kernel
theorem dX7_turn_48 : decode cX7_turn 48 = .ok (.invokestatic 29, 3) := by decide +kernel
theorem dX7_turn_51 : decode cX7_turn 51 = .ok (.iconst 1, 1) := by decide +kernel
theorem dX7_turn_52 : decode cX7_turn 52 = .ok (.isub, 1) := by decide +kernel
theorem dX7_turn_53 : decode cX7_turn 53 = .ok (.iload 5, 2) := by decide +kernel
theorem dX7_turn_55 : decode cX7_turn 55 = .ok (.isub, 1) := by decide +kernel
theorem dX7_turn_56 : decode cX7_turn 56 = .ok (.istore 6, 2) := by decide +kernel
theorem dX7_turn_58 : decode cX7_turn 58 = .ok (.aload_n 3, 1) := by decide +kernel
theorem dX7_turn_59 : decode cX7_turn 59 = .ok (.getfield 61, 3) := by decide +kernel
theorem dX7_turn_62 : decode cX7_turn 62 = .ok (.iload 4, 2) := by decide +kernel
theorem dX7_turn_64 : decode cX7_turn 64 = .ok (.invokestatic 29, 3) := by decide +kernel
theorem dX7_turn_67 : decode cX7_turn 67 = .ok (.istore 7, 2) := by decide +kernel
theorem dX7_turn_69 : decode cX7_turn 69 = .ok (.aload_n 2, 1) := by decide +kernel
theorem dX7_turn_70 : decode cX7_turn 70 = .ok (.iload 7, 2) := by decide +kernel
theorem dX7_turn_72 : decode cX7_turn 72 = .ok (.iload 6, 2) := by decide +kernel
theorem dX7_turn_74 : decode cX7_turn 74 = .ok (.invokestatic 25, 3) := by decide +kernel
theorem dX7_turn_77 : decode cX7_turn 77 = .ok (.iload 5, 2) := by decide +kernel
theorem dX7_turn_79 : decode cX7_turn 79 = .ok (.ifCond .le 21, 3) := by decide +kernel
theorem dX7_turn_82 : decode cX7_turn 82 = .ok (.aload_n 3, 1) := by decide +kernel
theorem dX7_turn_83 : decode cX7_turn 83 = .ok (.getfield 61, 3) := by decide +kernel
theorem dX7_turn_86 : decode cX7_turn 86 = .ok (.iload 4, 2) := by decide +kernel
theorem dX7_turn_88 : decode cX7_turn 88 = .ok (.iconst 1, 1) := by decide +kernel
theorem dX7_turn_89 : decode cX7_turn 89 = .ok (.iadd, 1) := by decide +kernel
theorem dX7_turn_90 : decode cX7_turn 90 = .ok (.iload 7, 2) := by decide +kernel
theorem dX7_turn_92 : decode cX7_turn 92 = .ok (.iconst 1, 1) := by decide +kernel
theorem dX7_turn_93 : decode cX7_turn 93 = .ok (.iadd, 1) := by decide +kernel
theorem dX7_turn_94 : decode cX7_turn 94 = .ok (.iload 6, 2) := by decide +kernel
theorem dX7_turn_96 : decode cX7_turn 96 = .ok (.iadd, 1) := by decide +kernel
theorem dX7_turn_97 : decode cX7_turn 97 = .ok (.invokestatic 25, 3) := by decide +kernel
theorem dX7_turn_100 : decode cX7_turn 100 = .ok (.iload 6, 2) := by decide +kernel
theorem dX7_turn_102 : decode cX7_turn 102 = .ok (.ifCond .le 21, 3) := by decide +kernel
theorem dX7_turn_105 : decode cX7_turn 105 = .ok (.aload_n 3, 1) := by decide +kernel
theorem dX7_turn_106 : decode cX7_turn 106 = .ok (.getfield 61, 3) := by decide +kernel
theorem dX7_turn_109 : decode cX7_turn 109 = .ok (.iload 4, 2) := by decide +kernel
theorem dX7_turn_111 : decode cX7_turn 111 = .ok (.iconst 1, 1) := by decide +kernel
theorem dX7_turn_112 : decode cX7_turn 112 = .ok (.iadd, 1) := by decide +kernel
theorem dX7_turn_113 : decode cX7_turn 113 = .ok (.iload 5, 2) := by decide +kernel
theorem dX7_turn_115 : decode cX7_turn 115 = .ok (.iadd, 1) := by decide +kernel
theorem dX7_turn_116 : decode cX7_turn 116 = .ok (.iload 7, 2) := by decide +kernel
theorem dX7_turn_118 : decode cX7_turn 118 = .ok (.iconst 1, 1) := by decide +kernel
theorem dX7_turn_119 : decode cX7_turn 119 = .ok (.iadd, 1) := by decide +kernel
theorem dX7_turn_120 : decode cX7_turn 120 = .ok (.invokestatic 25, 3) := by decide +kernel
theorem dX7_turn_123 : decode cX7_turn 123 = .ok (.iinc 4 1, 3) := by decide +kernel
theorem dX7_turn_126 : decode cX7_turn 126 = .ok (.goto (-101), 3) := by decide +kernel
theorem dX7_turn_129 : decode cX7_turn 129 = .ok (.return_, 1) := by decide +kernel
theorem dX7_spell_0 : decode cX7_spell 0 = .ok (.aload_n 0, 1) := by decide +kernel
theorem dX7_spell_1 : decode cX7_spell 1 = .ok (.iload_n 1, 1) := by decide +kernel
theorem dX7_spell_2 : decode cX7_spell 2 = .ok (.aload_n 3, 1) := by decide +kernel
theorem dX7_spell_3 : decode cX7_spell 3 = .ok (.getfield 15, 3) := by decide +kernel
theorem dX7_spell_6 : decode cX7_spell 6 = .ok (.invokestatic 21, 3) := by decide +kernel
theorem dX7_spell_9 : decode cX7_spell 9 = .ok (.pop, 1) := by decide +kernel
theorem dX7_spell_10 : decode cX7_spell 10 = .ok (.aload_n 3, 1) := by decide +kernel
theorem dX7_spell_11 : decode cX7_spell 11 = .ok (.getfield 61, 3) := by decide +kernel
theorem dX7_spell_14 : decode cX7_spell 14 = .ok (.iconst 0, 1) := by decide +kernel
theorem dX7_spell_15 : decode cX7_spell 15 = .ok (.iconst 0, 1) := by decide +kernel
theorem dX7_spell_16 : decode cX7_spell 16 = .ok (.invokestatic 25, 3) := by decide +kernel
theorem dX7_spell_19 : decode cX7_spell 19 = .ok (.iconst 0, 1) := by decide +kernel
theorem dX7_spell_20 : decode cX7_spell 20 = .ok (.istore 4, 2) := by decide +kernel
theorem dX7_spell_22 : decode cX7_spell 22 = .ok (.iload 4, 2) := by decide +kernel
theorem dX7_spell_24 : decode cX7_spell 24 = .ok (.iload_n 1, 1) := by decide +kernel
theorem dX7_spell_25 : decode cX7_spell 25 = .ok (.if_icmp .ge 112, 3) := by decide +kernel
theorem dX7_spell_28 : decode cX7_spell 28 = .ok (.aload_n 0, 1) := by decide +kernel
theorem dX7_spell_29 : decode cX7_spell 29 = .ok (.iload 4, 2) := by decide +kernel
theorem dX7_spell_31 : decode cX7_spell 31 = .ok (.invokestatic 29, 3) := by decide +kernel
theorem dX7_spell_34 : decode cX7_spell 34 = .ok (.istore 5, 2) := by decide +kernel
theorem dX7_spell_36 : decode cX7_spell 36 = .ok (.aload_n 3, 1) := by decide +kernel
theorem dX7_spell_37 : decode cX7_spell 37 = .ok (.getfield 15, 3) := by decide +kernel
theorem dX7_spell_40 : decode cX7_spell 40 = .ok (.iload 4, 2) := by decide +kernel
theorem dX7_spell_42 : decode cX7_spell 42 = .ok (.invokestatic 29, 3) := by decide +kernel
theorem dX7_spell_45 : decode cX7_spell 45 = .ok (.iconst 1, 1) := by decide +kernel
theorem dX7_spell_46 : decode cX7_spell 46 = .ok (.isub, 1) := by decide +kernel
theorem dX7_spell_47 : decode cX7_spell 47 = .ok (.iload 5, 2) := by decide +kernel
theorem dX7_spell_49 : decode cX7_spell 49 = .ok (.isub, 1) := by decide +kernel
theorem dX7_spell_50 : decode cX7_spell 50 = .ok (.istore 6, 2) := by decide +kernel
theorem dX7_spell_52 : decode cX7_spell 52 = .ok (.aload_n 3, 1) := by decide +kernel
theorem dX7_spell_53 : decode cX7_spell 53 = .ok (.getfield 61, 3) := by decide +kernel
theorem dX7_spell_56 : decode cX7_spell 56 = .ok (.iload 4, 2) := by decide +kernel
theorem dX7_spell_58 : decode cX7_spell 58 = .ok (.invokestatic 29, 3) := by decide +kernel
theorem dX7_spell_61 : decode cX7_spell 61 = .ok (.istore 7, 2) := by decide +kernel
theorem dX7_spell_63 : decode cX7_spell 63 = .ok (.iload 7, 2) := by decide +kernel
theorem dX7_spell_65 : decode cX7_spell 65 = .ok (.iconst 1, 1) := by decide +kernel
theorem dX7_spell_66 : decode cX7_spell 66 = .ok (.iadd, 1) := by decide +kernel
theorem dX7_spell_67 : decode cX7_spell 67 = .ok (.iconst 2, 1) := by decide +kernel
theorem dX7_spell_68 : decode cX7_spell 68 = .ok (.iload 5, 2) := by decide +kernel
theorem dX7_spell_70 : decode cX7_spell 70 = .ok (.imul, 1) := by decide +kernel
theorem dX7_spell_71 : decode cX7_spell 71 = .ok (.iadd, 1) := by decide +kernel
theorem dX7_spell_72 : decode cX7_spell 72 = .ok (.istore 8, 2) := by decide +kernel
theorem dX7_spell_74 : decode cX7_spell 74 = .ok (.aload_n 2, 1) := by decide +kernel
theorem dX7_spell_75 : decode cX7_spell 75 = .ok (.iload 7, 2) := by decide +kernel
theorem dX7_spell_77 : decode cX7_spell 77 = .ok (.iconst 0, 1) := by decide +kernel
theorem dX7_spell_78 : decode cX7_spell 78 = .ok (.invokestatic 25, 3) := by decide +kernel
theorem dX7_spell_81 : decode cX7_spell 81 = .ok (.aload_n 2, 1) := by decide +kernel
theorem dX7_spell_82 : decode cX7_spell 82 = .ok (.iload 8, 2) := by decide +kernel
theorem dX7_spell_84 : decode cX7_spell 84 = .ok (.iconst 1, 1) := by decide +kernel
theorem dX7_spell_85 : decode cX7_spell 85 = .ok (.invokestatic 25, 3) := by decide +kernel
theorem dX7_spell_88 : decode cX7_spell 88 = .ok (.iload 5, 2) := by decide +kernel
theorem dX7_spell_90 : decode cX7_spell 90 = .ok (.ifCond .le 18, 3) := by decide +kernel
theorem dX7_spell_93 : decode cX7_spell 93 = .ok (.aload_n 3, 1) := by decide +kernel
theorem dX7_spell_94 : decode cX7_spell 94 = .ok (.getfield 61, 3) := by decide +kernel
theorem dX7_spell_97 : decode cX7_spell 97 = .ok (.iload 4, 2) := by decide +kernel
theorem dX7_spell_99 : decode cX7_spell 99 = .ok (.iconst 1, 1) := by decide +kernel
theorem dX7_spell_100 : decode cX7_spell 100 = .ok (.iadd, 1) := by decide +kernel
theorem dX7_spell_101 : decode cX7_spell 101 = .ok (.iload 7, 2) := by decide +kernel
theorem dX7_spell_103 : decode cX7_spell 103 = .ok (.iconst 1, 1) := by decide +kernel
theorem dX7_spell_104 : decode cX7_spell 104 = .ok (.iadd, 1) := by decide +kernel
theorem dX7_spell_105 : decode cX7_spell 105 = .ok (.invokestatic 25, 3) := by decide +kernel
theorem dX7_spell_108 : decode cX7_spell 108 = .ok (.iload 6, 2) := by decide +kernel
theorem dX7_spell_110 : decode cX7_spell 110 = .ok (.ifCond .le 21, 3) := by decide +kernel
theorem dX7_spell_113 : decode cX7_spell 113 = .ok (.aload_n 3, 1) := by decide +kernel
theorem dX7_spell_114 : decode cX7_spell 114 = .ok (.getfield 61, 3) := by decide +kernel
theorem dX7_spell_117 : decode cX7_spell 117 = .ok (.iload 4, 2) := by decide +kernel
theorem dX7_spell_119 : decode cX7_spell 119 = .ok (.iconst 1, 1) := by decide +kernel
theorem dX7_spell_120 : decode cX7_spell 120 = .ok (.iadd, 1) := by decide +kernel
theorem dX7_spell_121 : decode cX7_spell 121 = .ok (.iload 5, 2) := by decide +kernel
theorem dX7_spell_123 : decode cX7_spell 123 = .ok (.iadd, 1) := by decide +kernel
theorem dX7_spell_124 : decode cX7_spell 124 = .ok (.iload 8, 2) := by decide +kernel
theorem dX7_spell_126 : decode cX7_spell 126 = .ok (.iconst 1, 1) := by decide +kernel
theorem dX7_spell_127 : decode cX7_spell 127 = .ok (.iadd, 1) := by decide +kernel
theorem dX7_spell_128 : decode cX7_spell 128 = .ok (.invokestatic 25, 3) := by decide +kernel
theorem dX7_spell_131 : decode cX7_spell 131 = .ok (.iinc 4 1, 3) := by decide +kernel
theorem dX7_spell_134 : decode cX7_spell 134 = .ok (.goto (-112), 3) := by decide +kernel
theorem dX7_spell_137 : decode cX7_spell 137 = .ok (.return_, 1) := by decide +kernel
theorem dX8_init_0 : decode cX8_init 0 = .ok (.aload_n 0, 1) := by decide +kernel
theorem dX8_init_1 : decode cX8_init 1 = .ok (.iconst 2, 1) := by decide +kernel
theorem dX8_init_2 : decode cX8_init 2 = .ok (.iconst 2, 1) := by decide +kernel
theorem dX8_init_3 : decode cX8_init 3 = .ok (.iload_n 1, 1) := by decide +kernel
theorem dX8_init_4 : decode cX8_init 4 = .ok (.imul, 1) := by decide +kernel
theorem dX8_init_5 : decode cX8_init 5 = .ok (.lload_n 3, 1) := by decide +kernel
theorem dX8_init_6 : decode cX8_init 6 = .ok (.invokespecial 3, 3) := by decide +kernel
theorem dX8_init_9 : decode cX8_init 9 = .ok (.aload_n 0, 1) := by decide +kernel
theorem dX8_init_10 : decode cX8_init 10 = .ok (.iload_n 1, 1) := by decide +kernel
theorem dX8_init_11 : decode cX8_init 11 = .ok (.putfield 9, 3) := by decide +kernel
theorem dX8_init_14 : decode cX8_init 14 = .ok (.aload_n 0, 1) := by decide +kernel
theorem dX8_init_15 : decode cX8_init 15 = .ok (.iload_n 2, 1) := by decide +kernel
theorem dX8_init_16 : decode cX8_init 16 = .ok (.putfield 15, 3) := by decide +kernel
theorem dX8_init_19 : decode cX8_init 19 = .ok (.return_, 1) := by decide +kernel
theorem dX8_setting_0 : decode cX8_setting 0 = .ok (.iload_n 1, 1) := by decide +kernel
theorem dX8_setting_1 : decode cX8_setting 1 = .ok (.lookupswitch 37 #[(0, 27), (1, 32)], 27) := by decide +kernel
theorem dX8_setting_28 : decode cX8_setting 28 = .ok (.aload_n 0, 1) := by decide +kernel
theorem dX8_setting_29 : decode cX8_setting 29 = .ok (.getfield 9, 3) := by decide +kernel
theorem dX8_setting_32 : decode cX8_setting 32 = .ok (.ireturn, 1) := by decide +kernel
theorem dX8_setting_33 : decode cX8_setting 33 = .ok (.aload_n 0, 1) := by decide +kernel
theorem dX8_setting_34 : decode cX8_setting 34 = .ok (.getfield 15, 3) := by decide +kernel
theorem dX8_setting_37 : decode cX8_setting 37 = .ok (.ireturn, 1) := by decide +kernel
theorem dX8_setting_38 : decode cX8_setting 38 = .ok (.iconst 0, 1) := by decide +kernel
theorem dX8_setting_39 : decode cX8_setting 39 = .ok (.ireturn, 1) := by decide +kernel
theorem dX8_isOpening_0 : decode cX8_isOpening 0 = .ok (.iload_n 0, 1) := by decide +kernel
theorem dX8_isOpening_1 : decode cX8_isOpening 1 = .ok (.iconst 1, 1) := by decide +kernel
theorem dX8_isOpening_2 : decode cX8_isOpening 2 = .ok (.iand, 1) := by decide +kernel
theorem dX8_isOpening_3 : decode cX8_isOpening 3 = .ok (.ifCond .ne 7, 3) := by decide +kernel
theorem dX8_isOpening_6 : decode cX8_isOpening 6 = .ok (.iconst 1, 1) := by decide +kernel
theorem dX8_isOpening_7 : decode cX8_isOpening 7 = .ok (.goto 4, 3) := by decide +kernel
theorem dX8_isOpening_10 : decode cX8_isOpening 10 = .ok (.iconst 0, 1) := by decide +kernel
theorem dX8_isOpening_11 : decode cX8_isOpening 11 = .ok (.ireturn, 1) := by decide +kernel
theorem dX8_openAfter_0 : decode cX8_openAfter 0 = .ok (.iload_n 2, 1) := by decide +kernel
theorem dX8_openAfter_1 : decode cX8_openAfter 1 = .ok (.invokestatic 18, 3) := by decide +kernel
theorem dX8_openAfter_4 : decode cX8_openAfter 4 = .ok (.ifCond .eq 14, 3) := by decide +kernel
theorem dX8_openAfter_7 : decode cX8_openAfter 7 = .ok (.lload_n 0, 1) := by decide +kernel
theorem dX8_openAfter_8 : decode cX8_openAfter 8 = .ok (.iconst 1, 1) := by decide +kernel
theorem dX8_openAfter_9 : decode cX8_openAfter 9 = .ok (.lshl, 1) := by decide +kernel
theorem dX8_openAfter_10 : decode cX8_openAfter 10 = .ok (.iload_n 2, 1) := by decide +kernel
theorem dX8_openAfter_11 : decode cX8_openAfter 11 = .ok (.iconst 1, 1) := by decide +kernel
theorem dX8_openAfter_12 : decode cX8_openAfter 12 = .ok (.ishr, 1) := by decide +kernel
theorem dX8_openAfter_13 : decode cX8_openAfter 13 = .ok (.i2l, 1) := by decide +kernel
theorem dX8_openAfter_14 : decode cX8_openAfter 14 = .ok (.lor, 1) := by decide +kernel
theorem dX8_openAfter_15 : decode cX8_openAfter 15 = .ok (.goto 6, 3) := by decide +kernel
theorem dX8_openAfter_18 : decode cX8_openAfter 18 = .ok (.lload_n 0, 1) := by decide +kernel
theorem dX8_openAfter_19 : decode cX8_openAfter 19 = .ok (.iconst 1, 1) := by decide +kernel
theorem dX8_openAfter_20 : decode cX8_openAfter 20 = .ok (.lushr, 1) := by decide +kernel
theorem dX8_openAfter_21 : decode cX8_openAfter 21 = .ok (.lreturn, 1) := by decide +kernel
theorem dX8_depthAfter_0 : decode cX8_depthAfter 0 = .ok (.iload_n 1, 1) := by decide +kernel
theorem dX8_depthAfter_1 : decode cX8_depthAfter 1 = .ok (.invokestatic 18, 3) := by decide +kernel
theorem dX8_depthAfter_4 : decode cX8_depthAfter 4 = .ok (.ifCond .eq 9, 3) := by decide +kernel
theorem dX8_depthAfter_7 : decode cX8_depthAfter 7 = .ok (.iload_n 0, 1) := by decide +kernel
theorem dX8_depthAfter_8 : decode cX8_depthAfter 8 = .ok (.iconst 1, 1) := by decide +kernel
theorem dX8_depthAfter_9 : decode cX8_depthAfter 9 = .ok (.iadd, 1) := by decide +kernel
theorem dX8_depthAfter_10 : decode cX8_depthAfter 10 = .ok (.goto 6, 3) := by decide +kernel
theorem dX8_depthAfter_13 : decode cX8_depthAfter 13 = .ok (.iload_n 0, 1) := by decide +kernel
theorem dX8_depthAfter_14 : decode cX8_depthAfter 14 = .ok (.iconst 1, 1) := by decide +kernel
theorem dX8_depthAfter_15 : decode cX8_depthAfter 15 = .ok (.isub, 1) := by decide +kernel
theorem dX8_depthAfter_16 : decode cX8_depthAfter 16 = .ok (.ireturn, 1) := by decide +kernel
theorem dX8_mayFollow_0 : decode cX8_mayFollow 0 = .ok (.iload_n 0, 1) := by decide +kernel
theorem dX8_mayFollow_1 : decode cX8_mayFollow 1 = .ok (.invokestatic 18, 3) := by decide +kernel
theorem dX8_mayFollow_4 : decode cX8_mayFollow 4 = .ok (.ifCond .ne 18, 3) := by decide +kernel
theorem dX8_mayFollow_7 : decode cX8_mayFollow 7 = .ok (.iload_n 1, 1) := by decide +kernel
theorem dX8_mayFollow_8 : decode cX8_mayFollow 8 = .ok (.ifCond .le 18, 3) := by decide +kernel
theorem dX8_mayFollow_11 : decode cX8_mayFollow 11 = .ok (.lload_n 2, 1) := by decide +kernel
theorem dX8_mayFollow_12 : decode cX8_mayFollow 12 = .ok (.lconst 1, 1) := by decide +kernel
theorem dX8_mayFollow_13 : decode cX8_mayFollow 13 = .ok (.land, 1) := by decide +kernel
theorem dX8_mayFollow_14 : decode cX8_mayFollow 14 = .ok (.iload_n 0, 1) := by decide +kernel
theorem dX8_mayFollow_15 : decode cX8_mayFollow 15 = .ok (.iconst 1, 1) := by decide +kernel
theorem dX8_mayFollow_16 : decode cX8_mayFollow 16 = .ok (.ishr, 1) := by decide +kernel
theorem dX8_mayFollow_17 : decode cX8_mayFollow 17 = .ok (.i2l, 1) := by decide +kernel
theorem dX8_mayFollow_18 : decode cX8_mayFollow 18 = .ok (.lcmp, 1) := by decide +kernel
theorem dX8_mayFollow_19 : decode cX8_mayFollow 19 = .ok (.ifCond .ne 7, 3) := by decide +kernel
theorem dX8_mayFollow_22 : decode cX8_mayFollow 22 = .ok (.iconst 1, 1) := by decide +kernel
theorem dX8_mayFollow_23 : decode cX8_mayFollow 23 = .ok (.goto 4, 3) := by decide +kernel
theorem dX8_mayFollow_26 : decode cX8_mayFollow 26 = .ok (.iconst 0, 1) := by decide +kernel
theorem dX8_mayFollow_27 : decode cX8_mayFollow 27 = .ok (.ireturn, 1) := by decide +kernel
theorem dX8_waysAfter_0 : decode cX8_waysAfter 0 = .ok (.iload_n 1, 1) := by decide +kernel
theorem dX8_waysAfter_1 : decode cX8_waysAfter 1 = .ok (.iload_n 3, 1) := by decide +kernel
theorem dX8_waysAfter_2 : decode cX8_waysAfter 2 = .ok (.lload 4, 2) := by decide +kernel
theorem dX8_waysAfter_4 : decode cX8_waysAfter 4 = .ok (.invokestatic 22, 3) := by decide +kernel
theorem dX8_waysAfter_7 : decode cX8_waysAfter 7 = .ok (.ifCond .eq 28, 3) := by decide +kernel
theorem dX8_waysAfter_10 : decode cX8_waysAfter 10 = .ok (.aload 6, 2) := by decide +kernel
theorem dX8_waysAfter_12 : decode cX8_waysAfter 12 = .ok (.aload_n 0, 1) := by decide +kernel
theorem dX8_waysAfter_13 : decode cX8_waysAfter 13 = .ok (.getfield 26, 3) := by decide +kernel
theorem dX8_waysAfter_16 : decode cX8_waysAfter 16 = .ok (.iconst 1, 1) := by decide +kernel
theorem dX8_waysAfter_17 : decode cX8_waysAfter 17 = .ok (.isub, 1) := by decide +kernel
theorem dX8_waysAfter_18 : decode cX8_waysAfter 18 = .ok (.iload_n 2, 1) := by decide +kernel
theorem dX8_waysAfter_19 : decode cX8_waysAfter 19 = .ok (.isub, 1) := by decide +kernel
theorem dX8_waysAfter_20 : decode cX8_waysAfter 20 = .ok (.iload_n 3, 1) := by decide +kernel
theorem dX8_waysAfter_21 : decode cX8_waysAfter 21 = .ok (.iload_n 1, 1) := by decide +kernel
theorem dX8_waysAfter_22 : decode cX8_waysAfter 22 = .ok (.invokestatic 29, 3) := by decide +kernel
theorem dX8_waysAfter_25 : decode cX8_waysAfter 25 = .ok (.aload_n 0, 1) := by decide +kernel
theorem dX8_waysAfter_26 : decode cX8_waysAfter 26 = .ok (.getfield 15, 3) := by decide +kernel
theorem dX8_waysAfter_29 : decode cX8_waysAfter 29 = .ok (.invokevirtual 33, 3) := by decide +kernel
theorem dX8_waysAfter_32 : decode cX8_waysAfter 32 = .ok (.goto 4, 3) := by decide +kernel
theorem dX8_waysAfter_35 : decode cX8_waysAfter 35 = .ok (.lconst 0, 1) := by decide +kernel
theorem dX8_waysAfter_36 : decode cX8_waysAfter 36 = .ok (.lreturn, 1) := by decide +kernel
theorem dX8_accepts_0 : decode cX8_accepts 0 = .ok (.iconst 0, 1) := by decide +kernel
theorem dX8_accepts_1 : decode cX8_accepts 1 = .ok (.istore_n 3, 1) := by decide +kernel
theorem dX8_accepts_2 : decode cX8_accepts 2 = .ok (.lconst 0, 1) := by decide +kernel
theorem dX8_accepts_3 : decode cX8_accepts 3 = .ok (.lstore 4, 2) := by decide +kernel
theorem dX8_accepts_5 : decode cX8_accepts 5 = .ok (.iconst 0, 1) := by decide +kernel
theorem dX8_accepts_6 : decode cX8_accepts 6 = .ok (.istore 6, 2) := by decide +kernel
theorem dX8_accepts_8 : decode cX8_accepts 8 = .ok (.iload 6, 2) := by decide +kernel
theorem dX8_accepts_10 : decode cX8_accepts 10 = .ok (.aload_n 0, 1) := by decide +kernel
theorem dX8_accepts_11 : decode cX8_accepts 11 = .ok (.getfield 26, 3) := by decide +kernel
theorem dX8_accepts_14 : decode cX8_accepts 14 = .ok (.if_icmp .ge 62, 3) := by decide +kernel
theorem dX8_accepts_17 : decode cX8_accepts 17 = .ok (.aload_n 1, 1) := by decide +kernel
theorem dX8_accepts_18 : decode cX8_accepts 18 = .ok (.iload 6, 2) := by decide +kernel
theorem dX8_accepts_20 : decode cX8_accepts 20 = .ok (.invokestatic 39, 3) := by decide +kernel
theorem dX8_accepts_23 : decode cX8_accepts 23 = .ok (.istore 7, 2) := by decide +kernel
theorem dX8_accepts_25 : decode cX8_accepts 25 = .ok (.iload 7, 2) := by decide +kernel
theorem dX8_accepts_27 : decode cX8_accepts 27 = .ok (.ifCond .lt 25, 3) := by decide +kernel
theorem dX8_accepts_30 : decode cX8_accepts 30 = .ok (.iload 7, 2) := by decide +kernel
theorem dX8_accepts_32 : decode cX8_accepts 32 = .ok (.iconst 2, 1) := by decide +kernel
theorem dX8_accepts_33 : decode cX8_accepts 33 = .ok (.aload_n 0, 1) := by decide +kernel
theorem dX8_accepts_34 : decode cX8_accepts 34 = .ok (.getfield 15, 3) := by decide +kernel
theorem dX8_accepts_37 : decode cX8_accepts 37 = .ok (.imul, 1) := by decide +kernel
theorem dX8_accepts_38 : decode cX8_accepts 38 = .ok (.if_icmp .ge 14, 3) := by decide +kernel
theorem dX8_accepts_41 : decode cX8_accepts 41 = .ok (.iload 7, 2) := by decide +kernel
theorem dX8_accepts_43 : decode cX8_accepts 43 = .ok (.iload_n 3, 1) := by decide +kernel
theorem dX8_accepts_44 : decode cX8_accepts 44 = .ok (.lload 4, 2) := by decide +kernel
theorem dX8_accepts_46 : decode cX8_accepts 46 = .ok (.invokestatic 22, 3) := by decide +kernel
theorem dX8_accepts_49 : decode cX8_accepts 49 = .ok (.ifCond .ne 5, 3) := by decide +kernel
theorem dX8_accepts_52 : decode cX8_accepts 52 = .ok (.iconst 0, 1) := by decide +kernel
theorem dX8_accepts_53 : decode cX8_accepts 53 = .ok (.ireturn, 1) := by decide +kernel
theorem dX8_accepts_54 : decode cX8_accepts 54 = .ok (.iload_n 3, 1) := by decide +kernel
theorem dX8_accepts_55 : decode cX8_accepts 55 = .ok (.iload 7, 2) := by decide +kernel
theorem dX8_accepts_57 : decode cX8_accepts 57 = .ok (.invokestatic 29, 3) := by decide +kernel
theorem dX8_accepts_60 : decode cX8_accepts 60 = .ok (.istore_n 3, 1) := by decide +kernel
theorem dX8_accepts_61 : decode cX8_accepts 61 = .ok (.lload 4, 2) := by decide +kernel
theorem dX8_accepts_63 : decode cX8_accepts 63 = .ok (.iload 7, 2) := by decide +kernel
theorem dX8_accepts_65 : decode cX8_accepts 65 = .ok (.invokestatic 43, 3) := by decide +kernel
theorem dX8_accepts_68 : decode cX8_accepts 68 = .ok (.lstore 4, 2) := by decide +kernel
theorem dX8_accepts_70 : decode cX8_accepts 70 = .ok (.iinc 6 1, 3) := by decide +kernel
theorem dX8_accepts_73 : decode cX8_accepts 73 = .ok (.goto (-65), 3) := by decide +kernel
theorem dX8_accepts_76 : decode cX8_accepts 76 = .ok (.iload_n 3, 1) := by decide +kernel
theorem dX8_accepts_77 : decode cX8_accepts 77 = .ok (.ifCond .ne 7, 3) := by decide +kernel
theorem dX8_accepts_80 : decode cX8_accepts 80 = .ok (.iconst 1, 1) := by decide +kernel
theorem dX8_accepts_81 : decode cX8_accepts 81 = .ok (.goto 4, 3) := by decide +kernel
theorem dX8_accepts_84 : decode cX8_accepts 84 = .ok (.iconst 0, 1) := by decide +kernel
theorem dX8_accepts_85 : decode cX8_accepts 85 = .ok (.ireturn, 1) := by decide +kernel
theorem dX8_placeOf_0 : decode cX8_placeOf 0 = .ok (.lconst 0, 1) := by decide +kernel
theorem dX8_placeOf_1 : decode cX8_placeOf 1 = .ok (.lstore_n 3, 1) := by decide +kernel
theorem dX8_placeOf_2 : decode cX8_placeOf 2 = .ok (.iconst 0, 1) := by decide +kernel
theorem dX8_placeOf_3 : decode cX8_placeOf 3 = .ok (.istore 5, 2) := by decide +kernel
theorem dX8_placeOf_5 : decode cX8_placeOf 5 = .ok (.lconst 0, 1) := by decide +kernel
theorem dX8_placeOf_6 : decode cX8_placeOf 6 = .ok (.lstore 6, 2) := by decide +kernel
theorem dX8_placeOf_8 : decode cX8_placeOf 8 = .ok (.iconst 0, 1) := by decide +kernel
theorem dX8_placeOf_9 : decode cX8_placeOf 9 = .ok (.istore 8, 2) := by decide +kernel
theorem dX8_placeOf_11 : decode cX8_placeOf 11 = .ok (.iload 8, 2) := by decide +kernel
theorem dX8_placeOf_13 : decode cX8_placeOf 13 = .ok (.aload_n 0, 1) := by decide +kernel
theorem dX8_placeOf_14 : decode cX8_placeOf 14 = .ok (.getfield 26, 3) := by decide +kernel
theorem dX8_placeOf_17 : decode cX8_placeOf 17 = .ok (.if_icmp .ge 67, 3) := by decide +kernel
theorem dX8_placeOf_20 : decode cX8_placeOf 20 = .ok (.aload_n 1, 1) := by decide +kernel
theorem dX8_placeOf_21 : decode cX8_placeOf 21 = .ok (.iload 8, 2) := by decide +kernel
theorem dX8_placeOf_23 : decode cX8_placeOf 23 = .ok (.invokestatic 39, 3) := by decide +kernel
theorem dX8_placeOf_26 : decode cX8_placeOf 26 = .ok (.istore 9, 2) := by decide +kernel
theorem dX8_placeOf_28 : decode cX8_placeOf 28 = .ok (.iconst 0, 1) := by decide +kernel
theorem dX8_placeOf_29 : decode cX8_placeOf 29 = .ok (.istore 10, 2) := by decide +kernel
theorem dX8_placeOf_31 : decode cX8_placeOf 31 = .ok (.iload 10, 2) := by decide +kernel
theorem dX8_placeOf_33 : decode cX8_placeOf 33 = .ok (.iload 9, 2) := by decide +kernel
theorem dX8_placeOf_35 : decode cX8_placeOf 35 = .ok (.if_icmp .ge 25, 3) := by decide +kernel
theorem dX8_placeOf_38 : decode cX8_placeOf 38 = .ok (.lload_n 3, 1) := by decide +kernel
theorem dX8_placeOf_39 : decode cX8_placeOf 39 = .ok (.aload_n 0, 1) := by decide +kernel
theorem dX8_placeOf_40 : decode cX8_placeOf 40 = .ok (.iload 10, 2) := by decide +kernel
theorem dX8_placeOf_42 : decode cX8_placeOf 42 = .ok (.iload 8, 2) := by decide +kernel
theorem dX8_placeOf_44 : decode cX8_placeOf 44 = .ok (.iload 5, 2) := by decide +kernel
theorem dX8_placeOf_46 : decode cX8_placeOf 46 = .ok (.lload 6, 2) := by decide +kernel
theorem dX8_placeOf_48 : decode cX8_placeOf 48 = .ok (.aload_n 2, 1) := by decide +kernel
theorem dX8_placeOf_49 : decode cX8_placeOf 49 = .ok (.invokevirtual 47, 3) := by decide +kernel
theorem dX8_placeOf_52 : decode cX8_placeOf 52 = .ok (.ladd, 1) := by decide +kernel
theorem dX8_placeOf_53 : decode cX8_placeOf 53 = .ok (.lstore_n 3, 1) := by decide +kernel
theorem dX8_placeOf_54 : decode cX8_placeOf 54 = .ok (.iinc 10 1, 3) := by decide +kernel
theorem dX8_placeOf_57 : decode cX8_placeOf 57 = .ok (.goto (-26), 3) := by decide +kernel
theorem dX8_placeOf_60 : decode cX8_placeOf 60 = .ok (.iload 5, 2) := by decide +kernel
theorem dX8_placeOf_62 : decode cX8_placeOf 62 = .ok (.iload 9, 2) := by decide +kernel
theorem dX8_placeOf_64 : decode cX8_placeOf 64 = .ok (.invokestatic 29, 3) := by decide +kernel
theorem dX8_placeOf_67 : decode cX8_placeOf 67 = .ok (.istore 5, 2) := by decide +kernel
theorem dX8_placeOf_69 : decode cX8_placeOf 69 = .ok (.lload 6, 2) := by decide +kernel
theorem dX8_placeOf_71 : decode cX8_placeOf 71 = .ok (.iload 9, 2) := by decide +kernel
theorem dX8_placeOf_73 : decode cX8_placeOf 73 = .ok (.invokestatic 43, 3) := by decide +kernel
theorem dX8_placeOf_76 : decode cX8_placeOf 76 = .ok (.lstore 6, 2) := by decide +kernel
theorem dX8_placeOf_78 : decode cX8_placeOf 78 = .ok (.iinc 8 1, 3) := by decide +kernel
theorem dX8_placeOf_81 : decode cX8_placeOf 81 = .ok (.goto (-70), 3) := by decide +kernel
theorem dX8_placeOf_84 : decode cX8_placeOf 84 = .ok (.lload_n 3, 1) := by decide +kernel
theorem dX8_placeOf_85 : decode cX8_placeOf 85 = .ok (.lreturn, 1) := by decide +kernel
theorem dX8_lay_0 : decode cX8_lay 0 = .ok (.lload_n 1, 1) := by decide +kernel
theorem dX8_lay_1 : decode cX8_lay 1 = .ok (.lstore 5, 2) := by decide +kernel
theorem dX8_lay_3 : decode cX8_lay 3 = .ok (.iconst 0, 1) := by decide +kernel
theorem dX8_lay_4 : decode cX8_lay 4 = .ok (.istore 7, 2) := by decide +kernel
theorem dX8_lay_6 : decode cX8_lay 6 = .ok (.lconst 0, 1) := by decide +kernel
theorem dX8_lay_7 : decode cX8_lay 7 = .ok (.lstore 8, 2) := by decide +kernel
theorem dX8_lay_9 : decode cX8_lay 9 = .ok (.iconst 0, 1) := by decide +kernel
theorem dX8_lay_10 : decode cX8_lay 10 = .ok (.istore 10, 2) := by decide +kernel
theorem dX8_lay_12 : decode cX8_lay 12 = .ok (.iload 10, 2) := by decide +kernel
theorem dX8_lay_14 : decode cX8_lay 14 = .ok (.aload_n 0, 1) := by decide +kernel
theorem dX8_lay_15 : decode cX8_lay 15 = .ok (.getfield 26, 3) := by decide +kernel
theorem dX8_lay_18 : decode cX8_lay 18 = .ok (.if_icmp .ge 100, 3) := by decide +kernel
theorem dX8_lay_21 : decode cX8_lay 21 = .ok (.iconst 0, 1) := by decide +kernel
theorem dX8_lay_22 : decode cX8_lay 22 = .ok (.istore 11, 2) := by decide +kernel
theorem dX8_lay_24 : decode cX8_lay 24 = .ok (.iconst 0, 1) := by decide +kernel
theorem dX8_lay_25 : decode cX8_lay 25 = .ok (.istore 12, 2) := by decide +kernel
theorem dX8_lay_27 : decode cX8_lay 27 = .ok (.iload 12, 2) := by decide +kernel
theorem dX8_lay_29 : decode cX8_lay 29 = .ok (.iconst 2, 1) := by decide +kernel
theorem dX8_lay_30 : decode cX8_lay 30 = .ok (.aload_n 0, 1) := by decide +kernel
theorem dX8_lay_31 : decode cX8_lay 31 = .ok (.getfield 15, 3) := by decide +kernel
theorem dX8_lay_34 : decode cX8_lay 34 = .ok (.imul, 1) := by decide +kernel
theorem dX8_lay_35 : decode cX8_lay 35 = .ok (.iconst 1, 1) := by decide +kernel
theorem dX8_lay_36 : decode cX8_lay 36 = .ok (.isub, 1) := by decide +kernel
theorem dX8_lay_37 : decode cX8_lay 37 = .ok (.if_icmp .ge 49, 3) := by decide +kernel
theorem dX8_lay_40 : decode cX8_lay 40 = .ok (.aload_n 0, 1) := by decide +kernel
theorem dX8_lay_41 : decode cX8_lay 41 = .ok (.iload 12, 2) := by decide +kernel
theorem dX8_lay_43 : decode cX8_lay 43 = .ok (.iload 10, 2) := by decide +kernel
theorem dX8_lay_45 : decode cX8_lay 45 = .ok (.iload 7, 2) := by decide +kernel
theorem dX8_lay_47 : decode cX8_lay 47 = .ok (.lload 8, 2) := by decide +kernel
theorem dX8_lay_49 : decode cX8_lay 49 = .ok (.aload 4, 2) := by decide +kernel
theorem dX8_lay_51 : decode cX8_lay 51 = .ok (.invokevirtual 47, 3) := by decide +kernel
theorem dX8_lay_54 : decode cX8_lay 54 = .ok (.lstore 13, 2) := by decide +kernel
theorem dX8_lay_56 : decode cX8_lay 56 = .ok (.lload 5, 2) := by decide +kernel
theorem dX8_lay_58 : decode cX8_lay 58 = .ok (.lload 13, 2) := by decide +kernel
theorem dX8_lay_60 : decode cX8_lay 60 = .ok (.lcmp, 1) := by decide +kernel
theorem dX8_lay_61 : decode cX8_lay 61 = .ok (.ifCond .ge 6, 3) := by decide +kernel
theorem dX8_lay_64 : decode cX8_lay 64 = .ok (.goto 22, 3) := by decide +kernel
theorem dX8_lay_67 : decode cX8_lay 67 = .ok (.lload 5, 2) := by decide +kernel
theorem dX8_lay_69 : decode cX8_lay 69 = .ok (.lload 13, 2) := by decide +kernel
theorem dX8_lay_71 : decode cX8_lay 71 = .ok (.lsub, 1) := by decide +kernel
theorem dX8_lay_72 : decode cX8_lay 72 = .ok (.lstore 5, 2) := by decide +kernel
theorem dX8_lay_74 : decode cX8_lay 74 = .ok (.iload 12, 2) := by decide +kernel
theorem dX8_lay_76 : decode cX8_lay 76 = .ok (.iconst 1, 1) := by decide +kernel
theorem dX8_lay_77 : decode cX8_lay 77 = .ok (.iadd, 1) := by decide +kernel
theorem dX8_lay_78 : decode cX8_lay 78 = .ok (.istore 11, 2) := by decide +kernel
theorem dX8_lay_80 : decode cX8_lay 80 = .ok (.iinc 12 1, 3) := by decide +kernel
theorem dX8_lay_83 : decode cX8_lay 83 = .ok (.goto (-56), 3) := by decide +kernel
theorem dX8_lay_86 : decode cX8_lay 86 = .ok (.aload_n 3, 1) := by decide +kernel
theorem dX8_lay_87 : decode cX8_lay 87 = .ok (.iload 10, 2) := by decide +kernel
theorem dX8_lay_89 : decode cX8_lay 89 = .ok (.iload 11, 2) := by decide +kernel
theorem dX8_lay_91 : decode cX8_lay 91 = .ok (.invokestatic 51, 3) := by decide +kernel
theorem dX8_lay_94 : decode cX8_lay 94 = .ok (.iload 7, 2) := by decide +kernel
theorem dX8_lay_96 : decode cX8_lay 96 = .ok (.iload 11, 2) := by decide +kernel
theorem dX8_lay_98 : decode cX8_lay 98 = .ok (.invokestatic 29, 3) := by decide +kernel
theorem dX8_lay_101 : decode cX8_lay 101 = .ok (.istore 7, 2) := by decide +kernel
theorem dX8_lay_103 : decode cX8_lay 103 = .ok (.lload 8, 2) := by decide +kernel
theorem dX8_lay_105 : decode cX8_lay 105 = .ok (.iload 11, 2) := by decide +kernel
theorem dX8_lay_107 : decode cX8_lay 107 = .ok (.invokestatic 43, 3) := by decide +kernel
theorem dX8_lay_110 : decode cX8_lay 110 = .ok (.lstore 8, 2) := by decide +kernel
theorem dX8_lay_112 : decode cX8_lay 112 = .ok (.iinc 10 1, 3) := by decide +kernel
theorem dX8_lay_115 : decode cX8_lay 115 = .ok (.goto (-103), 3) := by decide +kernel
theorem dX8_lay_118 : decode cX8_lay 118 = .ok (.return_, 1) := by decide +kernel
theorem dX8_turn_0 : decode cX8_turn 0 = .ok (.iconst 0, 1) := by decide +kernel
theorem dX8_turn_1 : decode cX8_turn 1 = .ok (.istore 4, 2) := by decide +kernel
theorem dX8_turn_3 : decode cX8_turn 3 = .ok (.iload 4, 2) := by decide +kernel
theorem dX8_turn_5 : decode cX8_turn 5 = .ok (.aload_n 0, 1) := by decide +kernel
theorem dX8_turn_6 : decode cX8_turn 6 = .ok (.getfield 26, 3) := by decide +kernel
theorem dX8_turn_9 : decode cX8_turn 9 = .ok (.if_icmp .ge 30, 3) := by decide +kernel
theorem dX8_turn_12 : decode cX8_turn 12 = .ok (.aload_n 2, 1) := by decide +kernel
theorem dX8_turn_13 : decode cX8_turn 13 = .ok (.iload 4, 2) := by decide +kernel
theorem dX8_turn_15 : decode cX8_turn 15 = .ok (.aload_n 1, 1) := by decide +kernel
theorem dX8_turn_16 : decode cX8_turn 16 = .ok (.aload_n 0, 1) := by decide +kernel
theorem dX8_turn_17 : decode cX8_turn 17 = .ok (.getfield 26, 3) := by decide +kernel
theorem dX8_turn_20 : decode cX8_turn 20 = .ok (.iconst 1, 1) := by decide +kernel
theorem dX8_turn_21 : decode cX8_turn 21 = .ok (.isub, 1) := by decide +kernel
theorem dX8_turn_22 : decode cX8_turn 22 = .ok (.iload 4, 2) := by decide +kernel
theorem dX8_turn_24 : decode cX8_turn 24 = .ok (.isub, 1) := by decide +kernel
theorem dX8_turn_25 : decode cX8_turn 25 = .ok (.invokestatic 39, 3) := by decide +kernel
theorem dX8_turn_28 : decode cX8_turn 28 = .ok (.iconst 1, 1) := by decide +kernel
theorem dX8_turn_29 : decode cX8_turn 29 = .ok (.ixor, 1) := by decide +kernel
theorem dX8_turn_30 : decode cX8_turn 30 = .ok (.invokestatic 51, 3) := by decide +kernel
theorem dX8_turn_33 : decode cX8_turn 33 = .ok (.iinc 4 1, 3) := by decide +kernel
theorem dX8_turn_36 : decode cX8_turn 36 = .ok (.goto (-33), 3) := by decide +kernel
theorem dX8_turn_39 : decode cX8_turn 39 = .ok (.return_, 1) := by decide +kernel
theorem dX8_grow_0 : decode cX8_grow 0 = .ok (.iconst 0, 1) := by decide +kernel
theorem dX8_grow_1 : decode cX8_grow 1 = .ok (.istore 4, 2) := by decide +kernel
theorem dX8_grow_3 : decode cX8_grow 3 = .ok (.iconst 0, 1) := by decide +kernel
theorem dX8_grow_4 : decode cX8_grow 4 = .ok (.istore 5, 2) := by decide +kernel
theorem dX8_grow_6 : decode cX8_grow 6 = .ok (.iconst 0, 1) := by decide +kernel
theorem dX8_grow_7 : decode cX8_grow 7 = .ok (.istore 6, 2) := by decide +kernel
theorem dX8_grow_9 : decode cX8_grow 9 = .ok (.iload 6, 2) := by decide +kernel
theorem dX8_grow_11 : decode cX8_grow 11 = .ok (.iconst 2, 1) := by decide +kernel
theorem dX8_grow_12 : decode cX8_grow 12 = .ok (.iload_n 1, 1) := by decide +kernel
theorem dX8_grow_13 : decode cX8_grow 13 = .ok (.imul, 1) := by decide +kernel
theorem dX8_grow_14 : decode cX8_grow 14 = .ok (.if_icmp .ge 68, 3) := by decide +kernel
theorem dX8_grow_17 : decode cX8_grow 17 = .ok (.aload_n 0, 1) := by decide +kernel
theorem dX8_grow_18 : decode cX8_grow 18 = .ok (.iload 6, 2) := by decide +kernel
theorem dX8_grow_20 : decode cX8_grow 20 = .ok (.invokestatic 39, 3) := by decide +kernel
theorem dX8_grow_23 : decode cX8_grow 23 = .ok (.invokestatic 18, 3) := by decide +kernel
theorem dX8_grow_26 : decode cX8_grow 26 = .ok (.ifCond .eq 23, 3) := by decide +kernel
theorem dX8_grow_29 : decode cX8_grow 29 = .ok (.aload_n 3, 1) := by decide +kernel
theorem dX8_grow_30 : decode cX8_grow 30 = .ok (.getfield 55, 3) := by decide +kernel
theorem dX8_grow_33 : decode cX8_grow 33 = .ok (.iload 5, 2) := by decide +kernel
theorem dX8_grow_35 : decode cX8_grow 35 = .ok (.iload 4, 2) := by decide +kernel
theorem dX8_grow_37 : decode cX8_grow 37 = .ok (.invokestatic 51, 3) := by decide +kernel
theorem dX8_grow_40 : decode cX8_grow 40 = .ok (.iinc 5 1, 3) := by decide +kernel
theorem dX8_grow_43 : decode cX8_grow 43 = .ok (.iinc 4 1, 3) := by decide +kernel
theorem dX8_grow_46 : decode cX8_grow 46 = .ok (.goto 30, 3) := by decide +kernel
theorem dX8_grow_49 : decode cX8_grow 49 = .ok (.iinc 5 (-1), 3) := by decide +kernel
theorem dX8_grow_52 : decode cX8_grow 52 = .ok (.aload_n 3, 1) := by decide +kernel
theorem dX8_grow_53 : decode cX8_grow 53 = .ok (.getfield 55, 3) := by decide +kernel
theorem dX8_grow_56 : decode cX8_grow 56 = .ok (.iload 5, 2) := by decide +kernel
theorem dX8_grow_58 : decode cX8_grow 58 = .ok (.invokestatic 39, 3) := by decide +kernel
theorem dX8_grow_61 : decode cX8_grow 61 = .ok (.istore 7, 2) := by decide +kernel
theorem dX8_grow_63 : decode cX8_grow 63 = .ok (.aload_n 2, 1) := by decide +kernel
theorem dX8_grow_64 : decode cX8_grow 64 = .ok (.iload 7, 2) := by decide +kernel
theorem dX8_grow_66 : decode cX8_grow 66 = .ok (.iload 4, 2) := by decide +kernel
theorem dX8_grow_68 : decode cX8_grow 68 = .ok (.iconst 1, 1) := by decide +kernel
theorem dX8_grow_69 : decode cX8_grow 69 = .ok (.isub, 1) := by decide +kernel
theorem dX8_grow_70 : decode cX8_grow 70 = .ok (.iload 7, 2) := by decide +kernel
theorem dX8_grow_72 : decode cX8_grow 72 = .ok (.isub, 1) := by decide +kernel
theorem dX8_grow_73 : decode cX8_grow 73 = .ok (.invokestatic 51, 3) := by decide +kernel
theorem dX8_grow_76 : decode cX8_grow 76 = .ok (.iinc 6 1, 3) := by decide +kernel
theorem dX8_grow_79 : decode cX8_grow 79 = .ok (.goto (-70), 3) := by decide +kernel
theorem dX8_grow_82 : decode cX8_grow 82 = .ok (.return_, 1) := by decide +kernel
theorem dX9_init_0 : decode cX9_init 0 = .ok (.aload_n 0, 1) := by decide +kernel
theorem dX9_init_1 : decode cX9_init 1 = .ok (.invokespecial 1, 3) := by decide +kernel
theorem dX9_init_4 : decode cX9_init 4 = .ok (.aload_n 0, 1) := by decide +kernel
theorem dX9_init_5 : decode cX9_init 5 = .ok (.bipush 60, 2) := by decide +kernel
theorem dX9_init_7 : decode cX9_init 7 = .ok (.newarray .int, 2) := by decide +kernel
theorem dX9_init_9 : decode cX9_init 9 = .ok (.putfield 9, 3) := by decide +kernel
theorem dX9_init_12 : decode cX9_init 12 = .ok (.aload_n 0, 1) := by decide +kernel
theorem dX9_init_13 : decode cX9_init 13 = .ok (.bipush 60, 2) := by decide +kernel
theorem dX9_init_15 : decode cX9_init 15 = .ok (.newarray .int, 2) := by decide +kernel
theorem dX9_init_17 : decode cX9_init 17 = .ok (.putfield 13, 3) := by decide +kernel
theorem dX9_init_20 : decode cX9_init 20 = .ok (.aload_n 0, 1) := by decide +kernel
theorem dX9_init_21 : decode cX9_init 21 = .ok (.new 16, 3) := by decide +kernel
theorem dX9_init_24 : decode cX9_init 24 = .ok (.dup, 1) := by decide +kernel
theorem dX9_init_25 : decode cX9_init 25 = .ok (.invokespecial 18, 3) := by decide +kernel
theorem dX9_init_28 : decode cX9_init 28 = .ok (.putfield 19, 3) := by decide +kernel
theorem dX9_init_31 : decode cX9_init 31 = .ok (.aload_n 0, 1) := by decide +kernel
theorem dX9_init_32 : decode cX9_init 32 = .ok (.new 23, 3) := by decide +kernel
theorem dX9_init_35 : decode cX9_init 35 = .ok (.dup, 1) := by decide +kernel
theorem dX9_init_36 : decode cX9_init 36 = .ok (.invokespecial 25, 3) := by decide +kernel
theorem dX9_init_39 : decode cX9_init 39 = .ok (.putfield 26, 3) := by decide +kernel
theorem dX9_init_42 : decode cX9_init 42 = .ok (.aload_n 0, 1) := by decide +kernel
theorem dX9_init_43 : decode cX9_init 43 = .ok (.new 30, 3) := by decide +kernel
theorem dX9_init_46 : decode cX9_init 46 = .ok (.dup, 1) := by decide +kernel
theorem dX9_init_47 : decode cX9_init 47 = .ok (.iconst 0, 1) := by decide +kernel
theorem dX9_init_48 : decode cX9_init 48 = .ok (.iconst 0, 1) := by decide +kernel
theorem dX9_init_49 : decode cX9_init 49 = .ok (.iconst 0, 1) := by decide +kernel
theorem dX9_init_50 : decode cX9_init 50 = .ok (.lconst 1, 1) := by decide +kernel
theorem dX9_init_51 : decode cX9_init 51 = .ok (.invokespecial 32, 3) := by decide +kernel
theorem dX9_init_54 : decode cX9_init 54 = .ok (.putfield 35, 3) := by decide +kernel
theorem dX9_init_57 : decode cX9_init 57 = .ok (.return_, 1) := by decide +kernel
theorem dX9_selectSubsets_0 : decode cX9_selectSubsets 0 = .ok (.iload_n 1, 1) := by decide +kernel
theorem dX9_selectSubsets_1 : decode cX9_selectSubsets 1 = .ok (.ifCond .lt 27, 3) := by decide +kernel
theorem dX9_selectSubsets_4 : decode cX9_selectSubsets 4 = .ok (.iload_n 1, 1) := by decide +kernel
theorem dX9_selectSubsets_5 : decode cX9_selectSubsets 5 = .ok (.bipush 60, 2) := by decide +kernel
theorem dX9_selectSubsets_7 : decode cX9_selectSubsets 7 = .ok (.if_icmp .gt 21, 3) := by decide +kernel
theorem dX9_selectSubsets_10 : decode cX9_selectSubsets 10 = .ok (.iload_n 2, 1) := by decide +kernel
theorem dX9_selectSubsets_11 : decode cX9_selectSubsets 11 = .ok (.ifCond .lt 17, 3) := by decide +kernel
theorem dX9_selectSubsets_14 : decode cX9_selectSubsets 14 = .ok (.iload_n 2, 1) := by decide +kernel
theorem dX9_selectSubsets_15 : decode cX9_selectSubsets 15 = .ok (.iload_n 1, 1) := by decide +kernel
theorem dX9_selectSubsets_16 : decode cX9_selectSubsets 16 = .ok (.if_icmp .gt 12, 3) := by decide +kernel
theorem dX9_selectSubsets_19 : decode cX9_selectSubsets 19 = .ok (.iload_n 3, 1) := by decide +kernel
theorem dX9_selectSubsets_20 : decode cX9_selectSubsets 20 = .ok (.ifCond .lt 8, 3) := by decide +kernel
theorem dX9_selectSubsets_23 : decode cX9_selectSubsets 23 = .ok (.iload_n 3, 1) := by decide +kernel
theorem dX9_selectSubsets_24 : decode cX9_selectSubsets 24 = .ok (.iconst 2, 1) := by decide +kernel
theorem dX9_selectSubsets_25 : decode cX9_selectSubsets 25 = .ok (.if_icmp .le 5, 3) := by decide +kernel
theorem dX9_selectSubsets_28 : decode cX9_selectSubsets 28 = .ok (.iconst (-1), 1) := by decide +kernel
theorem dX9_selectSubsets_29 : decode cX9_selectSubsets 29 = .ok (.ireturn, 1) := by decide +kernel
theorem dX9_selectSubsets_30 : decode cX9_selectSubsets 30 = .ok (.aload_n 0, 1) := by decide +kernel
theorem dX9_selectSubsets_31 : decode cX9_selectSubsets 31 = .ok (.new 30, 3) := by decide +kernel
theorem dX9_selectSubsets_34 : decode cX9_selectSubsets 34 = .ok (.dup, 1) := by decide +kernel
theorem dX9_selectSubsets_35 : decode cX9_selectSubsets 35 = .ok (.iload_n 1, 1) := by decide +kernel
theorem dX9_selectSubsets_36 : decode cX9_selectSubsets 36 = .ok (.iload_n 2, 1) := by decide +kernel
theorem dX9_selectSubsets_37 : decode cX9_selectSubsets 37 = .ok (.iload_n 3, 1) := by decide +kernel
theorem dX9_selectSubsets_38 : decode cX9_selectSubsets 38 = .ok (.aload_n 0, 1) := by decide +kernel
theorem dX9_selectSubsets_39 : decode cX9_selectSubsets 39 = .ok (.getfield 19, 3) := by decide +kernel
theorem dX9_selectSubsets_42 : decode cX9_selectSubsets 42 = .ok (.iload_n 1, 1) := by decide +kernel
theorem dX9_selectSubsets_43 : decode cX9_selectSubsets 43 = .ok (.iload_n 2, 1) := by decide +kernel
theorem dX9_selectSubsets_44 : decode cX9_selectSubsets 44 = .ok (.invokevirtual 39, 3) := by decide +kernel
theorem dX9_selectSubsets_47 : decode cX9_selectSubsets 47 = .ok (.invokespecial 32, 3) := by decide +kernel
theorem dX9_selectSubsets_50 : decode cX9_selectSubsets 50 = .ok (.invokevirtual 43, 3) := by decide +kernel
theorem dX9_selectSubsets_53 : decode cX9_selectSubsets 53 = .ok (.ireturn, 1) := by decide +kernel
theorem dX9_selectPermutations_0 : decode cX9_selectPermutations 0 = .ok (.iload_n 1, 1) := by decide +kernel
theorem dX9_selectPermutations_1 : decode cX9_selectPermutations 1 = .ok (.iconst 1, 1) := by decide +kernel
theorem dX9_selectPermutations_2 : decode cX9_selectPermutations 2 = .ok (.if_icmp .lt 18, 3) := by decide +kernel
theorem dX9_selectPermutations_5 : decode cX9_selectPermutations 5 = .ok (.iload_n 1, 1) := by decide +kernel
theorem dX9_selectPermutations_6 : decode cX9_selectPermutations 6 = .ok (.bipush 20, 2) := by decide +kernel
theorem dX9_selectPermutations_8 : decode cX9_selectPermutations 8 = .ok (.if_icmp .gt 12, 3) := by decide +kernel
theorem dX9_selectPermutations_11 : decode cX9_selectPermutations 11 = .ok (.iload_n 2, 1) := by decide +kernel
theorem dX9_selectPermutations_12 : decode cX9_selectPermutations 12 = .ok (.ifCond .lt 8, 3) := by decide +kernel
theorem dX9_selectPermutations_15 : decode cX9_selectPermutations 15 = .ok (.iload_n 2, 1) := by decide +kernel
theorem dX9_selectPermutations_16 : decode cX9_selectPermutations 16 = .ok (.iconst 1, 1) := by decide +kernel
theorem dX9_selectPermutations_17 : decode cX9_selectPermutations 17 = .ok (.if_icmp .le 5, 3) := by decide +kernel
theorem dX9_selectPermutations_20 : decode cX9_selectPermutations 20 = .ok (.iconst (-1), 1) := by decide +kernel
theorem dX9_selectPermutations_21 : decode cX9_selectPermutations 21 = .ok (.ireturn, 1) := by decide +kernel
theorem dX9_selectPermutations_22 : decode cX9_selectPermutations 22 = .ok (.aload_n 0, 1) := by decide +kernel
theorem dX9_selectPermutations_23 : decode cX9_selectPermutations 23 = .ok (.new 47, 3) := by decide +kernel
theorem dX9_selectPermutations_26 : decode cX9_selectPermutations 26 = .ok (.dup, 1) := by decide +kernel
theorem dX9_selectPermutations_27 : decode cX9_selectPermutations 27 = .ok (.iload_n 1, 1) := by decide +kernel
theorem dX9_selectPermutations_28 : decode cX9_selectPermutations 28 = .ok (.iload_n 2, 1) := by decide +kernel
theorem dX9_selectPermutations_29 : decode cX9_selectPermutations 29 = .ok (.iload_n 1, 1) := by decide +kernel
theorem dX9_selectPermutations_30 : decode cX9_selectPermutations 30 = .ok (.invokestatic 49, 3) := by decide +kernel
theorem dX9_selectPermutations_33 : decode cX9_selectPermutations 33 = .ok (.invokespecial 53, 3) := by decide +kernel
theorem dX9_selectPermutations_36 : decode cX9_selectPermutations 36 = .ok (.invokevirtual 43, 3) := by decide +kernel
theorem dX9_selectPermutations_39 : decode cX9_selectPermutations 39 = .ok (.ireturn, 1) := by decide +kernel
theorem dX9_selectWords_0 : decode cX9_selectWords 0 = .ok (.iload_n 1, 1) := by decide +kernel
theorem dX9_selectWords_1 : decode cX9_selectWords 1 = .ok (.iconst 1, 1) := by decide +kernel
theorem dX9_selectWords_2 : decode cX9_selectWords 2 = .ok (.if_icmp .lt 19, 3) := by decide +kernel
theorem dX9_selectWords_5 : decode cX9_selectWords 5 = .ok (.iload_n 1, 1) := by decide +kernel
theorem dX9_selectWords_6 : decode cX9_selectWords 6 = .ok (.bipush 20, 2) := by decide +kernel
theorem dX9_selectWords_8 : decode cX9_selectWords 8 = .ok (.if_icmp .gt 13, 3) := by decide +kernel
theorem dX9_selectWords_11 : decode cX9_selectWords 11 = .ok (.iload_n 2, 1) := by decide +kernel
theorem dX9_selectWords_12 : decode cX9_selectWords 12 = .ok (.iconst 1, 1) := by decide +kernel
theorem dX9_selectWords_13 : decode cX9_selectWords 13 = .ok (.if_icmp .lt 8, 3) := by decide +kernel
theorem dX9_selectWords_16 : decode cX9_selectWords 16 = .ok (.iload_n 2, 1) := by decide +kernel
theorem dX9_selectWords_17 : decode cX9_selectWords 17 = .ok (.iconst 2, 1) := by decide +kernel
theorem dX9_selectWords_18 : decode cX9_selectWords 18 = .ok (.if_icmp .le 5, 3) := by decide +kernel
theorem dX9_selectWords_21 : decode cX9_selectWords 21 = .ok (.iconst (-1), 1) := by decide +kernel
theorem dX9_selectWords_22 : decode cX9_selectWords 22 = .ok (.ireturn, 1) := by decide +kernel
theorem dX9_selectWords_23 : decode cX9_selectWords 23 = .ok (.aload_n 0, 1) := by decide +kernel
theorem dX9_selectWords_24 : decode cX9_selectWords 24 = .ok (.aload_n 0, 1) := by decide +kernel
theorem dX9_selectWords_25 : decode cX9_selectWords 25 = .ok (.iload_n 1, 1) := by decide +kernel
theorem dX9_selectWords_26 : decode cX9_selectWords 26 = .ok (.iload_n 2, 1) := by decide +kernel
theorem dX9_selectWords_27 : decode cX9_selectWords 27 = .ok (.invokevirtual 56, 3) := by decide +kernel
theorem dX9_selectWords_30 : decode cX9_selectWords 30 = .ok (.invokevirtual 43, 3) := by decide +kernel
theorem dX9_selectWords_33 : decode cX9_selectWords 33 = .ok (.ireturn, 1) := by decide +kernel
theorem dX9_selectTrees_0 : decode cX9_selectTrees 0 = .ok (.iload_n 1, 1) := by decide +kernel
theorem dX9_selectTrees_1 : decode cX9_selectTrees 1 = .ok (.iconst 1, 1) := by decide +kernel
theorem dX9_selectTrees_2 : decode cX9_selectTrees 2 = .ok (.if_icmp .lt 9, 3) := by decide +kernel
theorem dX9_selectTrees_5 : decode cX9_selectTrees 5 = .ok (.iload_n 1, 1) := by decide +kernel
theorem dX9_selectTrees_6 : decode cX9_selectTrees 6 = .ok (.bipush 30, 2) := by decide +kernel
theorem dX9_selectTrees_8 : decode cX9_selectTrees 8 = .ok (.if_icmp .le 5, 3) := by decide +kernel
theorem dX9_selectTrees_11 : decode cX9_selectTrees 11 = .ok (.iconst (-1), 1) := by decide +kernel
theorem dX9_selectTrees_12 : decode cX9_selectTrees 12 = .ok (.ireturn, 1) := by decide +kernel
theorem dX9_selectTrees_13 : decode cX9_selectTrees 13 = .ok (.aload_n 0, 1) := by decide +kernel
theorem dX9_selectTrees_14 : decode cX9_selectTrees 14 = .ok (.aload_n 0, 1) := by decide +kernel
theorem dX9_selectTrees_15 : decode cX9_selectTrees 15 = .ok (.iload_n 1, 1) := by decide +kernel
theorem dX9_selectTrees_16 : decode cX9_selectTrees 16 = .ok (.invokevirtual 60, 3) := by decide +kernel
theorem dX9_selectTrees_19 : decode cX9_selectTrees 19 = .ok (.invokevirtual 43, 3) := by decide +kernel
theorem dX9_selectTrees_22 : decode cX9_selectTrees 22 = .ok (.ireturn, 1) := by decide +kernel
theorem dX9_selectPartitions_0 : decode cX9_selectPartitions 0 = .ok (.iload_n 1, 1) := by decide +kernel
theorem dX9_selectPartitions_1 : decode cX9_selectPartitions 1 = .ok (.iconst 1, 1) := by decide +kernel
theorem dX9_selectPartitions_2 : decode cX9_selectPartitions 2 = .ok (.if_icmp .lt 19, 3) := by decide +kernel
theorem dX9_selectPartitions_5 : decode cX9_selectPartitions 5 = .ok (.iload_n 1, 1) := by decide +kernel
theorem dX9_selectPartitions_6 : decode cX9_selectPartitions 6 = .ok (.bipush 60, 2) := by decide +kernel
theorem dX9_selectPartitions_8 : decode cX9_selectPartitions 8 = .ok (.if_icmp .gt 13, 3) := by decide +kernel
theorem dX9_selectPartitions_11 : decode cX9_selectPartitions 11 = .ok (.iload_n 2, 1) := by decide +kernel
theorem dX9_selectPartitions_12 : decode cX9_selectPartitions 12 = .ok (.iconst 1, 1) := by decide +kernel
theorem dX9_selectPartitions_13 : decode cX9_selectPartitions 13 = .ok (.if_icmp .lt 8, 3) := by decide +kernel
theorem dX9_selectPartitions_16 : decode cX9_selectPartitions 16 = .ok (.iload_n 2, 1) := by decide +kernel
theorem dX9_selectPartitions_17 : decode cX9_selectPartitions 17 = .ok (.iload_n 1, 1) := by decide +kernel
theorem dX9_selectPartitions_18 : decode cX9_selectPartitions 18 = .ok (.if_icmp .le 5, 3) := by decide +kernel
theorem dX9_selectPartitions_21 : decode cX9_selectPartitions 21 = .ok (.iconst (-1), 1) := by decide +kernel
theorem dX9_selectPartitions_22 : decode cX9_selectPartitions 22 = .ok (.ireturn, 1) := by decide +kernel
theorem dX9_selectPartitions_23 : decode cX9_selectPartitions 23 = .ok (.aload_n 0, 1) := by decide +kernel
theorem dX9_selectPartitions_24 : decode cX9_selectPartitions 24 = .ok (.new 64, 3) := by decide +kernel
theorem dX9_selectPartitions_27 : decode cX9_selectPartitions 27 = .ok (.dup, 1) := by decide +kernel
theorem dX9_selectPartitions_28 : decode cX9_selectPartitions 28 = .ok (.iload_n 1, 1) := by decide +kernel
theorem dX9_selectPartitions_29 : decode cX9_selectPartitions 29 = .ok (.iload_n 2, 1) := by decide +kernel
theorem dX9_selectPartitions_30 : decode cX9_selectPartitions 30 = .ok (.aload_n 0, 1) := by decide +kernel
theorem dX9_selectPartitions_31 : decode cX9_selectPartitions 31 = .ok (.getfield 19, 3) := by decide +kernel
theorem dX9_selectPartitions_34 : decode cX9_selectPartitions 34 = .ok (.iload_n 1, 1) := by decide +kernel
theorem dX9_selectPartitions_35 : decode cX9_selectPartitions 35 = .ok (.iload_n 2, 1) := by decide +kernel
theorem dX9_selectPartitions_36 : decode cX9_selectPartitions 36 = .ok (.invokevirtual 66, 3) := by decide +kernel
theorem dX9_selectPartitions_39 : decode cX9_selectPartitions 39 = .ok (.i2l, 1) := by decide +kernel
theorem dX9_selectPartitions_40 : decode cX9_selectPartitions 40 = .ok (.invokespecial 70, 3) := by decide +kernel
theorem dX9_selectPartitions_43 : decode cX9_selectPartitions 43 = .ok (.invokevirtual 43, 3) := by decide +kernel
theorem dX9_selectPartitions_46 : decode cX9_selectPartitions 46 = .ok (.ireturn, 1) := by decide +kernel
theorem dX9_selectArrangements_0 : decode cX9_selectArrangements 0 = .ok (.iload_n 1, 1) := by decide +kernel
theorem dX9_selectArrangements_1 : decode cX9_selectArrangements 1 = .ok (.invokestatic 71, 3) := by decide +kernel
theorem dX9_selectArrangements_4 : decode cX9_selectArrangements 4 = .ok (.ifCond .ne 25, 3) := by decide +kernel
theorem dX9_selectArrangements_7 : decode cX9_selectArrangements 7 = .ok (.iload_n 2, 1) := by decide +kernel
theorem dX9_selectArrangements_8 : decode cX9_selectArrangements 8 = .ok (.invokestatic 71, 3) := by decide +kernel
theorem dX9_selectArrangements_11 : decode cX9_selectArrangements 11 = .ok (.ifCond .ne 18, 3) := by decide +kernel
theorem dX9_selectArrangements_14 : decode cX9_selectArrangements 14 = .ok (.iload_n 3, 1) := by decide +kernel
theorem dX9_selectArrangements_15 : decode cX9_selectArrangements 15 = .ok (.invokestatic 71, 3) := by decide +kernel
theorem dX9_selectArrangements_18 : decode cX9_selectArrangements 18 = .ok (.ifCond .ne 11, 3) := by decide +kernel
theorem dX9_selectArrangements_21 : decode cX9_selectArrangements 21 = .ok (.iload 4, 2) := by decide +kernel
theorem dX9_selectArrangements_23 : decode cX9_selectArrangements 23 = .ok (.invokestatic 71, 3) := by decide +kernel
theorem dX9_selectArrangements_26 : decode cX9_selectArrangements 26 = .ok (.ifCond .eq 5, 3) := by decide +kernel
theorem dX9_selectArrangements_29 : decode cX9_selectArrangements 29 = .ok (.iconst (-1), 1) := by decide +kernel
theorem dX9_selectArrangements_30 : decode cX9_selectArrangements 30 = .ok (.ireturn, 1) := by decide +kernel
theorem dX9_selectArrangements_31 : decode cX9_selectArrangements 31 = .ok (.iload_n 1, 1) := by decide +kernel
theorem dX9_selectArrangements_32 : decode cX9_selectArrangements 32 = .ok (.iload_n 2, 1) := by decide +kernel
theorem dX9_selectArrangements_33 : decode cX9_selectArrangements 33 = .ok (.iadd, 1) := by decide +kernel
theorem dX9_selectArrangements_34 : decode cX9_selectArrangements 34 = .ok (.iload_n 3, 1) := by decide +kernel
theorem dX9_selectArrangements_35 : decode cX9_selectArrangements 35 = .ok (.iadd, 1) := by decide +kernel
theorem dX9_selectArrangements_36 : decode cX9_selectArrangements 36 = .ok (.iload 4, 2) := by decide +kernel
theorem dX9_selectArrangements_38 : decode cX9_selectArrangements 38 = .ok (.iadd, 1) := by decide +kernel
theorem dX9_selectArrangements_39 : decode cX9_selectArrangements 39 = .ok (.istore 5, 2) := by decide +kernel
theorem dX9_selectArrangements_41 : decode cX9_selectArrangements 41 = .ok (.iload 5, 2) := by decide +kernel
theorem dX9_selectArrangements_43 : decode cX9_selectArrangements 43 = .ok (.iconst 1, 1) := by decide +kernel
theorem dX9_selectArrangements_44 : decode cX9_selectArrangements 44 = .ok (.if_icmp .lt 10, 3) := by decide +kernel
theorem dX9_selectArrangements_47 : decode cX9_selectArrangements 47 = .ok (.iload 5, 2) := by decide +kernel
theorem dX9_selectArrangements_49 : decode cX9_selectArrangements 49 = .ok (.bipush 20, 2) := by decide +kernel
theorem dX9_selectArrangements_51 : decode cX9_selectArrangements 51 = .ok (.if_icmp .le 5, 3) := by decide +kernel
theorem dX9_selectArrangements_54 : decode cX9_selectArrangements 54 = .ok (.iconst (-1), 1) := by decide +kernel
theorem dX9_selectArrangements_55 : decode cX9_selectArrangements 55 = .ok (.ireturn, 1) := by decide +kernel
theorem dX9_selectArrangements_56 : decode cX9_selectArrangements 56 = .ok (.aload_n 0, 1) := by decide +kernel
theorem dX9_selectArrangements_57 : decode cX9_selectArrangements 57 = .ok (.getfield 19, 3) := by decide +kernel
theorem dX9_selectArrangements_60 : decode cX9_selectArrangements 60 = .ok (.iload_n 1, 1) := by decide +kernel
theorem dX9_selectArrangements_61 : decode cX9_selectArrangements 61 = .ok (.iload_n 2, 1) := by decide +kernel
theorem dX9_selectArrangements_62 : decode cX9_selectArrangements 62 = .ok (.iload_n 3, 1) := by decide +kernel
theorem dX9_selectArrangements_63 : decode cX9_selectArrangements 63 = .ok (.iload 4, 2) := by decide +kernel
theorem dX9_selectArrangements_65 : decode cX9_selectArrangements 65 = .ok (.invokevirtual 75, 3) := by decide +kernel
theorem dX9_selectArrangements_68 : decode cX9_selectArrangements 68 = .ok (.lstore 6, 2) := by decide +kernel
theorem dX9_selectArrangements_70 : decode cX9_selectArrangements 70 = .ok (.aload_n 0, 1) := by decide +kernel
theorem dX9_selectArrangements_71 : decode cX9_selectArrangements 71 = .ok (.new 79, 3) := by decide +kernel
theorem dX9_selectArrangements_74 : decode cX9_selectArrangements 74 = .ok (.dup, 1) := by decide +kernel
theorem dX9_selectArrangements_75 : decode cX9_selectArrangements 75 = .ok (.iload_n 1, 1) := by decide +kernel
theorem dX9_selectArrangements_76 : decode cX9_selectArrangements 76 = .ok (.iload_n 2, 1) := by decide +kernel
theorem dX9_selectArrangements_77 : decode cX9_selectArrangements 77 = .ok (.iload_n 3, 1) := by decide +kernel
theorem dX9_selectArrangements_78 : decode cX9_selectArrangements 78 = .ok (.iload 4, 2) := by decide +kernel
theorem dX9_selectArrangements_80 : decode cX9_selectArrangements 80 = .ok (.lload 6, 2) := by decide +kernel
theorem dX9_selectArrangements_82 : decode cX9_selectArrangements 82 = .ok (.invokespecial 81, 3) := by decide +kernel
theorem dX9_selectArrangements_85 : decode cX9_selectArrangements 85 = .ok (.invokevirtual 43, 3) := by decide +kernel
theorem dX9_selectArrangements_88 : decode cX9_selectArrangements 88 = .ok (.ireturn, 1) := by decide +kernel
theorem dX9_family_0 : decode cX9_family 0 = .ok (.aload_n 0, 1) := by decide +kernel
theorem dX9_family_1 : decode cX9_family 1 = .ok (.getfield 35, 3) := by decide +kernel
theorem dX9_family_4 : decode cX9_family 4 = .ok (.getfield 84, 3) := by decide +kernel
theorem dX9_family_7 : decode cX9_family 7 = .ok (.ireturn, 1) := by decide +kernel
theorem dX9_parameter_0 : decode cX9_parameter 0 = .ok (.iload_n 1, 1) := by decide +kernel
theorem dX9_parameter_1 : decode cX9_parameter 1 = .ok (.ifCond .lt 8, 3) := by decide +kernel
theorem dX9_parameter_4 : decode cX9_parameter 4 = .ok (.iload_n 1, 1) := by decide +kernel
theorem dX9_parameter_5 : decode cX9_parameter 5 = .ok (.iconst 4, 1) := by decide +kernel
theorem dX9_parameter_6 : decode cX9_parameter 6 = .ok (.if_icmp .lt 7, 3) := by decide +kernel
theorem dX9_parameter_9 : decode cX9_parameter 9 = .ok (.iconst (-1), 1) := by decide +kernel
theorem dX9_parameter_10 : decode cX9_parameter 10 = .ok (.goto 11, 3) := by decide +kernel
theorem dX9_parameter_13 : decode cX9_parameter 13 = .ok (.aload_n 0, 1) := by decide +kernel
theorem dX9_parameter_14 : decode cX9_parameter 14 = .ok (.getfield 35, 3) := by decide +kernel
theorem dX9_parameter_17 : decode cX9_parameter 17 = .ok (.iload_n 1, 1) := by decide +kernel
theorem dX9_parameter_18 : decode cX9_parameter 18 = .ok (.invokevirtual 90, 3) := by decide +kernel
theorem dX9_parameter_21 : decode cX9_parameter 21 = .ok (.ireturn, 1) := by decide +kernel
theorem dX9_length_0 : decode cX9_length 0 = .ok (.aload_n 0, 1) := by decide +kernel
theorem dX9_length_1 : decode cX9_length 1 = .ok (.getfield 35, 3) := by decide +kernel
theorem dX9_length_4 : decode cX9_length 4 = .ok (.getfield 94, 3) := by decide +kernel
theorem dX9_length_7 : decode cX9_length 7 = .ok (.ireturn, 1) := by decide +kernel
theorem dX9_count_0 : decode cX9_count 0 = .ok (.aload_n 0, 1) := by decide +kernel
theorem dX9_count_1 : decode cX9_count 1 = .ok (.getfield 35, 3) := by decide +kernel
theorem dX9_count_4 : decode cX9_count 4 = .ok (.getfield 97, 3) := by decide +kernel
theorem dX9_count_7 : decode cX9_count 7 = .ok (.lreturn, 1) := by decide +kernel
theorem dX9_put_0 : decode cX9_put 0 = .ok (.iload_n 1, 1) := by decide +kernel
theorem dX9_put_1 : decode cX9_put 1 = .ok (.ifCond .lt 23, 3) := by decide +kernel
theorem dX9_put_4 : decode cX9_put 4 = .ok (.iload_n 1, 1) := by decide +kernel
theorem dX9_put_5 : decode cX9_put 5 = .ok (.bipush 60, 2) := by decide +kernel
theorem dX9_put_7 : decode cX9_put 7 = .ok (.if_icmp .ge 17, 3) := by decide +kernel
theorem dX9_put_10 : decode cX9_put 10 = .ok (.iload_n 2, 1) := by decide +kernel
theorem dX9_put_11 : decode cX9_put 11 = .ok (.sipush (-1000), 3) := by decide +kernel
theorem dX9_put_14 : decode cX9_put 14 = .ok (.if_icmp .lt 10, 3) := by decide +kernel
theorem dX9_put_17 : decode cX9_put 17 = .ok (.iload_n 2, 1) := by decide +kernel
theorem dX9_put_18 : decode cX9_put 18 = .ok (.sipush 1000, 3) := by decide +kernel
theorem dX9_put_21 : decode cX9_put 21 = .ok (.if_icmp .le 7, 3) := by decide +kernel
theorem dX9_put_24 : decode cX9_put 24 = .ok (.sipush (-1001), 3) := by decide +kernel
theorem dX9_put_27 : decode cX9_put 27 = .ok (.ireturn, 1) := by decide +kernel
theorem dX9_put_28 : decode cX9_put 28 = .ok (.aload_n 0, 1) := by decide +kernel
theorem dX9_put_29 : decode cX9_put 29 = .ok (.getfield 9, 3) := by decide +kernel
theorem dX9_put_32 : decode cX9_put 32 = .ok (.iload_n 1, 1) := by decide +kernel
theorem dX9_put_33 : decode cX9_put 33 = .ok (.invokestatic 101, 3) := by decide +kernel
theorem dX9_put_36 : decode cX9_put 36 = .ok (.istore_n 3, 1) := by decide +kernel
theorem dX9_put_37 : decode cX9_put 37 = .ok (.aload_n 0, 1) := by decide +kernel
theorem dX9_put_38 : decode cX9_put 38 = .ok (.getfield 9, 3) := by decide +kernel
theorem dX9_put_41 : decode cX9_put 41 = .ok (.iload_n 1, 1) := by decide +kernel
theorem dX9_put_42 : decode cX9_put 42 = .ok (.iload_n 2, 1) := by decide +kernel
theorem dX9_put_43 : decode cX9_put 43 = .ok (.invokestatic 105, 3) := by decide +kernel
theorem dX9_put_46 : decode cX9_put 46 = .ok (.iload_n 3, 1) := by decide +kernel
theorem dX9_put_47 : decode cX9_put 47 = .ok (.ireturn, 1) := by decide +kernel
theorem dX9_get_0 : decode cX9_get 0 = .ok (.iload_n 1, 1) := by decide +kernel
theorem dX9_get_1 : decode cX9_get 1 = .ok (.ifCond .lt 9, 3) := by decide +kernel
theorem dX9_get_4 : decode cX9_get 4 = .ok (.iload_n 1, 1) := by decide +kernel
theorem dX9_get_5 : decode cX9_get 5 = .ok (.bipush 60, 2) := by decide +kernel
theorem dX9_get_7 : decode cX9_get 7 = .ok (.if_icmp .lt 9, 3) := by decide +kernel
theorem dX9_get_10 : decode cX9_get 10 = .ok (.sipush (-1001), 3) := by decide +kernel
theorem dX9_get_13 : decode cX9_get 13 = .ok (.goto 11, 3) := by decide +kernel
theorem dX9_get_16 : decode cX9_get 16 = .ok (.aload_n 0, 1) := by decide +kernel
theorem dX9_get_17 : decode cX9_get 17 = .ok (.getfield 9, 3) := by decide +kernel
theorem dX9_get_20 : decode cX9_get 20 = .ok (.iload_n 1, 1) := by decide +kernel
theorem dX9_get_21 : decode cX9_get 21 = .ok (.invokestatic 101, 3) := by decide +kernel
theorem dX9_get_24 : decode cX9_get 24 = .ok (.ireturn, 1) := by decide +kernel
theorem dX9_isObject_0 : decode cX9_isObject 0 = .ok (.aload_n 0, 1) := by decide +kernel
theorem dX9_isObject_1 : decode cX9_isObject 1 = .ok (.invokevirtual 109, 3) := by decide +kernel
theorem dX9_isObject_4 : decode cX9_isObject 4 = .ok (.ifCond .eq 7, 3) := by decide +kernel
theorem dX9_isObject_7 : decode cX9_isObject 7 = .ok (.iconst 1, 1) := by decide +kernel
theorem dX9_isObject_8 : decode cX9_isObject 8 = .ok (.goto 4, 3) := by decide +kernel
theorem dX9_isObject_11 : decode cX9_isObject 11 = .ok (.iconst 0, 1) := by decide +kernel
theorem dX9_isObject_12 : decode cX9_isObject 12 = .ok (.ireturn, 1) := by decide +kernel
theorem dX9_rank_0 : decode cX9_rank 0 = .ok (.aload_n 0, 1) := by decide +kernel
theorem dX9_rank_1 : decode cX9_rank 1 = .ok (.invokevirtual 109, 3) := by decide +kernel
theorem dX9_rank_4 : decode cX9_rank 4 = .ok (.ifCond .eq 21, 3) := by decide +kernel
theorem dX9_rank_7 : decode cX9_rank 7 = .ok (.aload_n 0, 1) := by decide +kernel
theorem dX9_rank_8 : decode cX9_rank 8 = .ok (.getfield 35, 3) := by decide +kernel
theorem dX9_rank_11 : decode cX9_rank 11 = .ok (.aload_n 0, 1) := by decide +kernel
theorem dX9_rank_12 : decode cX9_rank 12 = .ok (.getfield 9, 3) := by decide +kernel
theorem dX9_rank_15 : decode cX9_rank 15 = .ok (.aload_n 0, 1) := by decide +kernel
theorem dX9_rank_16 : decode cX9_rank 16 = .ok (.getfield 19, 3) := by decide +kernel
theorem dX9_rank_19 : decode cX9_rank 19 = .ok (.invokevirtual 113, 3) := by decide +kernel
theorem dX9_rank_22 : decode cX9_rank 22 = .ok (.goto 6, 3) := by decide +kernel
theorem dX9_rank_25 : decode cX9_rank 25 = .ok (.ldc2_w 117, 3) := by decide +kernel
theorem dX9_rank_28 : decode cX9_rank 28 = .ok (.lreturn, 1) := by decide +kernel
theorem dX9_unrank_0 : decode cX9_unrank 0 = .ok (.lload_n 1, 1) := by decide +kernel
theorem dX9_unrank_1 : decode cX9_unrank 1 = .ok (.lconst 0, 1) := by decide +kernel
theorem dX9_unrank_2 : decode cX9_unrank 2 = .ok (.lcmp, 1) := by decide +kernel
theorem dX9_unrank_3 : decode cX9_unrank 3 = .ok (.ifCond .lt 15, 3) := by decide +kernel
theorem dX9_unrank_6 : decode cX9_unrank 6 = .ok (.lload_n 1, 1) := by decide +kernel
theorem dX9_unrank_7 : decode cX9_unrank 7 = .ok (.aload_n 0, 1) := by decide +kernel
theorem dX9_unrank_8 : decode cX9_unrank 8 = .ok (.getfield 35, 3) := by decide +kernel
theorem dX9_unrank_11 : decode cX9_unrank 11 = .ok (.getfield 97, 3) := by decide +kernel
theorem dX9_unrank_14 : decode cX9_unrank 14 = .ok (.lcmp, 1) := by decide +kernel
theorem dX9_unrank_15 : decode cX9_unrank 15 = .ok (.ifCond .lt 5, 3) := by decide +kernel
theorem dX9_unrank_18 : decode cX9_unrank 18 = .ok (.iconst (-1), 1) := by decide +kernel
theorem dX9_unrank_19 : decode cX9_unrank 19 = .ok (.ireturn, 1) := by decide +kernel
theorem dX9_unrank_20 : decode cX9_unrank 20 = .ok (.aload_n 0, 1) := by decide +kernel
theorem dX9_unrank_21 : decode cX9_unrank 21 = .ok (.lload_n 1, 1) := by decide +kernel
theorem dX9_unrank_22 : decode cX9_unrank 22 = .ok (.invokevirtual 119, 3) := by decide +kernel
theorem dX9_unrank_25 : decode cX9_unrank 25 = .ok (.ifCond .eq 7, 3) := by decide +kernel
theorem dX9_unrank_28 : decode cX9_unrank 28 = .ok (.iconst 1, 1) := by decide +kernel
theorem dX9_unrank_29 : decode cX9_unrank 29 = .ok (.goto 4, 3) := by decide +kernel
theorem dX9_unrank_32 : decode cX9_unrank 32 = .ok (.iconst 0, 1) := by decide +kernel
theorem dX9_unrank_33 : decode cX9_unrank 33 = .ok (.ireturn, 1) := by decide +kernel
theorem dX9_step_0 : decode cX9_step 0 = .ok (.iload_n 1, 1) := by decide +kernel
theorem dX9_step_1 : decode cX9_step 1 = .ok (.ldc 123, 2) := by decide +kernel
theorem dX9_step_3 : decode cX9_step 3 = .ok (.if_icmp .lt 9, 3) := by decide +kernel
theorem dX9_step_6 : decode cX9_step 6 = .ok (.iload_n 1, 1) := by decide +kernel
theorem dX9_step_7 : decode cX9_step 7 = .ok (.ldc 124, 2) := by decide +kernel
theorem dX9_step_9 : decode cX9_step 9 = .ok (.if_icmp .le 5, 3) := by decide +kernel
theorem dX9_step_12 : decode cX9_step 12 = .ok (.iconst (-1), 1) := by decide +kernel
theorem dX9_step_13 : decode cX9_step 13 = .ok (.ireturn, 1) := by decide +kernel
theorem dX9_step_14 : decode cX9_step 14 = .ok (.aload_n 0, 1) := by decide +kernel
theorem dX9_step_15 : decode cX9_step 15 = .ok (.invokevirtual 109, 3) := by decide +kernel
theorem dX9_step_18 : decode cX9_step 18 = .ok (.ifCond .ne 6, 3) := by decide +kernel
theorem dX9_step_21 : decode cX9_step 21 = .ok (.bipush (-2), 2) := by decide +kernel
theorem dX9_step_23 : decode cX9_step 23 = .ok (.ireturn, 1) := by decide +kernel
theorem dX9_step_24 : decode cX9_step 24 = .ok (.aload_n 0, 1) := by decide +kernel
theorem dX9_step_25 : decode cX9_step 25 = .ok (.getfield 35, 3) := by decide +kernel
theorem dX9_step_28 : decode cX9_step 28 = .ok (.aload_n 0, 1) := by decide +kernel
theorem dX9_step_29 : decode cX9_step 29 = .ok (.getfield 9, 3) := by decide +kernel
theorem dX9_step_32 : decode cX9_step 32 = .ok (.aload_n 0, 1) := by decide +kernel
theorem dX9_step_33 : decode cX9_step 33 = .ok (.getfield 19, 3) := by decide +kernel
theorem dX9_step_36 : decode cX9_step 36 = .ok (.invokevirtual 113, 3) := by decide +kernel
theorem dX9_step_39 : decode cX9_step 39 = .ok (.iload_n 1, 1) := by decide +kernel
theorem dX9_step_40 : decode cX9_step 40 = .ok (.i2l, 1) := by decide +kernel
theorem dX9_step_41 : decode cX9_step 41 = .ok (.ladd, 1) := by decide +kernel
theorem dX9_step_42 : decode cX9_step 42 = .ok (.lstore_n 2, 1) := by decide +kernel
theorem dX9_step_43 : decode cX9_step 43 = .ok (.lload_n 2, 1) := by decide +kernel
theorem dX9_step_44 : decode cX9_step 44 = .ok (.lconst 0, 1) := by decide +kernel
theorem dX9_step_45 : decode cX9_step 45 = .ok (.lcmp, 1) := by decide +kernel
theorem dX9_step_46 : decode cX9_step 46 = .ok (.ifCond .lt 15, 3) := by decide +kernel
theorem dX9_step_49 : decode cX9_step 49 = .ok (.lload_n 2, 1) := by decide +kernel
theorem dX9_step_50 : decode cX9_step 50 = .ok (.aload_n 0, 1) := by decide +kernel
theorem dX9_step_51 : decode cX9_step 51 = .ok (.getfield 35, 3) := by decide +kernel
theorem dX9_step_54 : decode cX9_step 54 = .ok (.getfield 97, 3) := by decide +kernel
theorem dX9_step_57 : decode cX9_step 57 = .ok (.lcmp, 1) := by decide +kernel
theorem dX9_step_58 : decode cX9_step 58 = .ok (.ifCond .lt 6, 3) := by decide +kernel
theorem dX9_step_61 : decode cX9_step 61 = .ok (.bipush (-6), 2) := by decide +kernel
theorem dX9_step_63 : decode cX9_step 63 = .ok (.ireturn, 1) := by decide +kernel
theorem dX9_step_64 : decode cX9_step 64 = .ok (.aload_n 0, 1) := by decide +kernel
theorem dX9_step_65 : decode cX9_step 65 = .ok (.lload_n 2, 1) := by decide +kernel
theorem dX9_step_66 : decode cX9_step 66 = .ok (.invokevirtual 119, 3) := by decide +kernel
theorem dX9_step_69 : decode cX9_step 69 = .ok (.pop, 1) := by decide +kernel
theorem dX9_step_70 : decode cX9_step 70 = .ok (.iconst 1, 1) := by decide +kernel
theorem dX9_step_71 : decode cX9_step 71 = .ok (.ireturn, 1) := by decide +kernel
theorem dX9_draw_0 : decode cX9_draw 0 = .ok (.lload_n 1, 1) := by decide +kernel
theorem dX9_draw_1 : decode cX9_draw 1 = .ok (.ldc2_w 125, 3) := by decide +kernel
theorem dX9_draw_4 : decode cX9_draw 4 = .ok (.lmul, 1) := by decide +kernel
theorem dX9_draw_5 : decode cX9_draw 5 = .ok (.ldc2_w 127, 3) := by decide +kernel
theorem dX9_draw_8 : decode cX9_draw 8 = .ok (.ladd, 1) := by decide +kernel
theorem dX9_draw_9 : decode cX9_draw 9 = .ok (.lstore_n 3, 1) := by decide +kernel
theorem dX9_draw_10 : decode cX9_draw 10 = .ok (.lload_n 3, 1) := by decide +kernel
theorem dX9_draw_11 : decode cX9_draw 11 = .ok (.lload_n 3, 1) := by decide +kernel
theorem dX9_draw_12 : decode cX9_draw 12 = .ok (.bipush 33, 2) := by decide +kernel
theorem dX9_draw_14 : decode cX9_draw 14 = .ok (.lushr, 1) := by decide +kernel
theorem dX9_draw_15 : decode cX9_draw 15 = .ok (.lxor, 1) := by decide +kernel
theorem dX9_draw_16 : decode cX9_draw 16 = .ok (.lstore 5, 2) := by decide +kernel
theorem dX9_draw_18 : decode cX9_draw 18 = .ok (.lload 5, 2) := by decide +kernel
theorem dX9_draw_20 : decode cX9_draw 20 = .ok (.iconst 1, 1) := by decide +kernel
theorem dX9_draw_21 : decode cX9_draw 21 = .ok (.lushr, 1) := by decide +kernel
theorem dX9_draw_22 : decode cX9_draw 22 = .ok (.aload_n 0, 1) := by decide +kernel
theorem dX9_draw_23 : decode cX9_draw 23 = .ok (.getfield 35, 3) := by decide +kernel
theorem dX9_draw_26 : decode cX9_draw 26 = .ok (.getfield 97, 3) := by decide +kernel
theorem dX9_draw_29 : decode cX9_draw 29 = .ok (.invokestatic 129, 3) := by decide +kernel
theorem dX9_draw_32 : decode cX9_draw 32 = .ok (.lstore 7, 2) := by decide +kernel
theorem dX9_draw_34 : decode cX9_draw 34 = .ok (.aload_n 0, 1) := by decide +kernel
theorem dX9_draw_35 : decode cX9_draw 35 = .ok (.lload 7, 2) := by decide +kernel
theorem dX9_draw_37 : decode cX9_draw 37 = .ok (.invokevirtual 119, 3) := by decide +kernel
theorem dX9_draw_40 : decode cX9_draw 40 = .ok (.pop, 1) := by decide +kernel
theorem dX9_draw_41 : decode cX9_draw 41 = .ok (.lload 7, 2) := by decide +kernel
theorem dX9_draw_43 : decode cX9_draw 43 = .ok (.lreturn, 1) := by decide +kernel
theorem dX9_transform_0 : decode cX9_transform 0 = .ok (.aload_n 0, 1) := by decide +kernel
theorem dX9_transform_1 : decode cX9_transform 1 = .ok (.invokevirtual 109, 3) := by decide +kernel
theorem dX9_transform_4 : decode cX9_transform 4 = .ok (.ifCond .ne 6, 3) := by decide +kernel
theorem dX9_transform_7 : decode cX9_transform 7 = .ok (.bipush (-2), 2) := by decide +kernel
theorem dX9_transform_9 : decode cX9_transform 9 = .ok (.ireturn, 1) := by decide +kernel
theorem dX9_transform_10 : decode cX9_transform 10 = .ok (.aload_n 0, 1) := by decide +kernel
theorem dX9_transform_11 : decode cX9_transform 11 = .ok (.getfield 35, 3) := by decide +kernel
theorem dX9_transform_14 : decode cX9_transform 14 = .ok (.invokevirtual 133, 3) := by decide +kernel
theorem dX9_transform_17 : decode cX9_transform 17 = .ok (.astore_n 1, 1) := by decide +kernel
theorem dX9_transform_18 : decode cX9_transform 18 = .ok (.aload_n 0, 1) := by decide +kernel
theorem dX9_transform_19 : decode cX9_transform 19 = .ok (.getfield 35, 3) := by decide +kernel
theorem dX9_transform_22 : decode cX9_transform 22 = .ok (.aload_n 0, 1) := by decide +kernel
theorem dX9_transform_23 : decode cX9_transform 23 = .ok (.getfield 9, 3) := by decide +kernel
theorem dX9_transform_26 : decode cX9_transform 26 = .ok (.aload_n 0, 1) := by decide +kernel
theorem dX9_transform_27 : decode cX9_transform 27 = .ok (.getfield 13, 3) := by decide +kernel
theorem dX9_transform_30 : decode cX9_transform 30 = .ok (.aload_n 0, 1) := by decide +kernel
theorem dX9_transform_31 : decode cX9_transform 31 = .ok (.getfield 19, 3) := by decide +kernel
theorem dX9_transform_34 : decode cX9_transform 34 = .ok (.invokevirtual 137, 3) := by decide +kernel
theorem dX9_transform_37 : decode cX9_transform 37 = .ok (.aload_n 1, 1) := by decide +kernel
theorem dX9_transform_38 : decode cX9_transform 38 = .ok (.aload_n 0, 1) := by decide +kernel
theorem dX9_transform_39 : decode cX9_transform 39 = .ok (.getfield 13, 3) := by decide +kernel
theorem dX9_transform_42 : decode cX9_transform 42 = .ok (.aload_n 0, 1) := by decide +kernel
theorem dX9_transform_43 : decode cX9_transform 43 = .ok (.getfield 19, 3) := by decide +kernel
theorem dX9_transform_46 : decode cX9_transform 46 = .ok (.invokevirtual 141, 3) := by decide +kernel
theorem dX9_transform_49 : decode cX9_transform 49 = .ok (.ifCond .ne 6, 3) := by decide +kernel
theorem dX9_transform_52 : decode cX9_transform 52 = .ok (.bipush (-6), 2) := by decide +kernel
theorem dX9_transform_54 : decode cX9_transform 54 = .ok (.ireturn, 1) := by decide +kernel
theorem dX9_transform_55 : decode cX9_transform 55 = .ok (.aload_n 1, 1) := by decide +kernel
theorem dX9_transform_56 : decode cX9_transform 56 = .ok (.getfield 94, 3) := by decide +kernel
theorem dX9_transform_59 : decode cX9_transform 59 = .ok (.aload_n 0, 1) := by decide +kernel
theorem dX9_transform_60 : decode cX9_transform 60 = .ok (.getfield 35, 3) := by decide +kernel
theorem dX9_transform_63 : decode cX9_transform 63 = .ok (.getfield 94, 3) := by decide +kernel
theorem dX9_transform_66 : decode cX9_transform 66 = .ok (.if_icmp .eq 7, 3) := by decide +kernel
theorem dX9_transform_69 : decode cX9_transform 69 = .ok (.iconst 1, 1) := by decide +kernel
theorem dX9_transform_70 : decode cX9_transform 70 = .ok (.goto 4, 3) := by decide +kernel
theorem dX9_transform_73 : decode cX9_transform 73 = .ok (.iconst 0, 1) := by decide +kernel
theorem dX9_transform_74 : decode cX9_transform 74 = .ok (.istore_n 2, 1) := by decide +kernel
theorem dX9_transform_75 : decode cX9_transform 75 = .ok (.aload_n 0, 1) := by decide +kernel
theorem dX9_transform_76 : decode cX9_transform 76 = .ok (.aload_n 1, 1) := by decide +kernel
theorem dX9_transform_77 : decode cX9_transform 77 = .ok (.putfield 35, 3) := by decide +kernel
theorem dX9_transform_80 : decode cX9_transform 80 = .ok (.aload_n 0, 1) := by decide +kernel
theorem dX9_transform_81 : decode cX9_transform 81 = .ok (.invokevirtual 145, 3) := by decide +kernel
theorem dX9_transform_84 : decode cX9_transform 84 = .ok (.istore_n 3, 1) := by decide +kernel
theorem dX9_transform_85 : decode cX9_transform 85 = .ok (.iload_n 2, 1) := by decide +kernel
theorem dX9_transform_86 : decode cX9_transform 86 = .ok (.ifCond .ne 7, 3) := by decide +kernel
theorem dX9_transform_89 : decode cX9_transform 89 = .ok (.iload_n 3, 1) := by decide +kernel
theorem dX9_transform_90 : decode cX9_transform 90 = .ok (.ifCond .eq 7, 3) := by decide +kernel
theorem dX9_transform_93 : decode cX9_transform 93 = .ok (.iconst 1, 1) := by decide +kernel
theorem dX9_transform_94 : decode cX9_transform 94 = .ok (.goto 4, 3) := by decide +kernel
theorem dX9_transform_97 : decode cX9_transform 97 = .ok (.iconst 0, 1) := by decide +kernel
theorem dX9_transform_98 : decode cX9_transform 98 = .ok (.ireturn, 1) := by decide +kernel
theorem dX9_toWord_0 : decode cX9_toWord 0 = .ok (.aload_n 0, 1) := by decide +kernel
theorem dX9_toWord_1 : decode cX9_toWord 1 = .ok (.getfield 35, 3) := by decide +kernel
theorem dX9_toWord_4 : decode cX9_toWord 4 = .ok (.getfield 94, 3) := by decide +kernel
theorem dX9_toWord_7 : decode cX9_toWord 7 = .ok (.istore_n 1, 1) := by decide +kernel
theorem dX9_toWord_8 : decode cX9_toWord 8 = .ok (.aload_n 0, 1) := by decide +kernel
theorem dX9_toWord_9 : decode cX9_toWord 9 = .ok (.getfield 35, 3) := by decide +kernel
theorem dX9_toWord_12 : decode cX9_toWord 12 = .ok (.getfield 84, 3) := by decide +kernel
theorem dX9_toWord_15 : decode cX9_toWord 15 = .ok (.iconst 3, 1) := by decide +kernel
theorem dX9_toWord_16 : decode cX9_toWord 16 = .ok (.if_icmp .ne 9, 3) := by decide +kernel
theorem dX9_toWord_19 : decode cX9_toWord 19 = .ok (.iload_n 1, 1) := by decide +kernel
theorem dX9_toWord_20 : decode cX9_toWord 20 = .ok (.bipush 20, 2) := by decide +kernel
theorem dX9_toWord_22 : decode cX9_toWord 22 = .ok (.if_icmp .le 6, 3) := by decide +kernel
theorem dX9_toWord_25 : decode cX9_toWord 25 = .ok (.bipush (-3), 2) := by decide +kernel
theorem dX9_toWord_27 : decode cX9_toWord 27 = .ok (.ireturn, 1) := by decide +kernel
theorem dX9_toWord_28 : decode cX9_toWord 28 = .ok (.aload_n 0, 1) := by decide +kernel
theorem dX9_toWord_29 : decode cX9_toWord 29 = .ok (.invokevirtual 109, 3) := by decide +kernel
theorem dX9_toWord_32 : decode cX9_toWord 32 = .ok (.ifCond .ne 6, 3) := by decide +kernel
theorem dX9_toWord_35 : decode cX9_toWord 35 = .ok (.bipush (-2), 2) := by decide +kernel
theorem dX9_toWord_37 : decode cX9_toWord 37 = .ok (.ireturn, 1) := by decide +kernel
theorem dX9_toWord_38 : decode cX9_toWord 38 = .ok (.aload_n 0, 1) := by decide +kernel
theorem dX9_toWord_39 : decode cX9_toWord 39 = .ok (.getfield 9, 3) := by decide +kernel
theorem dX9_toWord_42 : decode cX9_toWord 42 = .ok (.iload_n 1, 1) := by decide +kernel
theorem dX9_toWord_43 : decode cX9_toWord 43 = .ok (.aload_n 0, 1) := by decide +kernel
theorem dX9_toWord_44 : decode cX9_toWord 44 = .ok (.getfield 13, 3) := by decide +kernel
theorem dX9_toWord_47 : decode cX9_toWord 47 = .ok (.aload_n 0, 1) := by decide +kernel
theorem dX9_toWord_48 : decode cX9_toWord 48 = .ok (.getfield 19, 3) := by decide +kernel
theorem dX9_toWord_51 : decode cX9_toWord 51 = .ok (.invokestatic 148, 3) := by decide +kernel
theorem dX9_toWord_54 : decode cX9_toWord 54 = .ok (.aload_n 0, 1) := by decide +kernel
theorem dX9_toWord_55 : decode cX9_toWord 55 = .ok (.aload_n 0, 1) := by decide +kernel
theorem dX9_toWord_56 : decode cX9_toWord 56 = .ok (.iload_n 1, 1) := by decide +kernel
theorem dX9_toWord_57 : decode cX9_toWord 57 = .ok (.iconst 1, 1) := by decide +kernel
theorem dX9_toWord_58 : decode cX9_toWord 58 = .ok (.invokevirtual 56, 3) := by decide +kernel
theorem dX9_toWord_61 : decode cX9_toWord 61 = .ok (.putfield 35, 3) := by decide +kernel
theorem dX9_toWord_64 : decode cX9_toWord 64 = .ok (.aload_n 0, 1) := by decide +kernel
theorem dX9_toWord_65 : decode cX9_toWord 65 = .ok (.invokevirtual 145, 3) := by decide +kernel
theorem dX9_toWord_68 : decode cX9_toWord 68 = .ok (.pop, 1) := by decide +kernel
theorem dX9_toWord_69 : decode cX9_toWord 69 = .ok (.iload_n 1, 1) := by decide +kernel
theorem dX9_toWord_70 : decode cX9_toWord 70 = .ok (.ireturn, 1) := by decide +kernel
theorem dX9_toTree_0 : decode cX9_toTree 0 = .ok (.aload_n 0, 1) := by decide +kernel
theorem dX9_toTree_1 : decode cX9_toTree 1 = .ok (.getfield 35, 3) := by decide +kernel
theorem dX9_toTree_4 : decode cX9_toTree 4 = .ok (.getfield 84, 3) := by decide +kernel
theorem dX9_toTree_7 : decode cX9_toTree 7 = .ok (.iconst 2, 1) := by decide +kernel
theorem dX9_toTree_8 : decode cX9_toTree 8 = .ok (.if_icmp .ne 15, 3) := by decide +kernel
theorem dX9_toTree_11 : decode cX9_toTree 11 = .ok (.aload_n 0, 1) := by decide +kernel
theorem dX9_toTree_12 : decode cX9_toTree 12 = .ok (.getfield 35, 3) := by decide +kernel
theorem dX9_toTree_15 : decode cX9_toTree 15 = .ok (.iconst 1, 1) := by decide +kernel
theorem dX9_toTree_16 : decode cX9_toTree 16 = .ok (.invokevirtual 90, 3) := by decide +kernel
theorem dX9_toTree_19 : decode cX9_toTree 19 = .ok (.iconst 1, 1) := by decide +kernel
theorem dX9_toTree_20 : decode cX9_toTree 20 = .ok (.if_icmp .eq 6, 3) := by decide +kernel
theorem dX9_toTree_23 : decode cX9_toTree 23 = .ok (.bipush (-3), 2) := by decide +kernel
theorem dX9_toTree_25 : decode cX9_toTree 25 = .ok (.ireturn, 1) := by decide +kernel
theorem dX9_toTree_26 : decode cX9_toTree 26 = .ok (.aload_n 0, 1) := by decide +kernel
theorem dX9_toTree_27 : decode cX9_toTree 27 = .ok (.invokevirtual 109, 3) := by decide +kernel
theorem dX9_toTree_30 : decode cX9_toTree 30 = .ok (.ifCond .ne 6, 3) := by decide +kernel
theorem dX9_toTree_33 : decode cX9_toTree 33 = .ok (.bipush (-2), 2) := by decide +kernel
theorem dX9_toTree_35 : decode cX9_toTree 35 = .ok (.ireturn, 1) := by decide +kernel
theorem dX9_toTree_36 : decode cX9_toTree 36 = .ok (.aload_n 0, 1) := by decide +kernel
theorem dX9_toTree_37 : decode cX9_toTree 37 = .ok (.getfield 35, 3) := by decide +kernel
theorem dX9_toTree_40 : decode cX9_toTree 40 = .ok (.iconst 0, 1) := by decide +kernel
theorem dX9_toTree_41 : decode cX9_toTree 41 = .ok (.invokevirtual 90, 3) := by decide +kernel
theorem dX9_toTree_44 : decode cX9_toTree 44 = .ok (.istore_n 1, 1) := by decide +kernel
theorem dX9_toTree_45 : decode cX9_toTree 45 = .ok (.aload_n 0, 1) := by decide +kernel
theorem dX9_toTree_46 : decode cX9_toTree 46 = .ok (.getfield 9, 3) := by decide +kernel
theorem dX9_toTree_49 : decode cX9_toTree 49 = .ok (.iload_n 1, 1) := by decide +kernel
theorem dX9_toTree_50 : decode cX9_toTree 50 = .ok (.aload_n 0, 1) := by decide +kernel
theorem dX9_toTree_51 : decode cX9_toTree 51 = .ok (.getfield 13, 3) := by decide +kernel
theorem dX9_toTree_54 : decode cX9_toTree 54 = .ok (.aload_n 0, 1) := by decide +kernel
theorem dX9_toTree_55 : decode cX9_toTree 55 = .ok (.getfield 19, 3) := by decide +kernel
theorem dX9_toTree_58 : decode cX9_toTree 58 = .ok (.invokestatic 154, 3) := by decide +kernel
theorem dX9_toTree_61 : decode cX9_toTree 61 = .ok (.aload_n 0, 1) := by decide +kernel
theorem dX9_toTree_62 : decode cX9_toTree 62 = .ok (.aload_n 0, 1) := by decide +kernel
theorem dX9_toTree_63 : decode cX9_toTree 63 = .ok (.iload_n 1, 1) := by decide +kernel
theorem dX9_toTree_64 : decode cX9_toTree 64 = .ok (.invokevirtual 60, 3) := by decide +kernel
theorem dX9_toTree_67 : decode cX9_toTree 67 = .ok (.putfield 35, 3) := by decide +kernel
theorem dX9_toTree_70 : decode cX9_toTree 70 = .ok (.aload_n 0, 1) := by decide +kernel
theorem dX9_toTree_71 : decode cX9_toTree 71 = .ok (.invokevirtual 145, 3) := by decide +kernel
theorem dX9_toTree_74 : decode cX9_toTree 74 = .ok (.pop, 1) := by decide +kernel
theorem dX9_toTree_75 : decode cX9_toTree 75 = .ok (.iload_n 1, 1) := by decide +kernel
theorem dX9_toTree_76 : decode cX9_toTree 76 = .ok (.ireturn, 1) := by decide +kernel
theorem dX9_descents_0 : decode cX9_descents 0 = .ok (.aload_n 0, 1) := by decide +kernel
theorem dX9_descents_1 : decode cX9_descents 1 = .ok (.invokevirtual 109, 3) := by decide +kernel
theorem dX9_descents_4 : decode cX9_descents 4 = .ok (.ifCond .ne 6, 3) := by decide +kernel
theorem dX9_descents_7 : decode cX9_descents 7 = .ok (.bipush (-2), 2) := by decide +kernel
theorem dX9_descents_9 : decode cX9_descents 9 = .ok (.ireturn, 1) := by decide +kernel
theorem dX9_descents_10 : decode cX9_descents 10 = .ok (.iconst 0, 1) := by decide +kernel
theorem dX9_descents_11 : decode cX9_descents 11 = .ok (.istore_n 1, 1) := by decide +kernel
theorem dX9_descents_12 : decode cX9_descents 12 = .ok (.iconst 1, 1) := by decide +kernel
theorem dX9_descents_13 : decode cX9_descents 13 = .ok (.istore_n 2, 1) := by decide +kernel
theorem dX9_descents_14 : decode cX9_descents 14 = .ok (.iload_n 2, 1) := by decide +kernel
theorem dX9_descents_15 : decode cX9_descents 15 = .ok (.aload_n 0, 1) := by decide +kernel
theorem dX9_descents_16 : decode cX9_descents 16 = .ok (.getfield 35, 3) := by decide +kernel
theorem dX9_descents_19 : decode cX9_descents 19 = .ok (.getfield 94, 3) := by decide +kernel
theorem dX9_descents_22 : decode cX9_descents 22 = .ok (.if_icmp .ge 33, 3) := by decide +kernel
theorem dX9_descents_25 : decode cX9_descents 25 = .ok (.aload_n 0, 1) := by decide +kernel
theorem dX9_descents_26 : decode cX9_descents 26 = .ok (.getfield 9, 3) := by decide +kernel
theorem dX9_descents_29 : decode cX9_descents 29 = .ok (.iload_n 2, 1) := by decide +kernel
theorem dX9_descents_30 : decode cX9_descents 30 = .ok (.invokestatic 101, 3) := by decide +kernel
theorem dX9_descents_33 : decode cX9_descents 33 = .ok (.aload_n 0, 1) := by decide +kernel
theorem dX9_descents_34 : decode cX9_descents 34 = .ok (.getfield 9, 3) := by decide +kernel
theorem dX9_descents_37 : decode cX9_descents 37 = .ok (.iload_n 2, 1) := by decide +kernel
theorem dX9_descents_38 : decode cX9_descents 38 = .ok (.iconst 1, 1) := by decide +kernel
theorem dX9_descents_39 : decode cX9_descents 39 = .ok (.isub, 1) := by decide +kernel
theorem dX9_descents_40 : decode cX9_descents 40 = .ok (.invokestatic 101, 3) := by decide +kernel
theorem dX9_descents_43 : decode cX9_descents 43 = .ok (.if_icmp .ge 6, 3) := by decide +kernel
theorem dX9_descents_46 : decode cX9_descents 46 = .ok (.iinc 1 1, 3) := by decide +kernel
theorem dX9_descents_49 : decode cX9_descents 49 = .ok (.iinc 2 1, 3) := by decide +kernel
theorem dX9_descents_52 : decode cX9_descents 52 = .ok (.goto (-38), 3) := by decide +kernel
theorem dX9_descents_55 : decode cX9_descents 55 = .ok (.iload_n 1, 1) := by decide +kernel
theorem dX9_descents_56 : decode cX9_descents 56 = .ok (.ireturn, 1) := by decide +kernel
theorem dX9_store_0 : decode cX9_store 0 = .ok (.aload_n 0, 1) := by decide +kernel
theorem dX9_store_1 : decode cX9_store 1 = .ok (.invokevirtual 109, 3) := by decide +kernel
theorem dX9_store_4 : decode cX9_store 4 = .ok (.ifCond .ne 6, 3) := by decide +kernel
theorem dX9_store_7 : decode cX9_store 7 = .ok (.bipush (-2), 2) := by decide +kernel
theorem dX9_store_9 : decode cX9_store 9 = .ok (.ireturn, 1) := by decide +kernel
theorem dX9_store_10 : decode cX9_store 10 = .ok (.aload_n 0, 1) := by decide +kernel
theorem dX9_store_11 : decode cX9_store 11 = .ok (.getfield 26, 3) := by decide +kernel
theorem dX9_store_14 : decode cX9_store 14 = .ok (.aload_n 0, 1) := by decide +kernel
theorem dX9_store_15 : decode cX9_store 15 = .ok (.getfield 35, 3) := by decide +kernel
theorem dX9_store_18 : decode cX9_store 18 = .ok (.getfield 97, 3) := by decide +kernel
theorem dX9_store_21 : decode cX9_store 21 = .ok (.invokevirtual 159, 3) := by decide +kernel
theorem dX9_store_24 : decode cX9_store 24 = .ok (.ifCond .ne 6, 3) := by decide +kernel
theorem dX9_store_27 : decode cX9_store 27 = .ok (.bipush (-4), 2) := by decide +kernel
theorem dX9_store_29 : decode cX9_store 29 = .ok (.ireturn, 1) := by decide +kernel
theorem dX9_store_30 : decode cX9_store 30 = .ok (.aload_n 0, 1) := by decide +kernel
theorem dX9_store_31 : decode cX9_store 31 = .ok (.getfield 26, 3) := by decide +kernel
theorem dX9_store_34 : decode cX9_store 34 = .ok (.aload_n 0, 1) := by decide +kernel
theorem dX9_store_35 : decode cX9_store 35 = .ok (.getfield 35, 3) := by decide +kernel
theorem dX9_store_38 : decode cX9_store 38 = .ok (.aload_n 0, 1) := by decide +kernel
theorem dX9_store_39 : decode cX9_store 39 = .ok (.getfield 35, 3) := by decide +kernel
theorem dX9_store_42 : decode cX9_store 42 = .ok (.aload_n 0, 1) := by decide +kernel
theorem dX9_store_43 : decode cX9_store 43 = .ok (.getfield 9, 3) := by decide +kernel
theorem dX9_store_46 : decode cX9_store 46 = .ok (.aload_n 0, 1) := by decide +kernel
theorem dX9_store_47 : decode cX9_store 47 = .ok (.getfield 19, 3) := by decide +kernel
theorem dX9_store_50 : decode cX9_store 50 = .ok (.invokevirtual 113, 3) := by decide +kernel
theorem dX9_store_53 : decode cX9_store 53 = .ok (.invokevirtual 162, 3) := by decide +kernel
theorem dX9_store_56 : decode cX9_store 56 = .ok (.ireturn, 1) := by decide +kernel
theorem dX9_fetch_0 : decode cX9_fetch 0 = .ok (.aload_n 0, 1) := by decide +kernel
theorem dX9_fetch_1 : decode cX9_fetch 1 = .ok (.getfield 26, 3) := by decide +kernel
theorem dX9_fetch_4 : decode cX9_fetch 4 = .ok (.iload_n 1, 1) := by decide +kernel
theorem dX9_fetch_5 : decode cX9_fetch 5 = .ok (.invokevirtual 166, 3) := by decide +kernel
theorem dX9_fetch_8 : decode cX9_fetch 8 = .ok (.astore_n 2, 1) := by decide +kernel
theorem dX9_fetch_9 : decode cX9_fetch 9 = .ok (.aload_n 2, 1) := by decide +kernel
theorem dX9_fetch_10 : decode cX9_fetch 10 = .ok (.ifnonnull 6, 3) := by decide +kernel
theorem dX9_fetch_13 : decode cX9_fetch 13 = .ok (.bipush (-5), 2) := by decide +kernel
theorem dX9_fetch_15 : decode cX9_fetch 15 = .ok (.ireturn, 1) := by decide +kernel
theorem dX9_fetch_16 : decode cX9_fetch 16 = .ok (.aload_n 0, 1) := by decide +kernel
theorem dX9_fetch_17 : decode cX9_fetch 17 = .ok (.aload_n 2, 1) := by decide +kernel
theorem dX9_fetch_18 : decode cX9_fetch 18 = .ok (.putfield 35, 3) := by decide +kernel
theorem dX9_fetch_21 : decode cX9_fetch 21 = .ok (.aload_n 0, 1) := by decide +kernel
theorem dX9_fetch_22 : decode cX9_fetch 22 = .ok (.aload_n 0, 1) := by decide +kernel
theorem dX9_fetch_23 : decode cX9_fetch 23 = .ok (.getfield 26, 3) := by decide +kernel
theorem dX9_fetch_26 : decode cX9_fetch 26 = .ok (.iload_n 1, 1) := by decide +kernel
theorem dX9_fetch_27 : decode cX9_fetch 27 = .ok (.invokevirtual 169, 3) := by decide +kernel
theorem dX9_fetch_30 : decode cX9_fetch 30 = .ok (.invokevirtual 119, 3) := by decide +kernel
theorem dX9_fetch_33 : decode cX9_fetch 33 = .ok (.pop, 1) := by decide +kernel
theorem dX9_fetch_34 : decode cX9_fetch 34 = .ok (.aload_n 2, 1) := by decide +kernel
theorem dX9_fetch_35 : decode cX9_fetch 35 = .ok (.getfield 84, 3) := by decide +kernel
theorem dX9_fetch_38 : decode cX9_fetch 38 = .ok (.ireturn, 1) := by decide +kernel
theorem dX9_clear_0 : decode cX9_clear 0 = .ok (.aload_n 0, 1) := by decide +kernel
theorem dX9_clear_1 : decode cX9_clear 1 = .ok (.getfield 26, 3) := by decide +kernel
theorem dX9_clear_4 : decode cX9_clear 4 = .ok (.invokevirtual 172, 3) := by decide +kernel
theorem dX9_clear_7 : decode cX9_clear 7 = .ok (.ireturn, 1) := by decide +kernel
theorem dX9_entries_0 : decode cX9_entries 0 = .ok (.aload_n 0, 1) := by decide +kernel
theorem dX9_entries_1 : decode cX9_entries 1 = .ok (.getfield 26, 3) := by decide +kernel
theorem dX9_entries_4 : decode cX9_entries 4 = .ok (.getfield 176, 3) := by decide +kernel
theorem dX9_entries_7 : decode cX9_entries 7 = .ok (.ireturn, 1) := by decide +kernel
theorem dX9_total_0 : decode cX9_total 0 = .ok (.aload_n 0, 1) := by decide +kernel
theorem dX9_total_1 : decode cX9_total 1 = .ok (.getfield 26, 3) := by decide +kernel
theorem dX9_total_4 : decode cX9_total 4 = .ok (.getfield 179, 3) := by decide +kernel
theorem dX9_total_7 : decode cX9_total 7 = .ok (.lreturn, 1) := by decide +kernel
theorem dX9_code_0 : decode cX9_code 0 = .ok (.aload_n 0, 1) := by decide +kernel
theorem dX9_code_1 : decode cX9_code 1 = .ok (.getfield 26, 3) := by decide +kernel
theorem dX9_code_4 : decode cX9_code 4 = .ok (.invokevirtual 182, 3) := by decide +kernel
theorem dX9_code_7 : decode cX9_code 7 = .ok (.lreturn, 1) := by decide +kernel
theorem dX9_decode_0 : decode cX9_decode 0 = .ok (.lload_n 1, 1) := by decide +kernel
theorem dX9_decode_1 : decode cX9_decode 1 = .ok (.lconst 0, 1) := by decide +kernel
theorem dX9_decode_2 : decode cX9_decode 2 = .ok (.lcmp, 1) := by decide +kernel
theorem dX9_decode_3 : decode cX9_decode 3 = .ok (.ifCond .lt 15, 3) := by decide +kernel
theorem dX9_decode_6 : decode cX9_decode 6 = .ok (.lload_n 1, 1) := by decide +kernel
theorem dX9_decode_7 : decode cX9_decode 7 = .ok (.aload_n 0, 1) := by decide +kernel
theorem dX9_decode_8 : decode cX9_decode 8 = .ok (.getfield 26, 3) := by decide +kernel
theorem dX9_decode_11 : decode cX9_decode 11 = .ok (.getfield 179, 3) := by decide +kernel
theorem dX9_decode_14 : decode cX9_decode 14 = .ok (.lcmp, 1) := by decide +kernel
theorem dX9_decode_15 : decode cX9_decode 15 = .ok (.ifCond .lt 5, 3) := by decide +kernel
theorem dX9_decode_18 : decode cX9_decode 18 = .ok (.iconst (-1), 1) := by decide +kernel
theorem dX9_decode_19 : decode cX9_decode 19 = .ok (.ireturn, 1) := by decide +kernel
theorem dX9_decode_20 : decode cX9_decode 20 = .ok (.aload_n 0, 1) := by decide +kernel
theorem dX9_decode_21 : decode cX9_decode 21 = .ok (.getfield 26, 3) := by decide +kernel
theorem dX9_decode_24 : decode cX9_decode 24 = .ok (.lload_n 1, 1) := by decide +kernel
theorem dX9_decode_25 : decode cX9_decode 25 = .ok (.invokevirtual 186, 3) := by decide +kernel
theorem dX9_decode_28 : decode cX9_decode 28 = .ok (.ireturn, 1) := by decide +kernel
theorem dX9_sort_0 : decode cX9_sort 0 = .ok (.aload_n 0, 1) := by decide +kernel
theorem dX9_sort_1 : decode cX9_sort 1 = .ok (.getfield 26, 3) := by decide +kernel
theorem dX9_sort_4 : decode cX9_sort 4 = .ok (.invokevirtual 190, 3) := by decide +kernel
theorem dX9_sort_7 : decode cX9_sort 7 = .ok (.ifCond .eq 7, 3) := by decide +kernel
theorem dX9_sort_10 : decode cX9_sort 10 = .ok (.iconst 1, 1) := by decide +kernel
theorem dX9_sort_11 : decode cX9_sort 11 = .ok (.goto 4, 3) := by decide +kernel
theorem dX9_sort_14 : decode cX9_sort 14 = .ok (.iconst 0, 1) := by decide +kernel
theorem dX9_sort_15 : decode cX9_sort 15 = .ok (.ireturn, 1) := by decide +kernel
theorem dX9_isNoLetterCount_0 : decode cX9_isNoLetterCount 0 = .ok (.iload_n 0, 1) := by decide +kernel
theorem dX9_isNoLetterCount_1 : decode cX9_isNoLetterCount 1 = .ok (.ifCond .lt 9, 3) := by decide +kernel
theorem dX9_isNoLetterCount_4 : decode cX9_isNoLetterCount 4 = .ok (.iload_n 0, 1) := by decide +kernel
theorem dX9_isNoLetterCount_5 : decode cX9_isNoLetterCount 5 = .ok (.bipush 20, 2) := by decide +kernel
theorem dX9_isNoLetterCount_7 : decode cX9_isNoLetterCount 7 = .ok (.if_icmp .le 7, 3) := by decide +kernel
theorem dX9_isNoLetterCount_10 : decode cX9_isNoLetterCount 10 = .ok (.iconst 1, 1) := by decide +kernel
theorem dX9_isNoLetterCount_11 : decode cX9_isNoLetterCount 11 = .ok (.goto 4, 3) := by decide +kernel
theorem dX9_isNoLetterCount_14 : decode cX9_isNoLetterCount 14 = .ok (.iconst 0, 1) := by decide +kernel
theorem dX9_isNoLetterCount_15 : decode cX9_isNoLetterCount 15 = .ok (.ireturn, 1) := by decide +kernel
theorem dX9_wordsOf_0 : decode cX9_wordsOf 0 = .ok (.new 155, 3) := by decide +kernel
theorem dX9_wordsOf_3 : decode cX9_wordsOf 3 = .ok (.dup, 1) := by decide +kernel
theorem dX9_wordsOf_4 : decode cX9_wordsOf 4 = .ok (.iload_n 1, 1) := by decide +kernel
theorem dX9_wordsOf_5 : decode cX9_wordsOf 5 = .ok (.iload_n 2, 1) := by decide +kernel
theorem dX9_wordsOf_6 : decode cX9_wordsOf 6 = .ok (.aload_n 0, 1) := by decide +kernel
theorem dX9_wordsOf_7 : decode cX9_wordsOf 7 = .ok (.getfield 19, 3) := by decide +kernel
theorem dX9_wordsOf_10 : decode cX9_wordsOf 10 = .ok (.iconst 2, 1) := by decide +kernel
theorem dX9_wordsOf_11 : decode cX9_wordsOf 11 = .ok (.iload_n 1, 1) := by decide +kernel
theorem dX9_wordsOf_12 : decode cX9_wordsOf 12 = .ok (.imul, 1) := by decide +kernel
theorem dX9_wordsOf_13 : decode cX9_wordsOf 13 = .ok (.iconst 0, 1) := by decide +kernel
theorem dX9_wordsOf_14 : decode cX9_wordsOf 14 = .ok (.iload_n 2, 1) := by decide +kernel
theorem dX9_wordsOf_15 : decode cX9_wordsOf 15 = .ok (.invokevirtual 193, 3) := by decide +kernel
theorem dX9_wordsOf_18 : decode cX9_wordsOf 18 = .ok (.invokespecial 197, 3) := by decide +kernel
theorem dX9_wordsOf_21 : decode cX9_wordsOf 21 = .ok (.areturn, 1) := by decide +kernel
theorem dX9_treesOf_0 : decode cX9_treesOf 0 = .ok (.new 149, 3) := by decide +kernel
theorem dX9_treesOf_3 : decode cX9_treesOf 3 = .ok (.dup, 1) := by decide +kernel
theorem dX9_treesOf_4 : decode cX9_treesOf 4 = .ok (.iload_n 1, 1) := by decide +kernel
theorem dX9_treesOf_5 : decode cX9_treesOf 5 = .ok (.aload_n 0, 1) := by decide +kernel
theorem dX9_treesOf_6 : decode cX9_treesOf 6 = .ok (.getfield 19, 3) := by decide +kernel
theorem dX9_treesOf_9 : decode cX9_treesOf 9 = .ok (.iload_n 1, 1) := by decide +kernel
theorem dX9_treesOf_10 : decode cX9_treesOf 10 = .ok (.invokevirtual 198, 3) := by decide +kernel
theorem dX9_treesOf_13 : decode cX9_treesOf 13 = .ok (.invokespecial 201, 3) := by decide +kernel
theorem dX9_treesOf_16 : decode cX9_treesOf 16 = .ok (.areturn, 1) := by decide +kernel
theorem dX9_choose_0 : decode cX9_choose 0 = .ok (.aload_n 0, 1) := by decide +kernel
theorem dX9_choose_1 : decode cX9_choose 1 = .ok (.aload_n 1, 1) := by decide +kernel
theorem dX9_choose_2 : decode cX9_choose 2 = .ok (.putfield 35, 3) := by decide +kernel
theorem dX9_choose_5 : decode cX9_choose 5 = .ok (.aload_n 1, 1) := by decide +kernel
theorem dX9_choose_6 : decode cX9_choose 6 = .ok (.lconst 0, 1) := by decide +kernel
theorem dX9_choose_7 : decode cX9_choose 7 = .ok (.aload_n 0, 1) := by decide +kernel
theorem dX9_choose_8 : decode cX9_choose 8 = .ok (.getfield 13, 3) := by decide +kernel
theorem dX9_choose_11 : decode cX9_choose 11 = .ok (.aload_n 0, 1) := by decide +kernel
theorem dX9_choose_12 : decode cX9_choose 12 = .ok (.getfield 19, 3) := by decide +kernel
theorem dX9_choose_15 : decode cX9_choose 15 = .ok (.invokevirtual 204, 3) := by decide +kernel
theorem dX9_choose_18 : decode cX9_choose 18 = .ok (.aload_n 0, 1) := by decide +kernel
theorem dX9_choose_19 : decode cX9_choose 19 = .ok (.invokevirtual 145, 3) := by decide +kernel
theorem dX9_choose_22 : decode cX9_choose 22 = .ok (.pop, 1) := by decide +kernel
theorem dX9_choose_23 : decode cX9_choose 23 = .ok (.aload_n 1, 1) := by decide +kernel
theorem dX9_choose_24 : decode cX9_choose 24 = .ok (.getfield 94, 3) := by decide +kernel
theorem dX9_choose_27 : decode cX9_choose 27 = .ok (.ireturn, 1) := by decide +kernel
theorem dX9_holdsObject_0 : decode cX9_holdsObject 0 = .ok (.aload_n 0, 1) := by decide +kernel
theorem dX9_holdsObject_1 : decode cX9_holdsObject 1 = .ok (.getfield 35, 3) := by decide +kernel
theorem dX9_holdsObject_4 : decode cX9_holdsObject 4 = .ok (.aload_n 0, 1) := by decide +kernel
theorem dX9_holdsObject_5 : decode cX9_holdsObject 5 = .ok (.getfield 9, 3) := by decide +kernel
theorem dX9_holdsObject_8 : decode cX9_holdsObject 8 = .ok (.aload_n 0, 1) := by decide +kernel
theorem dX9_holdsObject_9 : decode cX9_holdsObject 9 = .ok (.getfield 19, 3) := by decide +kernel
theorem dX9_holdsObject_12 : decode cX9_holdsObject 12 = .ok (.invokevirtual 141, 3) := by decide +kernel
theorem dX9_holdsObject_15 : decode cX9_holdsObject 15 = .ok (.ireturn, 1) := by decide +kernel
theorem dX9_layDown_0 : decode cX9_layDown 0 = .ok (.aload_n 0, 1) := by decide +kernel
theorem dX9_layDown_1 : decode cX9_layDown 1 = .ok (.getfield 35, 3) := by decide +kernel
theorem dX9_layDown_4 : decode cX9_layDown 4 = .ok (.lload_n 1, 1) := by decide +kernel
theorem dX9_layDown_5 : decode cX9_layDown 5 = .ok (.aload_n 0, 1) := by decide +kernel
theorem dX9_layDown_6 : decode cX9_layDown 6 = .ok (.getfield 13, 3) := by decide +kernel
theorem dX9_layDown_9 : decode cX9_layDown 9 = .ok (.aload_n 0, 1) := by decide +kernel
theorem dX9_layDown_10 : decode cX9_layDown 10 = .ok (.getfield 19, 3) := by decide +kernel
theorem dX9_layDown_13 : decode cX9_layDown 13 = .ok (.invokevirtual 204, 3) := by decide +kernel
theorem dX9_layDown_16 : decode cX9_layDown 16 = .ok (.aload_n 0, 1) := by decide +kernel
theorem dX9_layDown_17 : decode cX9_layDown 17 = .ok (.invokevirtual 145, 3) := by decide +kernel
theorem dX9_layDown_20 : decode cX9_layDown 20 = .ok (.ireturn, 1) := by decide +kernel
theorem dX9_takeDraft_0 : decode cX9_takeDraft 0 = .ok (.iconst 0, 1) := by decide +kernel
theorem dX9_takeDraft_1 : decode cX9_takeDraft 1 = .ok (.istore_n 1, 1) := by decide +kernel
theorem dX9_takeDraft_2 : decode cX9_takeDraft 2 = .ok (.iconst 0, 1) := by decide +kernel
theorem dX9_takeDraft_3 : decode cX9_takeDraft 3 = .ok (.istore_n 2, 1) := by decide +kernel
theorem dX9_takeDraft_4 : decode cX9_takeDraft 4 = .ok (.iload_n 2, 1) := by decide +kernel
theorem dX9_takeDraft_5 : decode cX9_takeDraft 5 = .ok (.aload_n 0, 1) := by decide +kernel
theorem dX9_takeDraft_6 : decode cX9_takeDraft 6 = .ok (.getfield 35, 3) := by decide +kernel
theorem dX9_takeDraft_9 : decode cX9_takeDraft 9 = .ok (.getfield 94, 3) := by decide +kernel
theorem dX9_takeDraft_12 : decode cX9_takeDraft 12 = .ok (.if_icmp .ge 41, 3) := by decide +kernel
theorem dX9_takeDraft_15 : decode cX9_takeDraft 15 = .ok (.aload_n 0, 1) := by decide +kernel
theorem dX9_takeDraft_16 : decode cX9_takeDraft 16 = .ok (.getfield 13, 3) := by decide +kernel
theorem dX9_takeDraft_19 : decode cX9_takeDraft 19 = .ok (.iload_n 2, 1) := by decide +kernel
theorem dX9_takeDraft_20 : decode cX9_takeDraft 20 = .ok (.invokestatic 101, 3) := by decide +kernel
theorem dX9_takeDraft_23 : decode cX9_takeDraft 23 = .ok (.istore_n 3, 1) := by decide +kernel
theorem dX9_takeDraft_24 : decode cX9_takeDraft 24 = .ok (.aload_n 0, 1) := by decide +kernel
theorem dX9_takeDraft_25 : decode cX9_takeDraft 25 = .ok (.getfield 9, 3) := by decide +kernel
theorem dX9_takeDraft_28 : decode cX9_takeDraft 28 = .ok (.iload_n 2, 1) := by decide +kernel
theorem dX9_takeDraft_29 : decode cX9_takeDraft 29 = .ok (.invokestatic 101, 3) := by decide +kernel
theorem dX9_takeDraft_32 : decode cX9_takeDraft 32 = .ok (.iload_n 3, 1) := by decide +kernel
theorem dX9_takeDraft_33 : decode cX9_takeDraft 33 = .ok (.if_icmp .eq 14, 3) := by decide +kernel
theorem dX9_takeDraft_36 : decode cX9_takeDraft 36 = .ok (.aload_n 0, 1) := by decide +kernel
theorem dX9_takeDraft_37 : decode cX9_takeDraft 37 = .ok (.getfield 9, 3) := by decide +kernel
theorem dX9_takeDraft_40 : decode cX9_takeDraft 40 = .ok (.iload_n 2, 1) := by decide +kernel
theorem dX9_takeDraft_41 : decode cX9_takeDraft 41 = .ok (.iload_n 3, 1) := by decide +kernel
theorem dX9_takeDraft_42 : decode cX9_takeDraft 42 = .ok (.invokestatic 105, 3) := by decide +kernel
theorem dX9_takeDraft_45 : decode cX9_takeDraft 45 = .ok (.iconst 1, 1) := by decide +kernel
theorem dX9_takeDraft_46 : decode cX9_takeDraft 46 = .ok (.istore_n 1, 1) := by decide +kernel
theorem dX9_takeDraft_47 : decode cX9_takeDraft 47 = .ok (.iinc 2 1, 3) := by decide +kernel
theorem dX9_takeDraft_50 : decode cX9_takeDraft 50 = .ok (.goto (-46), 3) := by decide +kernel
theorem dX9_takeDraft_53 : decode cX9_takeDraft 53 = .ok (.iload_n 1, 1) := by decide +kernel
theorem dX9_takeDraft_54 : decode cX9_takeDraft 54 = .ok (.ireturn, 1) := by decide +kernel
theorem dX9_at_0 : decode cX9_at 0 = .ok (.iload_n 1, 1) := by decide +kernel
theorem dX9_at_1 : decode cX9_at 1 = .ok (.ifCond .lt 15, 3) := by decide +kernel
theorem dX9_at_4 : decode cX9_at 4 = .ok (.iload_n 1, 1) := by decide +kernel
theorem dX9_at_5 : decode cX9_at 5 = .ok (.aload_n 0, 1) := by decide +kernel
theorem dX9_at_6 : decode cX9_at 6 = .ok (.arraylength, 1) := by decide +kernel
theorem dX9_at_7 : decode cX9_at 7 = .ok (.if_icmp .ge 9, 3) := by decide +kernel
theorem dX9_at_10 : decode cX9_at 10 = .ok (.aload_n 0, 1) := by decide +kernel
theorem dX9_at_11 : decode cX9_at 11 = .ok (.iload_n 1, 1) := by decide +kernel
theorem dX9_at_12 : decode cX9_at 12 = .ok (.iaload, 1) := by decide +kernel
theorem dX9_at_13 : decode cX9_at 13 = .ok (.goto 4, 3) := by decide +kernel
theorem dX9_at_16 : decode cX9_at 16 = .ok (.iconst 0, 1) := by decide +kernel
theorem dX9_at_17 : decode cX9_at 17 = .ok (.ireturn, 1) := by decide +kernel
theorem dX9_at__0 : decode cX9_at_ 0 = .ok (.iload_n 1, 1) := by decide +kernel
theorem dX9_at__1 : decode cX9_at_ 1 = .ok (.ifCond .lt 15, 3) := by decide +kernel
theorem dX9_at__4 : decode cX9_at_ 4 = .ok (.iload_n 1, 1) := by decide +kernel
theorem dX9_at__5 : decode cX9_at_ 5 = .ok (.aload_n 0, 1) := by decide +kernel
theorem dX9_at__6 : decode cX9_at_ 6 = .ok (.arraylength, 1) := by decide +kernel
theorem dX9_at__7 : decode cX9_at_ 7 = .ok (.if_icmp .ge 9, 3) := by decide +kernel
theorem dX9_at__10 : decode cX9_at_ 10 = .ok (.aload_n 0, 1) := by decide +kernel
theorem dX9_at__11 : decode cX9_at_ 11 = .ok (.iload_n 1, 1) := by decide +kernel
theorem dX9_at__12 : decode cX9_at_ 12 = .ok (.laload, 1) := by decide +kernel
theorem dX9_at__13 : decode cX9_at_ 13 = .ok (.goto 4, 3) := by decide +kernel
theorem dX9_at__16 : decode cX9_at_ 16 = .ok (.lconst 0, 1) := by decide +kernel
theorem dX9_at__17 : decode cX9_at_ 17 = .ok (.lreturn, 1) := by decide +kernel
theorem dX9_set_0 : decode cX9_set 0 = .ok (.iload_n 1, 1) := by decide +kernel
theorem dX9_set_1 : decode cX9_set 1 = .ok (.ifCond .lt 13, 3) := by decide +kernel
theorem dX9_set_4 : decode cX9_set 4 = .ok (.iload_n 1, 1) := by decide +kernel
theorem dX9_set_5 : decode cX9_set 5 = .ok (.aload_n 0, 1) := by decide +kernel
theorem dX9_set_6 : decode cX9_set 6 = .ok (.arraylength, 1) := by decide +kernel
theorem dX9_set_7 : decode cX9_set 7 = .ok (.if_icmp .ge 7, 3) := by decide +kernel
theorem dX9_set_10 : decode cX9_set 10 = .ok (.aload_n 0, 1) := by decide +kernel
theorem dX9_set_11 : decode cX9_set 11 = .ok (.iload_n 1, 1) := by decide +kernel
theorem dX9_set_12 : decode cX9_set 12 = .ok (.iload_n 2, 1) := by decide +kernel
theorem dX9_set_13 : decode cX9_set 13 = .ok (.iastore, 1) := by decide +kernel
theorem dX9_set_14 : decode cX9_set 14 = .ok (.return_, 1) := by decide +kernel
theorem dX9_set__0 : decode cX9_set_ 0 = .ok (.iload_n 1, 1) := by decide +kernel
theorem dX9_set__1 : decode cX9_set_ 1 = .ok (.ifCond .lt 13, 3) := by decide +kernel
theorem dX9_set__4 : decode cX9_set_ 4 = .ok (.iload_n 1, 1) := by decide +kernel
theorem dX9_set__5 : decode cX9_set_ 5 = .ok (.aload_n 0, 1) := by decide +kernel
theorem dX9_set__6 : decode cX9_set_ 6 = .ok (.arraylength, 1) := by decide +kernel
theorem dX9_set__7 : decode cX9_set_ 7 = .ok (.if_icmp .ge 7, 3) := by decide +kernel
theorem dX9_set__10 : decode cX9_set_ 10 = .ok (.aload_n 0, 1) := by decide +kernel
theorem dX9_set__11 : decode cX9_set_ 11 = .ok (.iload_n 1, 1) := by decide +kernel
theorem dX9_set__12 : decode cX9_set_ 12 = .ok (.lload_n 2, 1) := by decide +kernel
theorem dX9_set__13 : decode cX9_set_ 13 = .ok (.lastore, 1) := by decide +kernel
theorem dX9_set__14 : decode cX9_set_ 14 = .ok (.return_, 1) := by decide +kernel
theorem dX9_quotient_0 : decode cX9_quotient 0 = .ok (.lload_n 2, 1) := by decide +kernel
theorem dX9_quotient_1 : decode cX9_quotient 1 = .ok (.lconst 0, 1) := by decide +kernel
theorem dX9_quotient_2 : decode cX9_quotient 2 = .ok (.lcmp, 1) := by decide +kernel
theorem dX9_quotient_3 : decode cX9_quotient 3 = .ok (.ifCond .le 9, 3) := by decide +kernel
theorem dX9_quotient_6 : decode cX9_quotient 6 = .ok (.lload_n 0, 1) := by decide +kernel
theorem dX9_quotient_7 : decode cX9_quotient 7 = .ok (.lload_n 2, 1) := by decide +kernel
theorem dX9_quotient_8 : decode cX9_quotient 8 = .ok (.ldiv, 1) := by decide +kernel
theorem dX9_quotient_9 : decode cX9_quotient 9 = .ok (.goto 4, 3) := by decide +kernel
theorem dX9_quotient_12 : decode cX9_quotient 12 = .ok (.lconst 0, 1) := by decide +kernel
theorem dX9_quotient_13 : decode cX9_quotient 13 = .ok (.lreturn, 1) := by decide +kernel
theorem dX9_remainder_0 : decode cX9_remainder 0 = .ok (.lload_n 2, 1) := by decide +kernel
theorem dX9_remainder_1 : decode cX9_remainder 1 = .ok (.lconst 0, 1) := by decide +kernel
theorem dX9_remainder_2 : decode cX9_remainder 2 = .ok (.lcmp, 1) := by decide +kernel
theorem dX9_remainder_3 : decode cX9_remainder 3 = .ok (.ifCond .le 9, 3) := by decide +kernel
theorem dX9_remainder_6 : decode cX9_remainder 6 = .ok (.lload_n 0, 1) := by decide +kernel
theorem dX9_remainder_7 : decode cX9_remainder 7 = .ok (.lload_n 2, 1) := by decide +kernel
theorem dX9_remainder_8 : decode cX9_remainder 8 = .ok (.lrem, 1) := by decide +kernel
theorem dX9_remainder_9 : decode cX9_remainder 9 = .ok (.goto 4, 3) := by decide +kernel
theorem dX9_remainder_12 : decode cX9_remainder 12 = .ok (.lconst 0, 1) := by decide +kernel
theorem dX9_remainder_13 : decode cX9_remainder 13 = .ok (.lreturn, 1) := by decide +kernel
theorem dX10_init_0 : decode cX10_init 0 = .ok (.aload_n 0, 1) := by decide +kernel
theorem dX10_init_1 : decode cX10_init 1 = .ok (.invokespecial 1, 3) := by decide +kernel
theorem dX10_init_4 : decode cX10_init 4 = .ok (.aload_n 0, 1) := by decide +kernel
theorem dX10_init_5 : decode cX10_init 5 = .ok (.sipush 3721, 3) := by decide +kernel
theorem dX10_init_8 : decode cX10_init 8 = .ok (.newarray .long, 2) := by decide +kernel
theorem dX10_init_10 : decode cX10_init 10 = .ok (.putfield 7, 3) := by decide +kernel
theorem dX10_init_13 : decode cX10_init 13 = .ok (.aload_n 0, 1) := by decide +kernel
theorem dX10_init_14 : decode cX10_init 14 = .ok (.bipush 21, 2) := by decide +kernel
theorem dX10_init_16 : decode cX10_init 16 = .ok (.newarray .long, 2) := by decide +kernel
theorem dX10_init_18 : decode cX10_init 18 = .ok (.putfield 13, 3) := by decide +kernel
theorem dX10_init_21 : decode cX10_init 21 = .ok (.aload_n 0, 1) := by decide +kernel
theorem dX10_init_22 : decode cX10_init 22 = .ok (.bipush 31, 2) := by decide +kernel
theorem dX10_init_24 : decode cX10_init 24 = .ok (.newarray .long, 2) := by decide +kernel
theorem dX10_init_26 : decode cX10_init 26 = .ok (.putfield 16, 3) := by decide +kernel
theorem dX10_init_29 : decode cX10_init 29 = .ok (.aload_n 0, 1) := by decide +kernel
theorem dX10_init_30 : decode cX10_init 30 = .ok (.sipush 3721, 3) := by decide +kernel
theorem dX10_init_33 : decode cX10_init 33 = .ok (.newarray .long, 2) := by decide +kernel
theorem dX10_init_35 : decode cX10_init 35 = .ok (.putfield 19, 3) := by decide +kernel
theorem dX10_init_38 : decode cX10_init 38 = .ok (.aload_n 0, 1) := by decide +kernel
theorem dX10_init_39 : decode cX10_init 39 = .ok (.sipush 1722, 3) := by decide +kernel
theorem dX10_init_42 : decode cX10_init 42 = .ok (.newarray .long, 2) := by decide +kernel
theorem dX10_init_44 : decode cX10_init 44 = .ok (.putfield 22, 3) := by decide +kernel
theorem dX10_init_47 : decode cX10_init 47 = .ok (.aload_n 0, 1) := by decide +kernel
theorem dX10_init_48 : decode cX10_init 48 = .ok (.iconst 4, 1) := by decide +kernel
theorem dX10_init_49 : decode cX10_init 49 = .ok (.newarray .int, 2) := by decide +kernel
theorem dX10_init_51 : decode cX10_init 51 = .ok (.putfield 25, 3) := by decide +kernel
theorem dX10_init_54 : decode cX10_init 54 = .ok (.aload_n 0, 1) := by decide +kernel
theorem dX10_init_55 : decode cX10_init 55 = .ok (.bipush 60, 2) := by decide +kernel
theorem dX10_init_57 : decode cX10_init 57 = .ok (.newarray .int, 2) := by decide +kernel
theorem dX10_init_59 : decode cX10_init 59 = .ok (.putfield 29, 3) := by decide +kernel
theorem dX10_init_62 : decode cX10_init 62 = .ok (.aload_n 0, 1) := by decide +kernel
theorem dX10_init_63 : decode cX10_init 63 = .ok (.bipush 60, 2) := by decide +kernel
theorem dX10_init_65 : decode cX10_init 65 = .ok (.newarray .int, 2) := by decide +kernel
theorem dX10_init_67 : decode cX10_init 67 = .ok (.putfield 32, 3) := by decide +kernel
theorem dX10_init_70 : decode cX10_init 70 = .ok (.aload_n 0, 1) := by decide +kernel
theorem dX10_init_71 : decode cX10_init 71 = .ok (.bipush 64, 2) := by decide +kernel
theorem dX10_init_73 : decode cX10_init 73 = .ok (.newarray .int, 2) := by decide +kernel
theorem dX10_init_75 : decode cX10_init 75 = .ok (.putfield 35, 3) := by decide +kernel
theorem dX10_init_78 : decode cX10_init 78 = .ok (.aload_n 0, 1) := by decide +kernel
theorem dX10_init_79 : decode cX10_init 79 = .ok (.bipush 64, 2) := by decide +kernel
theorem dX10_init_81 : decode cX10_init 81 = .ok (.newarray .int, 2) := by decide +kernel
theorem dX10_init_83 : decode cX10_init 83 = .ok (.putfield 38, 3) := by decide +kernel
theorem dX10_init_86 : decode cX10_init 86 = .ok (.aload_n 0, 1) := by decide +kernel
theorem dX10_init_87 : decode cX10_init 87 = .ok (.bipush 64, 2) := by decide +kernel
theorem dX10_init_89 : decode cX10_init 89 = .ok (.newarray .long, 2) := by decide +kernel
theorem dX10_init_91 : decode cX10_init 91 = .ok (.putfield 41, 3) := by decide +kernel
theorem dX10_init_94 : decode cX10_init 94 = .ok (.aload_n 0, 1) := by decide +kernel
theorem dX10_init_95 : decode cX10_init 95 = .ok (.iconst 4, 1) := by decide +kernel
theorem dX10_init_96 : decode cX10_init 96 = .ok (.newarray .int, 2) := by decide +kernel
theorem dX10_init_98 : decode cX10_init 98 = .ok (.putfield 44, 3) := by decide +kernel
theorem dX10_init_101 : decode cX10_init 101 = .ok (.aload_n 0, 1) := by decide +kernel
theorem dX10_init_102 : decode cX10_init 102 = .ok (.bipush 10, 2) := by decide +kernel
theorem dX10_init_104 : decode cX10_init 104 = .ok (.newarray .int, 2) := by decide +kernel
theorem dX10_init_106 : decode cX10_init 106 = .ok (.putfield 47, 3) := by decide +kernel
theorem dX10_init_109 : decode cX10_init 109 = .ok (.aload_n 0, 1) := by decide +kernel
theorem dX10_init_110 : decode cX10_init 110 = .ok (.bipush 40, 2) := by decide +kernel
theorem dX10_init_112 : decode cX10_init 112 = .ok (.newarray .int, 2) := by decide +kernel
theorem dX10_init_114 : decode cX10_init 114 = .ok (.putfield 50, 3) := by decide +kernel
theorem dX10_init_117 : decode cX10_init 117 = .ok (.aload_n 0, 1) := by decide +kernel
theorem dX10_init_118 : decode cX10_init 118 = .ok (.bipush 10, 2) := by decide +kernel
theorem dX10_init_120 : decode cX10_init 120 = .ok (.newarray .long, 2) := by decide +kernel
theorem dX10_init_122 : decode cX10_init 122 = .ok (.putfield 53, 3) := by decide +kernel
theorem dX10_init_125 : decode cX10_init 125 = .ok (.iconst 0, 1) := by decide +kernel
theorem dX10_init_126 : decode cX10_init 126 = .ok (.istore_n 1, 1) := by decide +kernel
theorem dX10_init_127 : decode cX10_init 127 = .ok (.iload_n 1, 1) := by decide +kernel
theorem dX10_init_128 : decode cX10_init 128 = .ok (.bipush 61, 2) := by decide +kernel
theorem dX10_init_130 : decode cX10_init 130 = .ok (.if_icmp .ge 75, 3) := by decide +kernel
theorem dX10_init_133 : decode cX10_init 133 = .ok (.iconst 0, 1) := by decide +kernel
theorem dX10_init_134 : decode cX10_init 134 = .ok (.istore_n 2, 1) := by decide +kernel
theorem dX10_init_135 : decode cX10_init 135 = .ok (.iload_n 2, 1) := by decide +kernel
theorem dX10_init_136 : decode cX10_init 136 = .ok (.iload_n 1, 1) := by decide +kernel
theorem dX10_init_137 : decode cX10_init 137 = .ok (.if_icmp .gt 62, 3) := by decide +kernel
theorem dX10_init_140 : decode cX10_init 140 = .ok (.aload_n 0, 1) := by decide +kernel
theorem dX10_init_141 : decode cX10_init 141 = .ok (.getfield 7, 3) := by decide +kernel
theorem dX10_init_144 : decode cX10_init 144 = .ok (.bipush 61, 2) := by decide +kernel
theorem dX10_init_146 : decode cX10_init 146 = .ok (.iload_n 1, 1) := by decide +kernel
theorem dX10_init_147 : decode cX10_init 147 = .ok (.imul, 1) := by decide +kernel
theorem dX10_init_148 : decode cX10_init 148 = .ok (.iload_n 2, 1) := by decide +kernel
theorem dX10_init_149 : decode cX10_init 149 = .ok (.iadd, 1) := by decide +kernel
theorem dX10_init_150 : decode cX10_init 150 = .ok (.iload_n 2, 1) := by decide +kernel
theorem dX10_init_151 : decode cX10_init 151 = .ok (.ifCond .eq 8, 3) := by decide +kernel
theorem dX10_init_154 : decode cX10_init 154 = .ok (.iload_n 2, 1) := by decide +kernel
theorem dX10_init_155 : decode cX10_init 155 = .ok (.iload_n 1, 1) := by decide +kernel
theorem dX10_init_156 : decode cX10_init 156 = .ok (.if_icmp .ne 7, 3) := by decide +kernel
theorem dX10_init_159 : decode cX10_init 159 = .ok (.lconst 1, 1) := by decide +kernel
theorem dX10_init_160 : decode cX10_init 160 = .ok (.goto 32, 3) := by decide +kernel
theorem dX10_init_163 : decode cX10_init 163 = .ok (.aload_n 0, 1) := by decide +kernel
theorem dX10_init_164 : decode cX10_init 164 = .ok (.getfield 7, 3) := by decide +kernel
theorem dX10_init_167 : decode cX10_init 167 = .ok (.bipush 61, 2) := by decide +kernel
theorem dX10_init_169 : decode cX10_init 169 = .ok (.iload_n 1, 1) := by decide +kernel
theorem dX10_init_170 : decode cX10_init 170 = .ok (.iconst 1, 1) := by decide +kernel
theorem dX10_init_171 : decode cX10_init 171 = .ok (.isub, 1) := by decide +kernel
theorem dX10_init_172 : decode cX10_init 172 = .ok (.imul, 1) := by decide +kernel
theorem dX10_init_173 : decode cX10_init 173 = .ok (.iload_n 2, 1) := by decide +kernel
theorem dX10_init_174 : decode cX10_init 174 = .ok (.iadd, 1) := by decide +kernel
theorem dX10_init_175 : decode cX10_init 175 = .ok (.iconst 1, 1) := by decide +kernel
theorem dX10_init_176 : decode cX10_init 176 = .ok (.isub, 1) := by decide +kernel
theorem dX10_init_177 : decode cX10_init 177 = .ok (.laload, 1) := by decide +kernel
theorem dX10_init_178 : decode cX10_init 178 = .ok (.aload_n 0, 1) := by decide +kernel
theorem dX10_init_179 : decode cX10_init 179 = .ok (.getfield 7, 3) := by decide +kernel
theorem dX10_init_182 : decode cX10_init 182 = .ok (.bipush 61, 2) := by decide +kernel
theorem dX10_init_184 : decode cX10_init 184 = .ok (.iload_n 1, 1) := by decide +kernel
theorem dX10_init_185 : decode cX10_init 185 = .ok (.iconst 1, 1) := by decide +kernel
theorem dX10_init_186 : decode cX10_init 186 = .ok (.isub, 1) := by decide +kernel
theorem dX10_init_187 : decode cX10_init 187 = .ok (.imul, 1) := by decide +kernel
theorem dX10_init_188 : decode cX10_init 188 = .ok (.iload_n 2, 1) := by decide +kernel
theorem dX10_init_189 : decode cX10_init 189 = .ok (.iadd, 1) := by decide +kernel
theorem dX10_init_190 : decode cX10_init 190 = .ok (.laload, 1) := by decide +kernel
theorem dX10_init_191 : decode cX10_init 191 = .ok (.ladd, 1) := by decide +kernel
theorem dX10_init_192 : decode cX10_init 192 = .ok (.lastore, 1) := by decide +kernel
theorem dX10_init_193 : decode cX10_init 193 = .ok (.iinc 2 1, 3) := by decide +kernel
theorem dX10_init_196 : decode cX10_init 196 = .ok (.goto (-61), 3) := by decide +kernel
theorem dX10_init_199 : decode cX10_init 199 = .ok (.iinc 1 1, 3) := by decide +kernel
theorem dX10_init_202 : decode cX10_init 202 = .ok (.goto (-75), 3) := by decide +kernel
theorem dX10_init_205 : decode cX10_init 205 = .ok (.aload_n 0, 1) := by decide +kernel
theorem dX10_init_206 : decode cX10_init 206 = .ok (.getfield 13, 3) := by decide +kernel
theorem dX10_init_209 : decode cX10_init 209 = .ok (.iconst 0, 1) := by decide +kernel
theorem dX10_init_210 : decode cX10_init 210 = .ok (.lconst 1, 1) := by decide +kernel
theorem dX10_init_211 : decode cX10_init 211 = .ok (.lastore, 1) := by decide +kernel
theorem dX10_init_212 : decode cX10_init 212 = .ok (.iconst 1, 1) := by decide +kernel
theorem dX10_init_213 : decode cX10_init 213 = .ok (.istore_n 1, 1) := by decide +kernel
theorem dX10_init_214 : decode cX10_init 214 = .ok (.iload_n 1, 1) := by decide +kernel
theorem dX10_init_215 : decode cX10_init 215 = .ok (.bipush 21, 2) := by decide +kernel
theorem dX10_init_217 : decode cX10_init 217 = .ok (.if_icmp .ge 26, 3) := by decide +kernel
theorem dX10_init_220 : decode cX10_init 220 = .ok (.aload_n 0, 1) := by decide +kernel
theorem dX10_init_221 : decode cX10_init 221 = .ok (.getfield 13, 3) := by decide +kernel
theorem dX10_init_224 : decode cX10_init 224 = .ok (.iload_n 1, 1) := by decide +kernel
theorem dX10_init_225 : decode cX10_init 225 = .ok (.iload_n 1, 1) := by decide +kernel
theorem dX10_init_226 : decode cX10_init 226 = .ok (.i2l, 1) := by decide +kernel
theorem dX10_init_227 : decode cX10_init 227 = .ok (.aload_n 0, 1) := by decide +kernel
theorem dX10_init_228 : decode cX10_init 228 = .ok (.getfield 13, 3) := by decide +kernel
theorem dX10_init_231 : decode cX10_init 231 = .ok (.iload_n 1, 1) := by decide +kernel
theorem dX10_init_232 : decode cX10_init 232 = .ok (.iconst 1, 1) := by decide +kernel
theorem dX10_init_233 : decode cX10_init 233 = .ok (.isub, 1) := by decide +kernel
theorem dX10_init_234 : decode cX10_init 234 = .ok (.laload, 1) := by decide +kernel
theorem dX10_init_235 : decode cX10_init 235 = .ok (.lmul, 1) := by decide +kernel
theorem dX10_init_236 : decode cX10_init 236 = .ok (.lastore, 1) := by decide +kernel
theorem dX10_init_237 : decode cX10_init 237 = .ok (.iinc 1 1, 3) := by decide +kernel
theorem dX10_init_240 : decode cX10_init 240 = .ok (.goto (-26), 3) := by decide +kernel
theorem dX10_init_243 : decode cX10_init 243 = .ok (.iconst 0, 1) := by decide +kernel
theorem dX10_init_244 : decode cX10_init 244 = .ok (.istore_n 1, 1) := by decide +kernel
theorem dX10_init_245 : decode cX10_init 245 = .ok (.iload_n 1, 1) := by decide +kernel
theorem dX10_init_246 : decode cX10_init 246 = .ok (.bipush 31, 2) := by decide +kernel
theorem dX10_init_248 : decode cX10_init 248 = .ok (.if_icmp .ge 31, 3) := by decide +kernel
theorem dX10_init_251 : decode cX10_init 251 = .ok (.aload_n 0, 1) := by decide +kernel
theorem dX10_init_252 : decode cX10_init 252 = .ok (.getfield 16, 3) := by decide +kernel
theorem dX10_init_255 : decode cX10_init 255 = .ok (.iload_n 1, 1) := by decide +kernel
theorem dX10_init_256 : decode cX10_init 256 = .ok (.aload_n 0, 1) := by decide +kernel
theorem dX10_init_257 : decode cX10_init 257 = .ok (.getfield 7, 3) := by decide +kernel
theorem dX10_init_260 : decode cX10_init 260 = .ok (.bipush 122, 2) := by decide +kernel
theorem dX10_init_262 : decode cX10_init 262 = .ok (.iload_n 1, 1) := by decide +kernel
theorem dX10_init_263 : decode cX10_init 263 = .ok (.imul, 1) := by decide +kernel
theorem dX10_init_264 : decode cX10_init 264 = .ok (.iload_n 1, 1) := by decide +kernel
theorem dX10_init_265 : decode cX10_init 265 = .ok (.iadd, 1) := by decide +kernel
theorem dX10_init_266 : decode cX10_init 266 = .ok (.laload, 1) := by decide +kernel
theorem dX10_init_267 : decode cX10_init 267 = .ok (.iload_n 1, 1) := by decide +kernel
theorem dX10_init_268 : decode cX10_init 268 = .ok (.iconst 1, 1) := by decide +kernel
theorem dX10_init_269 : decode cX10_init 269 = .ok (.iadd, 1) := by decide +kernel
theorem dX10_init_270 : decode cX10_init 270 = .ok (.i2l, 1) := by decide +kernel
theorem dX10_init_271 : decode cX10_init 271 = .ok (.ldiv, 1) := by decide +kernel
theorem dX10_init_272 : decode cX10_init 272 = .ok (.lastore, 1) := by decide +kernel
theorem dX10_init_273 : decode cX10_init 273 = .ok (.iinc 1 1, 3) := by decide +kernel
theorem dX10_init_276 : decode cX10_init 276 = .ok (.goto (-31), 3) := by decide +kernel
theorem dX10_init_279 : decode cX10_init 279 = .ok (.aload_n 0, 1) := by decide +kernel
theorem dX10_init_280 : decode cX10_init 280 = .ok (.invokevirtual 56, 3) := by decide +kernel
theorem dX10_init_283 : decode cX10_init 283 = .ok (.aload_n 0, 1) := by decide +kernel
theorem dX10_init_284 : decode cX10_init 284 = .ok (.invokevirtual 59, 3) := by decide +kernel
theorem dX10_init_287 : decode cX10_init 287 = .ok (.return_, 1) := by decide +kernel
theorem dX10_within_0 : decode cX10_within 0 = .ok (.lload_n 0, 1) := by decide +kernel
theorem dX10_within_1 : decode cX10_within 1 = .ok (.lload_n 2, 1) := by decide +kernel
theorem dX10_within_2 : decode cX10_within 2 = .ok (.lcmp, 1) := by decide +kernel
theorem dX10_within_3 : decode cX10_within 3 = .ok (.ifCond .lt 14, 3) := by decide +kernel
theorem dX10_within_6 : decode cX10_within 6 = .ok (.lload_n 0, 1) := by decide +kernel
theorem dX10_within_7 : decode cX10_within 7 = .ok (.lload 4, 2) := by decide +kernel
theorem dX10_within_9 : decode cX10_within 9 = .ok (.lcmp, 1) := by decide +kernel
theorem dX10_within_10 : decode cX10_within 10 = .ok (.ifCond .gt 7, 3) := by decide +kernel
theorem dX10_within_13 : decode cX10_within 13 = .ok (.iconst 1, 1) := by decide +kernel
theorem dX10_within_14 : decode cX10_within 14 = .ok (.goto 4, 3) := by decide +kernel
theorem dX10_within_17 : decode cX10_within 17 = .ok (.iconst 0, 1) := by decide +kernel
theorem dX10_within_18 : decode cX10_within 18 = .ok (.ireturn, 1) := by decide +kernel
theorem dX10_layParted_0 : decode cX10_layParted 0 = .ok (.iconst 0, 1) := by decide +kernel
theorem dX10_layParted_1 : decode cX10_layParted 1 = .ok (.istore_n 1, 1) := by decide +kernel
theorem dX10_layParted_2 : decode cX10_layParted 2 = .ok (.iload_n 1, 1) := by decide +kernel
theorem dX10_layParted_3 : decode cX10_layParted 3 = .ok (.bipush 61, 2) := by decide +kernel
theorem dX10_layParted_5 : decode cX10_layParted 5 = .ok (.if_icmp .ge 90, 3) := by decide +kernel
theorem dX10_layParted_8 : decode cX10_layParted 8 = .ok (.iconst 0, 1) := by decide +kernel
theorem dX10_layParted_9 : decode cX10_layParted 9 = .ok (.istore_n 2, 1) := by decide +kernel
theorem dX10_layParted_10 : decode cX10_layParted 10 = .ok (.iload_n 2, 1) := by decide +kernel
theorem dX10_layParted_11 : decode cX10_layParted 11 = .ok (.bipush 61, 2) := by decide +kernel
theorem dX10_layParted_13 : decode cX10_layParted 13 = .ok (.if_icmp .ge 76, 3) := by decide +kernel
theorem dX10_layParted_16 : decode cX10_layParted 16 = .ok (.iload_n 2, 1) := by decide +kernel
theorem dX10_layParted_17 : decode cX10_layParted 17 = .ok (.ifCond .ne 7, 3) := by decide +kernel
theorem dX10_layParted_20 : decode cX10_layParted 20 = .ok (.lconst 1, 1) := by decide +kernel
theorem dX10_layParted_21 : decode cX10_layParted 21 = .ok (.goto 4, 3) := by decide +kernel
theorem dX10_layParted_24 : decode cX10_layParted 24 = .ok (.lconst 0, 1) := by decide +kernel
theorem dX10_layParted_25 : decode cX10_layParted 25 = .ok (.lstore_n 3, 1) := by decide +kernel
theorem dX10_layParted_26 : decode cX10_layParted 26 = .ok (.iload_n 1, 1) := by decide +kernel
theorem dX10_layParted_27 : decode cX10_layParted 27 = .ok (.ifCond .le 44, 3) := by decide +kernel
theorem dX10_layParted_30 : decode cX10_layParted 30 = .ok (.iload_n 2, 1) := by decide +kernel
theorem dX10_layParted_31 : decode cX10_layParted 31 = .ok (.ifCond .le 40, 3) := by decide +kernel
theorem dX10_layParted_34 : decode cX10_layParted 34 = .ok (.aload_n 0, 1) := by decide +kernel
theorem dX10_layParted_35 : decode cX10_layParted 35 = .ok (.getfield 19, 3) := by decide +kernel
theorem dX10_layParted_38 : decode cX10_layParted 38 = .ok (.bipush 61, 2) := by decide +kernel
theorem dX10_layParted_40 : decode cX10_layParted 40 = .ok (.iload_n 1, 1) := by decide +kernel
theorem dX10_layParted_41 : decode cX10_layParted 41 = .ok (.iconst 1, 1) := by decide +kernel
theorem dX10_layParted_42 : decode cX10_layParted 42 = .ok (.isub, 1) := by decide +kernel
theorem dX10_layParted_43 : decode cX10_layParted 43 = .ok (.imul, 1) := by decide +kernel
theorem dX10_layParted_44 : decode cX10_layParted 44 = .ok (.iload_n 2, 1) := by decide +kernel
theorem dX10_layParted_45 : decode cX10_layParted 45 = .ok (.iadd, 1) := by decide +kernel
theorem dX10_layParted_46 : decode cX10_layParted 46 = .ok (.laload, 1) := by decide +kernel
theorem dX10_layParted_47 : decode cX10_layParted 47 = .ok (.iload_n 2, 1) := by decide +kernel
theorem dX10_layParted_48 : decode cX10_layParted 48 = .ok (.iload_n 1, 1) := by decide +kernel
theorem dX10_layParted_49 : decode cX10_layParted 49 = .ok (.if_icmp .lt 19, 3) := by decide +kernel
theorem dX10_layParted_52 : decode cX10_layParted 52 = .ok (.aload_n 0, 1) := by decide +kernel
theorem dX10_layParted_53 : decode cX10_layParted 53 = .ok (.getfield 19, 3) := by decide +kernel
theorem dX10_layParted_56 : decode cX10_layParted 56 = .ok (.bipush 61, 2) := by decide +kernel
theorem dX10_layParted_58 : decode cX10_layParted 58 = .ok (.iload_n 1, 1) := by decide +kernel
theorem dX10_layParted_59 : decode cX10_layParted 59 = .ok (.imul, 1) := by decide +kernel
theorem dX10_layParted_60 : decode cX10_layParted 60 = .ok (.iload_n 2, 1) := by decide +kernel
theorem dX10_layParted_61 : decode cX10_layParted 61 = .ok (.iadd, 1) := by decide +kernel
theorem dX10_layParted_62 : decode cX10_layParted 62 = .ok (.iload_n 1, 1) := by decide +kernel
theorem dX10_layParted_63 : decode cX10_layParted 63 = .ok (.isub, 1) := by decide +kernel
theorem dX10_layParted_64 : decode cX10_layParted 64 = .ok (.laload, 1) := by decide +kernel
theorem dX10_layParted_65 : decode cX10_layParted 65 = .ok (.goto 4, 3) := by decide +kernel
theorem dX10_layParted_68 : decode cX10_layParted 68 = .ok (.lconst 0, 1) := by decide +kernel
theorem dX10_layParted_69 : decode cX10_layParted 69 = .ok (.ladd, 1) := by decide +kernel
theorem dX10_layParted_70 : decode cX10_layParted 70 = .ok (.lstore_n 3, 1) := by decide +kernel
theorem dX10_layParted_71 : decode cX10_layParted 71 = .ok (.aload_n 0, 1) := by decide +kernel
theorem dX10_layParted_72 : decode cX10_layParted 72 = .ok (.getfield 19, 3) := by decide +kernel
theorem dX10_layParted_75 : decode cX10_layParted 75 = .ok (.bipush 61, 2) := by decide +kernel
theorem dX10_layParted_77 : decode cX10_layParted 77 = .ok (.iload_n 1, 1) := by decide +kernel
theorem dX10_layParted_78 : decode cX10_layParted 78 = .ok (.imul, 1) := by decide +kernel
theorem dX10_layParted_79 : decode cX10_layParted 79 = .ok (.iload_n 2, 1) := by decide +kernel
theorem dX10_layParted_80 : decode cX10_layParted 80 = .ok (.iadd, 1) := by decide +kernel
theorem dX10_layParted_81 : decode cX10_layParted 81 = .ok (.lload_n 3, 1) := by decide +kernel
theorem dX10_layParted_82 : decode cX10_layParted 82 = .ok (.lastore, 1) := by decide +kernel
theorem dX10_layParted_83 : decode cX10_layParted 83 = .ok (.iinc 2 1, 3) := by decide +kernel
theorem dX10_layParted_86 : decode cX10_layParted 86 = .ok (.goto (-76), 3) := by decide +kernel
theorem dX10_layParted_89 : decode cX10_layParted 89 = .ok (.iinc 1 1, 3) := by decide +kernel
theorem dX10_layParted_92 : decode cX10_layParted 92 = .ok (.goto (-90), 3) := by decide +kernel
theorem dX10_layParted_95 : decode cX10_layParted 95 = .ok (.return_, 1) := by decide +kernel
theorem dX10_layClosed_0 : decode cX10_layClosed 0 = .ok (.iconst 0, 1) := by decide +kernel
theorem dX10_layClosed_1 : decode cX10_layClosed 1 = .ok (.istore_n 1, 1) := by decide +kernel
theorem dX10_layClosed_2 : decode cX10_layClosed 2 = .ok (.iload_n 1, 1) := by decide +kernel
theorem dX10_layClosed_3 : decode cX10_layClosed 3 = .ok (.bipush 41, 2) := by decide +kernel
theorem dX10_layClosed_5 : decode cX10_layClosed 5 = .ok (.if_icmp .ge 107, 3) := by decide +kernel
theorem dX10_layClosed_8 : decode cX10_layClosed 8 = .ok (.iconst 0, 1) := by decide +kernel
theorem dX10_layClosed_9 : decode cX10_layClosed 9 = .ok (.istore_n 2, 1) := by decide +kernel
theorem dX10_layClosed_10 : decode cX10_layClosed 10 = .ok (.iload_n 2, 1) := by decide +kernel
theorem dX10_layClosed_11 : decode cX10_layClosed 11 = .ok (.bipush 42, 2) := by decide +kernel
theorem dX10_layClosed_13 : decode cX10_layClosed 13 = .ok (.if_icmp .ge 93, 3) := by decide +kernel
theorem dX10_layClosed_16 : decode cX10_layClosed 16 = .ok (.iload_n 1, 1) := by decide +kernel
theorem dX10_layClosed_17 : decode cX10_layClosed 17 = .ok (.ifCond .ne 11, 3) := by decide +kernel
theorem dX10_layClosed_20 : decode cX10_layClosed 20 = .ok (.iload_n 2, 1) := by decide +kernel
theorem dX10_layClosed_21 : decode cX10_layClosed 21 = .ok (.ifCond .ne 7, 3) := by decide +kernel
theorem dX10_layClosed_24 : decode cX10_layClosed 24 = .ok (.lconst 1, 1) := by decide +kernel
theorem dX10_layClosed_25 : decode cX10_layClosed 25 = .ok (.goto 4, 3) := by decide +kernel
theorem dX10_layClosed_28 : decode cX10_layClosed 28 = .ok (.lconst 0, 1) := by decide +kernel
theorem dX10_layClosed_29 : decode cX10_layClosed 29 = .ok (.lstore_n 3, 1) := by decide +kernel
theorem dX10_layClosed_30 : decode cX10_layClosed 30 = .ok (.iload_n 1, 1) := by decide +kernel
theorem dX10_layClosed_31 : decode cX10_layClosed 31 = .ok (.ifCond .le 57, 3) := by decide +kernel
theorem dX10_layClosed_34 : decode cX10_layClosed 34 = .ok (.lload_n 3, 1) := by decide +kernel
theorem dX10_layClosed_35 : decode cX10_layClosed 35 = .ok (.iload_n 2, 1) := by decide +kernel
theorem dX10_layClosed_36 : decode cX10_layClosed 36 = .ok (.bipush 41, 2) := by decide +kernel
theorem dX10_layClosed_38 : decode cX10_layClosed 38 = .ok (.if_icmp .ge 21, 3) := by decide +kernel
theorem dX10_layClosed_41 : decode cX10_layClosed 41 = .ok (.aload_n 0, 1) := by decide +kernel
theorem dX10_layClosed_42 : decode cX10_layClosed 42 = .ok (.getfield 22, 3) := by decide +kernel
theorem dX10_layClosed_45 : decode cX10_layClosed 45 = .ok (.bipush 42, 2) := by decide +kernel
theorem dX10_layClosed_47 : decode cX10_layClosed 47 = .ok (.iload_n 1, 1) := by decide +kernel
theorem dX10_layClosed_48 : decode cX10_layClosed 48 = .ok (.iconst 1, 1) := by decide +kernel
theorem dX10_layClosed_49 : decode cX10_layClosed 49 = .ok (.isub, 1) := by decide +kernel
theorem dX10_layClosed_50 : decode cX10_layClosed 50 = .ok (.imul, 1) := by decide +kernel
theorem dX10_layClosed_51 : decode cX10_layClosed 51 = .ok (.iload_n 2, 1) := by decide +kernel
theorem dX10_layClosed_52 : decode cX10_layClosed 52 = .ok (.iadd, 1) := by decide +kernel
theorem dX10_layClosed_53 : decode cX10_layClosed 53 = .ok (.iconst 1, 1) := by decide +kernel
theorem dX10_layClosed_54 : decode cX10_layClosed 54 = .ok (.iadd, 1) := by decide +kernel
theorem dX10_layClosed_55 : decode cX10_layClosed 55 = .ok (.laload, 1) := by decide +kernel
theorem dX10_layClosed_56 : decode cX10_layClosed 56 = .ok (.goto 4, 3) := by decide +kernel
theorem dX10_layClosed_59 : decode cX10_layClosed 59 = .ok (.lconst 0, 1) := by decide +kernel
theorem dX10_layClosed_60 : decode cX10_layClosed 60 = .ok (.ladd, 1) := by decide +kernel
theorem dX10_layClosed_61 : decode cX10_layClosed 61 = .ok (.lstore_n 3, 1) := by decide +kernel
theorem dX10_layClosed_62 : decode cX10_layClosed 62 = .ok (.lload_n 3, 1) := by decide +kernel
theorem dX10_layClosed_63 : decode cX10_layClosed 63 = .ok (.iload_n 2, 1) := by decide +kernel
theorem dX10_layClosed_64 : decode cX10_layClosed 64 = .ok (.ifCond .le 21, 3) := by decide +kernel
theorem dX10_layClosed_67 : decode cX10_layClosed 67 = .ok (.aload_n 0, 1) := by decide +kernel
theorem dX10_layClosed_68 : decode cX10_layClosed 68 = .ok (.getfield 22, 3) := by decide +kernel
theorem dX10_layClosed_71 : decode cX10_layClosed 71 = .ok (.bipush 42, 2) := by decide +kernel
theorem dX10_layClosed_73 : decode cX10_layClosed 73 = .ok (.iload_n 1, 1) := by decide +kernel
theorem dX10_layClosed_74 : decode cX10_layClosed 74 = .ok (.iconst 1, 1) := by decide +kernel
theorem dX10_layClosed_75 : decode cX10_layClosed 75 = .ok (.isub, 1) := by decide +kernel
theorem dX10_layClosed_76 : decode cX10_layClosed 76 = .ok (.imul, 1) := by decide +kernel
theorem dX10_layClosed_77 : decode cX10_layClosed 77 = .ok (.iload_n 2, 1) := by decide +kernel
theorem dX10_layClosed_78 : decode cX10_layClosed 78 = .ok (.iadd, 1) := by decide +kernel
theorem dX10_layClosed_79 : decode cX10_layClosed 79 = .ok (.iconst 1, 1) := by decide +kernel
theorem dX10_layClosed_80 : decode cX10_layClosed 80 = .ok (.isub, 1) := by decide +kernel
theorem dX10_layClosed_81 : decode cX10_layClosed 81 = .ok (.laload, 1) := by decide +kernel
theorem dX10_layClosed_82 : decode cX10_layClosed 82 = .ok (.goto 4, 3) := by decide +kernel
theorem dX10_layClosed_85 : decode cX10_layClosed 85 = .ok (.lconst 0, 1) := by decide +kernel
theorem dX10_layClosed_86 : decode cX10_layClosed 86 = .ok (.ladd, 1) := by decide +kernel
theorem dX10_layClosed_87 : decode cX10_layClosed 87 = .ok (.lstore_n 3, 1) := by decide +kernel
theorem dX10_layClosed_88 : decode cX10_layClosed 88 = .ok (.aload_n 0, 1) := by decide +kernel
theorem dX10_layClosed_89 : decode cX10_layClosed 89 = .ok (.getfield 22, 3) := by decide +kernel
theorem dX10_layClosed_92 : decode cX10_layClosed 92 = .ok (.bipush 42, 2) := by decide +kernel
theorem dX10_layClosed_94 : decode cX10_layClosed 94 = .ok (.iload_n 1, 1) := by decide +kernel
theorem dX10_layClosed_95 : decode cX10_layClosed 95 = .ok (.imul, 1) := by decide +kernel
theorem dX10_layClosed_96 : decode cX10_layClosed 96 = .ok (.iload_n 2, 1) := by decide +kernel
theorem dX10_layClosed_97 : decode cX10_layClosed 97 = .ok (.iadd, 1) := by decide +kernel
theorem dX10_layClosed_98 : decode cX10_layClosed 98 = .ok (.lload_n 3, 1) := by decide +kernel
theorem dX10_layClosed_99 : decode cX10_layClosed 99 = .ok (.lastore, 1) := by decide +kernel
theorem dX10_layClosed_100 : decode cX10_layClosed 100 = .ok (.iinc 2 1, 3) := by decide +kernel
theorem dX10_layClosed_103 : decode cX10_layClosed 103 = .ok (.goto (-93), 3) := by decide +kernel
theorem dX10_layClosed_106 : decode cX10_layClosed 106 = .ok (.iinc 1 1, 3) := by decide +kernel
theorem dX10_layClosed_109 : decode cX10_layClosed 109 = .ok (.goto (-107), 3) := by decide +kernel
theorem dX10_layClosed_112 : decode cX10_layClosed 112 = .ok (.return_, 1) := by decide +kernel
theorem dX10_choose_0 : decode cX10_choose 0 = .ok (.iload_n 2, 1) := by decide +kernel
theorem dX10_choose_1 : decode cX10_choose 1 = .ok (.ifCond .lt 8, 3) := by decide +kernel
theorem dX10_choose_4 : decode cX10_choose 4 = .ok (.iload_n 2, 1) := by decide +kernel
theorem dX10_choose_5 : decode cX10_choose 5 = .ok (.iload_n 1, 1) := by decide +kernel
theorem dX10_choose_6 : decode cX10_choose 6 = .ok (.if_icmp .le 7, 3) := by decide +kernel
theorem dX10_choose_9 : decode cX10_choose 9 = .ok (.lconst 0, 1) := by decide +kernel
theorem dX10_choose_10 : decode cX10_choose 10 = .ok (.goto 14, 3) := by decide +kernel
theorem dX10_choose_13 : decode cX10_choose 13 = .ok (.aload_n 0, 1) := by decide +kernel
theorem dX10_choose_14 : decode cX10_choose 14 = .ok (.getfield 7, 3) := by decide +kernel
theorem dX10_choose_17 : decode cX10_choose 17 = .ok (.bipush 61, 2) := by decide +kernel
theorem dX10_choose_19 : decode cX10_choose 19 = .ok (.iload_n 1, 1) := by decide +kernel
theorem dX10_choose_20 : decode cX10_choose 20 = .ok (.imul, 1) := by decide +kernel
theorem dX10_choose_21 : decode cX10_choose 21 = .ok (.iload_n 2, 1) := by decide +kernel
theorem dX10_choose_22 : decode cX10_choose 22 = .ok (.iadd, 1) := by decide +kernel
theorem dX10_choose_23 : decode cX10_choose 23 = .ok (.laload, 1) := by decide +kernel
theorem dX10_choose_24 : decode cX10_choose 24 = .ok (.lreturn, 1) := by decide +kernel
theorem dX10_waysOn_0 : decode cX10_waysOn 0 = .ok (.iload_n 2, 1) := by decide +kernel
theorem dX10_waysOn_1 : decode cX10_waysOn 1 = .ok (.iload_n 1, 1) := by decide +kernel
theorem dX10_waysOn_2 : decode cX10_waysOn 2 = .ok (.if_icmp .le 5, 3) := by decide +kernel
theorem dX10_waysOn_5 : decode cX10_waysOn 5 = .ok (.lconst 0, 1) := by decide +kernel
theorem dX10_waysOn_6 : decode cX10_waysOn 6 = .ok (.lreturn, 1) := by decide +kernel
theorem dX10_waysOn_7 : decode cX10_waysOn 7 = .ok (.aload_n 0, 1) := by decide +kernel
theorem dX10_waysOn_8 : decode cX10_waysOn 8 = .ok (.getfield 22, 3) := by decide +kernel
theorem dX10_waysOn_11 : decode cX10_waysOn 11 = .ok (.bipush 42, 2) := by decide +kernel
theorem dX10_waysOn_13 : decode cX10_waysOn 13 = .ok (.iload_n 1, 1) := by decide +kernel
theorem dX10_waysOn_14 : decode cX10_waysOn 14 = .ok (.imul, 1) := by decide +kernel
theorem dX10_waysOn_15 : decode cX10_waysOn 15 = .ok (.iload_n 2, 1) := by decide +kernel
theorem dX10_waysOn_16 : decode cX10_waysOn 16 = .ok (.iadd, 1) := by decide +kernel
theorem dX10_waysOn_17 : decode cX10_waysOn 17 = .ok (.laload, 1) := by decide +kernel
theorem dX10_waysOn_18 : decode cX10_waysOn 18 = .ok (.lstore 4, 2) := by decide +kernel
theorem dX10_waysOn_20 : decode cX10_waysOn 20 = .ok (.iload_n 3, 1) := by decide +kernel
theorem dX10_waysOn_21 : decode cX10_waysOn 21 = .ok (.iconst 2, 1) := by decide +kernel
theorem dX10_waysOn_22 : decode cX10_waysOn 22 = .ok (.if_icmp .ne 14, 3) := by decide +kernel
theorem dX10_waysOn_25 : decode cX10_waysOn 25 = .ok (.lload 4, 2) := by decide +kernel
theorem dX10_waysOn_27 : decode cX10_waysOn 27 = .ok (.iload_n 1, 1) := by decide +kernel
theorem dX10_waysOn_28 : decode cX10_waysOn 28 = .ok (.iload_n 2, 1) := by decide +kernel
theorem dX10_waysOn_29 : decode cX10_waysOn 29 = .ok (.isub, 1) := by decide +kernel
theorem dX10_waysOn_30 : decode cX10_waysOn 30 = .ok (.iconst 2, 1) := by decide +kernel
theorem dX10_waysOn_31 : decode cX10_waysOn 31 = .ok (.idiv, 1) := by decide +kernel
theorem dX10_waysOn_32 : decode cX10_waysOn 32 = .ok (.lshl, 1) := by decide +kernel
theorem dX10_waysOn_33 : decode cX10_waysOn 33 = .ok (.goto 5, 3) := by decide +kernel
theorem dX10_waysOn_36 : decode cX10_waysOn 36 = .ok (.lload 4, 2) := by decide +kernel
theorem dX10_waysOn_38 : decode cX10_waysOn 38 = .ok (.lreturn, 1) := by decide +kernel
theorem dX10_arranged_0 : decode cX10_arranged 0 = .ok (.aload_n 0, 1) := by decide +kernel
theorem dX10_arranged_1 : decode cX10_arranged 1 = .ok (.iload_n 1, 1) := by decide +kernel
theorem dX10_arranged_2 : decode cX10_arranged 2 = .ok (.iload_n 2, 1) := by decide +kernel
theorem dX10_arranged_3 : decode cX10_arranged 3 = .ok (.iadd, 1) := by decide +kernel
theorem dX10_arranged_4 : decode cX10_arranged 4 = .ok (.iload_n 3, 1) := by decide +kernel
theorem dX10_arranged_5 : decode cX10_arranged 5 = .ok (.iadd, 1) := by decide +kernel
theorem dX10_arranged_6 : decode cX10_arranged 6 = .ok (.iload 4, 2) := by decide +kernel
theorem dX10_arranged_8 : decode cX10_arranged 8 = .ok (.iadd, 1) := by decide +kernel
theorem dX10_arranged_9 : decode cX10_arranged 9 = .ok (.iload_n 1, 1) := by decide +kernel
theorem dX10_arranged_10 : decode cX10_arranged 10 = .ok (.invokevirtual 62, 3) := by decide +kernel
theorem dX10_arranged_13 : decode cX10_arranged 13 = .ok (.aload_n 0, 1) := by decide +kernel
theorem dX10_arranged_14 : decode cX10_arranged 14 = .ok (.iload_n 2, 1) := by decide +kernel
theorem dX10_arranged_15 : decode cX10_arranged 15 = .ok (.iload_n 3, 1) := by decide +kernel
theorem dX10_arranged_16 : decode cX10_arranged 16 = .ok (.iadd, 1) := by decide +kernel
theorem dX10_arranged_17 : decode cX10_arranged 17 = .ok (.iload 4, 2) := by decide +kernel
theorem dX10_arranged_19 : decode cX10_arranged 19 = .ok (.iadd, 1) := by decide +kernel
theorem dX10_arranged_20 : decode cX10_arranged 20 = .ok (.iload_n 2, 1) := by decide +kernel
theorem dX10_arranged_21 : decode cX10_arranged 21 = .ok (.invokevirtual 62, 3) := by decide +kernel
theorem dX10_arranged_24 : decode cX10_arranged 24 = .ok (.lmul, 1) := by decide +kernel
theorem dX10_arranged_25 : decode cX10_arranged 25 = .ok (.aload_n 0, 1) := by decide +kernel
theorem dX10_arranged_26 : decode cX10_arranged 26 = .ok (.iload_n 3, 1) := by decide +kernel
theorem dX10_arranged_27 : decode cX10_arranged 27 = .ok (.iload 4, 2) := by decide +kernel
theorem dX10_arranged_29 : decode cX10_arranged 29 = .ok (.iadd, 1) := by decide +kernel
theorem dX10_arranged_30 : decode cX10_arranged 30 = .ok (.iload_n 3, 1) := by decide +kernel
theorem dX10_arranged_31 : decode cX10_arranged 31 = .ok (.invokevirtual 62, 3) := by decide +kernel
theorem dX10_arranged_34 : decode cX10_arranged 34 = .ok (.lmul, 1) := by decide +kernel
theorem dX10_arranged_35 : decode cX10_arranged 35 = .ok (.lreturn, 1) := by decide +kernel
theorem dX10_countOf_0 : decode cX10_countOf 0 = .ok (.iload_n 1, 1) := by decide +kernel
theorem dX10_countOf_1 : decode cX10_countOf 1 = .ok (.tableswitch 78 0 4 #[35, 42, 49, 59, 66], 35) := by decide +kernel
theorem dX10_countOf_36 : decode cX10_countOf 36 = .ok (.aload_n 0, 1) := by decide +kernel
theorem dX10_countOf_37 : decode cX10_countOf 37 = .ok (.iload_n 2, 1) := by decide +kernel
theorem dX10_countOf_38 : decode cX10_countOf 38 = .ok (.iload_n 3, 1) := by decide +kernel
theorem dX10_countOf_39 : decode cX10_countOf 39 = .ok (.invokevirtual 62, 3) := by decide +kernel
theorem dX10_countOf_42 : decode cX10_countOf 42 = .ok (.lreturn, 1) := by decide +kernel
theorem dX10_countOf_43 : decode cX10_countOf 43 = .ok (.aload_n 0, 1) := by decide +kernel
theorem dX10_countOf_44 : decode cX10_countOf 44 = .ok (.getfield 13, 3) := by decide +kernel
theorem dX10_countOf_47 : decode cX10_countOf 47 = .ok (.iload_n 2, 1) := by decide +kernel
theorem dX10_countOf_48 : decode cX10_countOf 48 = .ok (.laload, 1) := by decide +kernel
theorem dX10_countOf_49 : decode cX10_countOf 49 = .ok (.lreturn, 1) := by decide +kernel
theorem dX10_countOf_50 : decode cX10_countOf 50 = .ok (.aload_n 0, 1) := by decide +kernel
theorem dX10_countOf_51 : decode cX10_countOf 51 = .ok (.iconst 2, 1) := by decide +kernel
theorem dX10_countOf_52 : decode cX10_countOf 52 = .ok (.iload_n 2, 1) := by decide +kernel
theorem dX10_countOf_53 : decode cX10_countOf 53 = .ok (.imul, 1) := by decide +kernel
theorem dX10_countOf_54 : decode cX10_countOf 54 = .ok (.iconst 0, 1) := by decide +kernel
theorem dX10_countOf_55 : decode cX10_countOf 55 = .ok (.iload_n 3, 1) := by decide +kernel
theorem dX10_countOf_56 : decode cX10_countOf 56 = .ok (.invokevirtual 66, 3) := by decide +kernel
theorem dX10_countOf_59 : decode cX10_countOf 59 = .ok (.lreturn, 1) := by decide +kernel
theorem dX10_countOf_60 : decode cX10_countOf 60 = .ok (.aload_n 0, 1) := by decide +kernel
theorem dX10_countOf_61 : decode cX10_countOf 61 = .ok (.getfield 16, 3) := by decide +kernel
theorem dX10_countOf_64 : decode cX10_countOf 64 = .ok (.iload_n 2, 1) := by decide +kernel
theorem dX10_countOf_65 : decode cX10_countOf 65 = .ok (.laload, 1) := by decide +kernel
theorem dX10_countOf_66 : decode cX10_countOf 66 = .ok (.lreturn, 1) := by decide +kernel
theorem dX10_countOf_67 : decode cX10_countOf 67 = .ok (.aload_n 0, 1) := by decide +kernel
theorem dX10_countOf_68 : decode cX10_countOf 68 = .ok (.getfield 19, 3) := by decide +kernel
theorem dX10_countOf_71 : decode cX10_countOf 71 = .ok (.bipush 61, 2) := by decide +kernel
theorem dX10_countOf_73 : decode cX10_countOf 73 = .ok (.iload_n 3, 1) := by decide +kernel
theorem dX10_countOf_74 : decode cX10_countOf 74 = .ok (.imul, 1) := by decide +kernel
theorem dX10_countOf_75 : decode cX10_countOf 75 = .ok (.iload_n 2, 1) := by decide +kernel
theorem dX10_countOf_76 : decode cX10_countOf 76 = .ok (.iadd, 1) := by decide +kernel
theorem dX10_countOf_77 : decode cX10_countOf 77 = .ok (.laload, 1) := by decide +kernel
theorem dX10_countOf_78 : decode cX10_countOf 78 = .ok (.lreturn, 1) := by decide +kernel
theorem dX10_countOf_79 : decode cX10_countOf 79 = .ok (.aload_n 0, 1) := by decide +kernel
theorem dX10_countOf_80 : decode cX10_countOf 80 = .ok (.iload_n 2, 1) := by decide +kernel
theorem dX10_countOf_81 : decode cX10_countOf 81 = .ok (.iload_n 3, 1) := by decide +kernel
theorem dX10_countOf_82 : decode cX10_countOf 82 = .ok (.iload 4, 2) := by decide +kernel
theorem dX10_countOf_84 : decode cX10_countOf 84 = .ok (.iload 5, 2) := by decide +kernel
theorem dX10_countOf_86 : decode cX10_countOf 86 = .ok (.invokevirtual 70, 3) := by decide +kernel
theorem dX10_countOf_89 : decode cX10_countOf 89 = .ok (.lreturn, 1) := by decide +kernel
theorem dX10_longNow_0 : decode cX10_longNow 0 = .ok (.aload_n 0, 1) := by decide +kernel
theorem dX10_longNow_1 : decode cX10_longNow 1 = .ok (.getfield 74, 3) := by decide +kernel
theorem dX10_longNow_4 : decode cX10_longNow 4 = .ok (.ifCond .ne 12, 3) := by decide +kernel
theorem dX10_longNow_7 : decode cX10_longNow 7 = .ok (.aload_n 0, 1) := by decide +kernel
theorem dX10_longNow_8 : decode cX10_longNow 8 = .ok (.getfield 25, 3) := by decide +kernel
theorem dX10_longNow_11 : decode cX10_longNow 11 = .ok (.iconst 1, 1) := by decide +kernel
theorem dX10_longNow_12 : decode cX10_longNow 12 = .ok (.iaload, 1) := by decide +kernel
theorem dX10_longNow_13 : decode cX10_longNow 13 = .ok (.goto 66, 3) := by decide +kernel
theorem dX10_longNow_16 : decode cX10_longNow 16 = .ok (.aload_n 0, 1) := by decide +kernel
theorem dX10_longNow_17 : decode cX10_longNow 17 = .ok (.getfield 74, 3) := by decide +kernel
theorem dX10_longNow_20 : decode cX10_longNow 20 = .ok (.iconst 2, 1) := by decide +kernel
theorem dX10_longNow_21 : decode cX10_longNow 21 = .ok (.if_icmp .ne 14, 3) := by decide +kernel
theorem dX10_longNow_24 : decode cX10_longNow 24 = .ok (.iconst 2, 1) := by decide +kernel
theorem dX10_longNow_25 : decode cX10_longNow 25 = .ok (.aload_n 0, 1) := by decide +kernel
theorem dX10_longNow_26 : decode cX10_longNow 26 = .ok (.getfield 25, 3) := by decide +kernel
theorem dX10_longNow_29 : decode cX10_longNow 29 = .ok (.iconst 0, 1) := by decide +kernel
theorem dX10_longNow_30 : decode cX10_longNow 30 = .ok (.iaload, 1) := by decide +kernel
theorem dX10_longNow_31 : decode cX10_longNow 31 = .ok (.imul, 1) := by decide +kernel
theorem dX10_longNow_32 : decode cX10_longNow 32 = .ok (.goto 47, 3) := by decide +kernel
theorem dX10_longNow_35 : decode cX10_longNow 35 = .ok (.aload_n 0, 1) := by decide +kernel
theorem dX10_longNow_36 : decode cX10_longNow 36 = .ok (.getfield 74, 3) := by decide +kernel
theorem dX10_longNow_39 : decode cX10_longNow 39 = .ok (.iconst 5, 1) := by decide +kernel
theorem dX10_longNow_40 : decode cX10_longNow 40 = .ok (.if_icmp .ne 33, 3) := by decide +kernel
theorem dX10_longNow_43 : decode cX10_longNow 43 = .ok (.aload_n 0, 1) := by decide +kernel
