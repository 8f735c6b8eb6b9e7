theorem dX10_makesTree_164 : decode cX10_makesTree 164 = .ok (.iload_n 3, 1) := by decide +kernel
theorem dX10_makesTree_165 : decode cX10_makesTree 165 = .ok (.lload 6, 2) := by decide +kernel
theorem dX10_makesTree_167 : decode cX10_makesTree 167 = .ok (.lload 9, 2) := by decide +kernel
theorem dX10_makesTree_169 : decode cX10_makesTree 169 = .ok (.lrem, 1) := by decide +kernel
theorem dX10_makesTree_170 : decode cX10_makesTree 170 = .ok (.lastore, 1) := by decide +kernel
theorem dX10_makesTree_171 : decode cX10_makesTree 171 = .ok (.iinc 3 1, 3) := by decide +kernel
theorem dX10_makesTree_174 : decode cX10_makesTree 174 = .ok (.iload 8, 2) := by decide +kernel
theorem dX10_makesTree_176 : decode cX10_makesTree 176 = .ok (.ifCond .le 25, 3) := by decide +kernel
theorem dX10_makesTree_179 : decode cX10_makesTree 179 = .ok (.aload_n 0, 1) := by decide +kernel
theorem dX10_makesTree_180 : decode cX10_makesTree 180 = .ok (.getfield 35, 3) := by decide +kernel
theorem dX10_makesTree_183 : decode cX10_makesTree 183 = .ok (.iload_n 3, 1) := by decide +kernel
theorem dX10_makesTree_184 : decode cX10_makesTree 184 = .ok (.iload 8, 2) := by decide +kernel
theorem dX10_makesTree_186 : decode cX10_makesTree 186 = .ok (.iastore, 1) := by decide +kernel
theorem dX10_makesTree_187 : decode cX10_makesTree 187 = .ok (.aload_n 0, 1) := by decide +kernel
theorem dX10_makesTree_188 : decode cX10_makesTree 188 = .ok (.getfield 41, 3) := by decide +kernel
theorem dX10_makesTree_191 : decode cX10_makesTree 191 = .ok (.iload_n 3, 1) := by decide +kernel
theorem dX10_makesTree_192 : decode cX10_makesTree 192 = .ok (.lload 6, 2) := by decide +kernel
theorem dX10_makesTree_194 : decode cX10_makesTree 194 = .ok (.lload 9, 2) := by decide +kernel
theorem dX10_makesTree_196 : decode cX10_makesTree 196 = .ok (.ldiv, 1) := by decide +kernel
theorem dX10_makesTree_197 : decode cX10_makesTree 197 = .ok (.lastore, 1) := by decide +kernel
theorem dX10_makesTree_198 : decode cX10_makesTree 198 = .ok (.iinc 3 1, 3) := by decide +kernel
theorem dX10_makesTree_201 : decode cX10_makesTree 201 = .ok (.iinc 4 1, 3) := by decide +kernel
theorem dX10_makesTree_204 : decode cX10_makesTree 204 = .ok (.goto (-180), 3) := by decide +kernel
theorem dX10_makesTree_207 : decode cX10_makesTree 207 = .ok (.return_, 1) := by decide +kernel
theorem dX10_makesPartition_0 : decode cX10_makesPartition 0 = .ok (.lload_n 1, 1) := by decide +kernel
theorem dX10_makesPartition_1 : decode cX10_makesPartition 1 = .ok (.lstore_n 3, 1) := by decide +kernel
theorem dX10_makesPartition_2 : decode cX10_makesPartition 2 = .ok (.aload_n 0, 1) := by decide +kernel
theorem dX10_makesPartition_3 : decode cX10_makesPartition 3 = .ok (.getfield 25, 3) := by decide +kernel
theorem dX10_makesPartition_6 : decode cX10_makesPartition 6 = .ok (.iconst 0, 1) := by decide +kernel
theorem dX10_makesPartition_7 : decode cX10_makesPartition 7 = .ok (.iaload, 1) := by decide +kernel
theorem dX10_makesPartition_8 : decode cX10_makesPartition 8 = .ok (.istore 5, 2) := by decide +kernel
theorem dX10_makesPartition_10 : decode cX10_makesPartition 10 = .ok (.iconst 0, 1) := by decide +kernel
theorem dX10_makesPartition_11 : decode cX10_makesPartition 11 = .ok (.istore 6, 2) := by decide +kernel
theorem dX10_makesPartition_13 : decode cX10_makesPartition 13 = .ok (.iload 6, 2) := by decide +kernel
theorem dX10_makesPartition_15 : decode cX10_makesPartition 15 = .ok (.aload_n 0, 1) := by decide +kernel
theorem dX10_makesPartition_16 : decode cX10_makesPartition 16 = .ok (.getfield 25, 3) := by decide +kernel
theorem dX10_makesPartition_19 : decode cX10_makesPartition 19 = .ok (.iconst 0, 1) := by decide +kernel
theorem dX10_makesPartition_20 : decode cX10_makesPartition 20 = .ok (.iaload, 1) := by decide +kernel
theorem dX10_makesPartition_21 : decode cX10_makesPartition 21 = .ok (.if_icmp .ge 74, 3) := by decide +kernel
theorem dX10_makesPartition_24 : decode cX10_makesPartition 24 = .ok (.iconst 0, 1) := by decide +kernel
theorem dX10_makesPartition_25 : decode cX10_makesPartition 25 = .ok (.istore 7, 2) := by decide +kernel
theorem dX10_makesPartition_27 : decode cX10_makesPartition 27 = .ok (.lload_n 3, 1) := by decide +kernel
theorem dX10_makesPartition_28 : decode cX10_makesPartition 28 = .ok (.aload_n 0, 1) := by decide +kernel
theorem dX10_makesPartition_29 : decode cX10_makesPartition 29 = .ok (.getfield 19, 3) := by decide +kernel
theorem dX10_makesPartition_32 : decode cX10_makesPartition 32 = .ok (.bipush 61, 2) := by decide +kernel
theorem dX10_makesPartition_34 : decode cX10_makesPartition 34 = .ok (.iload 7, 2) := by decide +kernel
theorem dX10_makesPartition_36 : decode cX10_makesPartition 36 = .ok (.imul, 1) := by decide +kernel
theorem dX10_makesPartition_37 : decode cX10_makesPartition 37 = .ok (.iload 5, 2) := by decide +kernel
theorem dX10_makesPartition_39 : decode cX10_makesPartition 39 = .ok (.iadd, 1) := by decide +kernel
theorem dX10_makesPartition_40 : decode cX10_makesPartition 40 = .ok (.iload 7, 2) := by decide +kernel
theorem dX10_makesPartition_42 : decode cX10_makesPartition 42 = .ok (.isub, 1) := by decide +kernel
theorem dX10_makesPartition_43 : decode cX10_makesPartition 43 = .ok (.laload, 1) := by decide +kernel
theorem dX10_makesPartition_44 : decode cX10_makesPartition 44 = .ok (.lcmp, 1) := by decide +kernel
theorem dX10_makesPartition_45 : decode cX10_makesPartition 45 = .ok (.ifCond .lt 28, 3) := by decide +kernel
theorem dX10_makesPartition_48 : decode cX10_makesPartition 48 = .ok (.lload_n 3, 1) := by decide +kernel
theorem dX10_makesPartition_49 : decode cX10_makesPartition 49 = .ok (.aload_n 0, 1) := by decide +kernel
theorem dX10_makesPartition_50 : decode cX10_makesPartition 50 = .ok (.getfield 19, 3) := by decide +kernel
theorem dX10_makesPartition_53 : decode cX10_makesPartition 53 = .ok (.bipush 61, 2) := by decide +kernel
theorem dX10_makesPartition_55 : decode cX10_makesPartition 55 = .ok (.iload 7, 2) := by decide +kernel
theorem dX10_makesPartition_57 : decode cX10_makesPartition 57 = .ok (.imul, 1) := by decide +kernel
theorem dX10_makesPartition_58 : decode cX10_makesPartition 58 = .ok (.iload 5, 2) := by decide +kernel
theorem dX10_makesPartition_60 : decode cX10_makesPartition 60 = .ok (.iadd, 1) := by decide +kernel
theorem dX10_makesPartition_61 : decode cX10_makesPartition 61 = .ok (.iload 7, 2) := by decide +kernel
theorem dX10_makesPartition_63 : decode cX10_makesPartition 63 = .ok (.isub, 1) := by decide +kernel
theorem dX10_makesPartition_64 : decode cX10_makesPartition 64 = .ok (.laload, 1) := by decide +kernel
theorem dX10_makesPartition_65 : decode cX10_makesPartition 65 = .ok (.lsub, 1) := by decide +kernel
theorem dX10_makesPartition_66 : decode cX10_makesPartition 66 = .ok (.lstore_n 3, 1) := by decide +kernel
theorem dX10_makesPartition_67 : decode cX10_makesPartition 67 = .ok (.iinc 7 1, 3) := by decide +kernel
theorem dX10_makesPartition_70 : decode cX10_makesPartition 70 = .ok (.goto (-43), 3) := by decide +kernel
theorem dX10_makesPartition_73 : decode cX10_makesPartition 73 = .ok (.aload_n 0, 1) := by decide +kernel
theorem dX10_makesPartition_74 : decode cX10_makesPartition 74 = .ok (.getfield 32, 3) := by decide +kernel
theorem dX10_makesPartition_77 : decode cX10_makesPartition 77 = .ok (.iload 6, 2) := by decide +kernel
theorem dX10_makesPartition_79 : decode cX10_makesPartition 79 = .ok (.iload 7, 2) := by decide +kernel
theorem dX10_makesPartition_81 : decode cX10_makesPartition 81 = .ok (.iastore, 1) := by decide +kernel
theorem dX10_makesPartition_82 : decode cX10_makesPartition 82 = .ok (.iload 5, 2) := by decide +kernel
theorem dX10_makesPartition_84 : decode cX10_makesPartition 84 = .ok (.iload 7, 2) := by decide +kernel
theorem dX10_makesPartition_86 : decode cX10_makesPartition 86 = .ok (.isub, 1) := by decide +kernel
theorem dX10_makesPartition_87 : decode cX10_makesPartition 87 = .ok (.istore 5, 2) := by decide +kernel
theorem dX10_makesPartition_89 : decode cX10_makesPartition 89 = .ok (.iinc 6 1, 3) := by decide +kernel
theorem dX10_makesPartition_92 : decode cX10_makesPartition 92 = .ok (.goto (-79), 3) := by decide +kernel
theorem dX10_makesPartition_95 : decode cX10_makesPartition 95 = .ok (.return_, 1) := by decide +kernel
theorem dX10_makesArrangement_0 : decode cX10_makesArrangement 0 = .ok (.lload_n 1, 1) := by decide +kernel
theorem dX10_makesArrangement_1 : decode cX10_makesArrangement 1 = .ok (.lstore_n 3, 1) := by decide +kernel
theorem dX10_makesArrangement_2 : decode cX10_makesArrangement 2 = .ok (.aload_n 0, 1) := by decide +kernel
theorem dX10_makesArrangement_3 : decode cX10_makesArrangement 3 = .ok (.invokevirtual 154, 3) := by decide +kernel
theorem dX10_makesArrangement_6 : decode cX10_makesArrangement 6 = .ok (.iconst 0, 1) := by decide +kernel
theorem dX10_makesArrangement_7 : decode cX10_makesArrangement 7 = .ok (.istore 5, 2) := by decide +kernel
theorem dX10_makesArrangement_9 : decode cX10_makesArrangement 9 = .ok (.iload 5, 2) := by decide +kernel
theorem dX10_makesArrangement_11 : decode cX10_makesArrangement 11 = .ok (.aload_n 0, 1) := by decide +kernel
theorem dX10_makesArrangement_12 : decode cX10_makesArrangement 12 = .ok (.invokevirtual 82, 3) := by decide +kernel
theorem dX10_makesArrangement_15 : decode cX10_makesArrangement 15 = .ok (.if_icmp .ge 58, 3) := by decide +kernel
theorem dX10_makesArrangement_18 : decode cX10_makesArrangement 18 = .ok (.iconst 0, 1) := by decide +kernel
theorem dX10_makesArrangement_19 : decode cX10_makesArrangement 19 = .ok (.istore 6, 2) := by decide +kernel
theorem dX10_makesArrangement_21 : decode cX10_makesArrangement 21 = .ok (.lload_n 3, 1) := by decide +kernel
theorem dX10_makesArrangement_22 : decode cX10_makesArrangement 22 = .ok (.aload_n 0, 1) := by decide +kernel
theorem dX10_makesArrangement_23 : decode cX10_makesArrangement 23 = .ok (.iload 6, 2) := by decide +kernel
theorem dX10_makesArrangement_25 : decode cX10_makesArrangement 25 = .ok (.invokevirtual 157, 3) := by decide +kernel
theorem dX10_makesArrangement_28 : decode cX10_makesArrangement 28 = .ok (.lcmp, 1) := by decide +kernel
theorem dX10_makesArrangement_29 : decode cX10_makesArrangement 29 = .ok (.ifCond .lt 18, 3) := by decide +kernel
theorem dX10_makesArrangement_32 : decode cX10_makesArrangement 32 = .ok (.lload_n 3, 1) := by decide +kernel
theorem dX10_makesArrangement_33 : decode cX10_makesArrangement 33 = .ok (.aload_n 0, 1) := by decide +kernel
theorem dX10_makesArrangement_34 : decode cX10_makesArrangement 34 = .ok (.iload 6, 2) := by decide +kernel
theorem dX10_makesArrangement_36 : decode cX10_makesArrangement 36 = .ok (.invokevirtual 157, 3) := by decide +kernel
theorem dX10_makesArrangement_39 : decode cX10_makesArrangement 39 = .ok (.lsub, 1) := by decide +kernel
theorem dX10_makesArrangement_40 : decode cX10_makesArrangement 40 = .ok (.lstore_n 3, 1) := by decide +kernel
theorem dX10_makesArrangement_41 : decode cX10_makesArrangement 41 = .ok (.iinc 6 1, 3) := by decide +kernel
theorem dX10_makesArrangement_44 : decode cX10_makesArrangement 44 = .ok (.goto (-23), 3) := by decide +kernel
theorem dX10_makesArrangement_47 : decode cX10_makesArrangement 47 = .ok (.aload_n 0, 1) := by decide +kernel
theorem dX10_makesArrangement_48 : decode cX10_makesArrangement 48 = .ok (.getfield 32, 3) := by decide +kernel
theorem dX10_makesArrangement_51 : decode cX10_makesArrangement 51 = .ok (.iload 5, 2) := by decide +kernel
theorem dX10_makesArrangement_53 : decode cX10_makesArrangement 53 = .ok (.iload 6, 2) := by decide +kernel
theorem dX10_makesArrangement_55 : decode cX10_makesArrangement 55 = .ok (.iastore, 1) := by decide +kernel
theorem dX10_makesArrangement_56 : decode cX10_makesArrangement 56 = .ok (.aload_n 0, 1) := by decide +kernel
theorem dX10_makesArrangement_57 : decode cX10_makesArrangement 57 = .ok (.getfield 44, 3) := by decide +kernel
theorem dX10_makesArrangement_60 : decode cX10_makesArrangement 60 = .ok (.iload 6, 2) := by decide +kernel
theorem dX10_makesArrangement_62 : decode cX10_makesArrangement 62 = .ok (.dup2, 1) := by decide +kernel
theorem dX10_makesArrangement_63 : decode cX10_makesArrangement 63 = .ok (.iaload, 1) := by decide +kernel
theorem dX10_makesArrangement_64 : decode cX10_makesArrangement 64 = .ok (.iconst 1, 1) := by decide +kernel
theorem dX10_makesArrangement_65 : decode cX10_makesArrangement 65 = .ok (.isub, 1) := by decide +kernel
theorem dX10_makesArrangement_66 : decode cX10_makesArrangement 66 = .ok (.iastore, 1) := by decide +kernel
theorem dX10_makesArrangement_67 : decode cX10_makesArrangement 67 = .ok (.iinc 5 1, 3) := by decide +kernel
theorem dX10_makesArrangement_70 : decode cX10_makesArrangement 70 = .ok (.goto (-61), 3) := by decide +kernel
theorem dX10_makesArrangement_73 : decode cX10_makesArrangement 73 = .ok (.return_, 1) := by decide +kernel
theorem dX10_makes_0 : decode cX10_makes 0 = .ok (.aload_n 0, 1) := by decide +kernel
theorem dX10_makes_1 : decode cX10_makes 1 = .ok (.getfield 74, 3) := by decide +kernel
theorem dX10_makes_4 : decode cX10_makes 4 = .ok (.tableswitch 76 0 4 #[36, 44, 52, 60, 68], 36) := by decide +kernel
theorem dX10_makes_40 : decode cX10_makes 40 = .ok (.aload_n 0, 1) := by decide +kernel
theorem dX10_makes_41 : decode cX10_makes 41 = .ok (.lload_n 1, 1) := by decide +kernel
theorem dX10_makes_42 : decode cX10_makes 42 = .ok (.invokevirtual 188, 3) := by decide +kernel
theorem dX10_makes_45 : decode cX10_makes 45 = .ok (.goto 40, 3) := by decide +kernel
theorem dX10_makes_48 : decode cX10_makes 48 = .ok (.aload_n 0, 1) := by decide +kernel
theorem dX10_makes_49 : decode cX10_makes 49 = .ok (.lload_n 1, 1) := by decide +kernel
theorem dX10_makes_50 : decode cX10_makes 50 = .ok (.invokevirtual 191, 3) := by decide +kernel
theorem dX10_makes_53 : decode cX10_makes 53 = .ok (.goto 32, 3) := by decide +kernel
theorem dX10_makes_56 : decode cX10_makes 56 = .ok (.aload_n 0, 1) := by decide +kernel
theorem dX10_makes_57 : decode cX10_makes 57 = .ok (.lload_n 1, 1) := by decide +kernel
theorem dX10_makes_58 : decode cX10_makes 58 = .ok (.invokevirtual 194, 3) := by decide +kernel
theorem dX10_makes_61 : decode cX10_makes 61 = .ok (.goto 24, 3) := by decide +kernel
theorem dX10_makes_64 : decode cX10_makes 64 = .ok (.aload_n 0, 1) := by decide +kernel
theorem dX10_makes_65 : decode cX10_makes 65 = .ok (.lload_n 1, 1) := by decide +kernel
theorem dX10_makes_66 : decode cX10_makes 66 = .ok (.invokevirtual 197, 3) := by decide +kernel
theorem dX10_makes_69 : decode cX10_makes 69 = .ok (.goto 16, 3) := by decide +kernel
theorem dX10_makes_72 : decode cX10_makes 72 = .ok (.aload_n 0, 1) := by decide +kernel
theorem dX10_makes_73 : decode cX10_makes 73 = .ok (.lload_n 1, 1) := by decide +kernel
theorem dX10_makes_74 : decode cX10_makes 74 = .ok (.invokevirtual 200, 3) := by decide +kernel
theorem dX10_makes_77 : decode cX10_makes 77 = .ok (.goto 8, 3) := by decide +kernel
theorem dX10_makes_80 : decode cX10_makes 80 = .ok (.aload_n 0, 1) := by decide +kernel
theorem dX10_makes_81 : decode cX10_makes 81 = .ok (.lload_n 1, 1) := by decide +kernel
theorem dX10_makes_82 : decode cX10_makes 82 = .ok (.invokevirtual 203, 3) := by decide +kernel
theorem dX10_makes_85 : decode cX10_makes 85 = .ok (.return_, 1) := by decide +kernel
theorem dX10_unrank_0 : decode cX10_unrank 0 = .ok (.lload_n 1, 1) := by decide +kernel
theorem dX10_unrank_1 : decode cX10_unrank 1 = .ok (.lconst 0, 1) := by decide +kernel
theorem dX10_unrank_2 : decode cX10_unrank 2 = .ok (.aload_n 0, 1) := by decide +kernel
theorem dX10_unrank_3 : decode cX10_unrank 3 = .ok (.invokevirtual 116, 3) := by decide +kernel
theorem dX10_unrank_6 : decode cX10_unrank 6 = .ok (.lconst 1, 1) := by decide +kernel
theorem dX10_unrank_7 : decode cX10_unrank 7 = .ok (.lsub, 1) := by decide +kernel
theorem dX10_unrank_8 : decode cX10_unrank 8 = .ok (.invokestatic 100, 3) := by decide +kernel
theorem dX10_unrank_11 : decode cX10_unrank 11 = .ok (.ifCond .ne 5, 3) := by decide +kernel
theorem dX10_unrank_14 : decode cX10_unrank 14 = .ok (.iconst (-1), 1) := by decide +kernel
theorem dX10_unrank_15 : decode cX10_unrank 15 = .ok (.ireturn, 1) := by decide +kernel
theorem dX10_unrank_16 : decode cX10_unrank 16 = .ok (.aload_n 0, 1) := by decide +kernel
theorem dX10_unrank_17 : decode cX10_unrank 17 = .ok (.lload_n 1, 1) := by decide +kernel
theorem dX10_unrank_18 : decode cX10_unrank 18 = .ok (.invokevirtual 90, 3) := by decide +kernel
theorem dX10_unrank_21 : decode cX10_unrank 21 = .ok (.aload_n 0, 1) := by decide +kernel
theorem dX10_unrank_22 : decode cX10_unrank 22 = .ok (.invokevirtual 94, 3) := by decide +kernel
theorem dX10_unrank_25 : decode cX10_unrank 25 = .ok (.ifCond .eq 7, 3) := by decide +kernel
theorem dX10_unrank_28 : decode cX10_unrank 28 = .ok (.iconst 1, 1) := by decide +kernel
theorem dX10_unrank_29 : decode cX10_unrank 29 = .ok (.goto 4, 3) := by decide +kernel
theorem dX10_unrank_32 : decode cX10_unrank 32 = .ok (.iconst 0, 1) := by decide +kernel
theorem dX10_unrank_33 : decode cX10_unrank 33 = .ok (.ireturn, 1) := by decide +kernel
theorem dX10_step_0 : decode cX10_step 0 = .ok (.iload_n 1, 1) := by decide +kernel
theorem dX10_step_1 : decode cX10_step 1 = .ok (.i2l, 1) := by decide +kernel
theorem dX10_step_2 : decode cX10_step 2 = .ok (.ldc2_w 206, 3) := by decide +kernel
theorem dX10_step_5 : decode cX10_step 5 = .ok (.ldc2_w 208, 3) := by decide +kernel
theorem dX10_step_8 : decode cX10_step 8 = .ok (.invokestatic 100, 3) := by decide +kernel
theorem dX10_step_11 : decode cX10_step 11 = .ok (.ifCond .ne 5, 3) := by decide +kernel
theorem dX10_step_14 : decode cX10_step 14 = .ok (.iconst (-1), 1) := by decide +kernel
theorem dX10_step_15 : decode cX10_step 15 = .ok (.ireturn, 1) := by decide +kernel
theorem dX10_step_16 : decode cX10_step 16 = .ok (.aload_n 0, 1) := by decide +kernel
theorem dX10_step_17 : decode cX10_step 17 = .ok (.invokevirtual 145, 3) := by decide +kernel
theorem dX10_step_20 : decode cX10_step 20 = .ok (.ifCond .ne 6, 3) := by decide +kernel
theorem dX10_step_23 : decode cX10_step 23 = .ok (.bipush (-2), 2) := by decide +kernel
theorem dX10_step_25 : decode cX10_step 25 = .ok (.ireturn, 1) := by decide +kernel
theorem dX10_step_26 : decode cX10_step 26 = .ok (.aload_n 0, 1) := by decide +kernel
theorem dX10_step_27 : decode cX10_step 27 = .ok (.invokevirtual 179, 3) := by decide +kernel
theorem dX10_step_30 : decode cX10_step 30 = .ok (.iload_n 1, 1) := by decide +kernel
theorem dX10_step_31 : decode cX10_step 31 = .ok (.i2l, 1) := by decide +kernel
theorem dX10_step_32 : decode cX10_step 32 = .ok (.ladd, 1) := by decide +kernel
theorem dX10_step_33 : decode cX10_step 33 = .ok (.lstore_n 2, 1) := by decide +kernel
theorem dX10_step_34 : decode cX10_step 34 = .ok (.lload_n 2, 1) := by decide +kernel
theorem dX10_step_35 : decode cX10_step 35 = .ok (.lconst 0, 1) := by decide +kernel
theorem dX10_step_36 : decode cX10_step 36 = .ok (.aload_n 0, 1) := by decide +kernel
theorem dX10_step_37 : decode cX10_step 37 = .ok (.invokevirtual 116, 3) := by decide +kernel
theorem dX10_step_40 : decode cX10_step 40 = .ok (.lconst 1, 1) := by decide +kernel
theorem dX10_step_41 : decode cX10_step 41 = .ok (.lsub, 1) := by decide +kernel
theorem dX10_step_42 : decode cX10_step 42 = .ok (.invokestatic 100, 3) := by decide +kernel
theorem dX10_step_45 : decode cX10_step 45 = .ok (.ifCond .ne 6, 3) := by decide +kernel
theorem dX10_step_48 : decode cX10_step 48 = .ok (.bipush (-6), 2) := by decide +kernel
theorem dX10_step_50 : decode cX10_step 50 = .ok (.ireturn, 1) := by decide +kernel
theorem dX10_step_51 : decode cX10_step 51 = .ok (.aload_n 0, 1) := by decide +kernel
theorem dX10_step_52 : decode cX10_step 52 = .ok (.lload_n 2, 1) := by decide +kernel
theorem dX10_step_53 : decode cX10_step 53 = .ok (.invokevirtual 90, 3) := by decide +kernel
theorem dX10_step_56 : decode cX10_step 56 = .ok (.aload_n 0, 1) := by decide +kernel
theorem dX10_step_57 : decode cX10_step 57 = .ok (.invokevirtual 94, 3) := by decide +kernel
theorem dX10_step_60 : decode cX10_step 60 = .ok (.pop, 1) := by decide +kernel
theorem dX10_step_61 : decode cX10_step 61 = .ok (.iconst 1, 1) := by decide +kernel
theorem dX10_step_62 : decode cX10_step 62 = .ok (.ireturn, 1) := by decide +kernel
theorem dX10_draw_0 : decode cX10_draw 0 = .ok (.lload_n 1, 1) := by decide +kernel
theorem dX10_draw_1 : decode cX10_draw 1 = .ok (.ldc2_w 210, 3) := by decide +kernel
theorem dX10_draw_4 : decode cX10_draw 4 = .ok (.lmul, 1) := by decide +kernel
theorem dX10_draw_5 : decode cX10_draw 5 = .ok (.ldc2_w 212, 3) := by decide +kernel
theorem dX10_draw_8 : decode cX10_draw 8 = .ok (.ladd, 1) := by decide +kernel
theorem dX10_draw_9 : decode cX10_draw 9 = .ok (.lstore_n 3, 1) := by decide +kernel
theorem dX10_draw_10 : decode cX10_draw 10 = .ok (.lload_n 3, 1) := by decide +kernel
theorem dX10_draw_11 : decode cX10_draw 11 = .ok (.lload_n 3, 1) := by decide +kernel
theorem dX10_draw_12 : decode cX10_draw 12 = .ok (.bipush 33, 2) := by decide +kernel
theorem dX10_draw_14 : decode cX10_draw 14 = .ok (.lushr, 1) := by decide +kernel
theorem dX10_draw_15 : decode cX10_draw 15 = .ok (.lxor, 1) := by decide +kernel
theorem dX10_draw_16 : decode cX10_draw 16 = .ok (.lstore 5, 2) := by decide +kernel
theorem dX10_draw_18 : decode cX10_draw 18 = .ok (.lload 5, 2) := by decide +kernel
theorem dX10_draw_20 : decode cX10_draw 20 = .ok (.iconst 1, 1) := by decide +kernel
theorem dX10_draw_21 : decode cX10_draw 21 = .ok (.lushr, 1) := by decide +kernel
theorem dX10_draw_22 : decode cX10_draw 22 = .ok (.aload_n 0, 1) := by decide +kernel
theorem dX10_draw_23 : decode cX10_draw 23 = .ok (.invokevirtual 116, 3) := by decide +kernel
theorem dX10_draw_26 : decode cX10_draw 26 = .ok (.lrem, 1) := by decide +kernel
theorem dX10_draw_27 : decode cX10_draw 27 = .ok (.lstore 7, 2) := by decide +kernel
theorem dX10_draw_29 : decode cX10_draw 29 = .ok (.aload_n 0, 1) := by decide +kernel
theorem dX10_draw_30 : decode cX10_draw 30 = .ok (.lload 7, 2) := by decide +kernel
theorem dX10_draw_32 : decode cX10_draw 32 = .ok (.invokevirtual 90, 3) := by decide +kernel
theorem dX10_draw_35 : decode cX10_draw 35 = .ok (.aload_n 0, 1) := by decide +kernel
theorem dX10_draw_36 : decode cX10_draw 36 = .ok (.invokevirtual 94, 3) := by decide +kernel
theorem dX10_draw_39 : decode cX10_draw 39 = .ok (.pop, 1) := by decide +kernel
theorem dX10_draw_40 : decode cX10_draw 40 = .ok (.lload 7, 2) := by decide +kernel
theorem dX10_draw_42 : decode cX10_draw 42 = .ok (.lreturn, 1) := by decide +kernel
theorem dX10_complements_0 : decode cX10_complements 0 = .ok (.aload_n 0, 1) := by decide +kernel
theorem dX10_complements_1 : decode cX10_complements 1 = .ok (.getfield 25, 3) := by decide +kernel
theorem dX10_complements_4 : decode cX10_complements 4 = .ok (.iconst 0, 1) := by decide +kernel
theorem dX10_complements_5 : decode cX10_complements 5 = .ok (.iaload, 1) := by decide +kernel
theorem dX10_complements_6 : decode cX10_complements 6 = .ok (.istore_n 1, 1) := by decide +kernel
theorem dX10_complements_7 : decode cX10_complements 7 = .ok (.aload_n 0, 1) := by decide +kernel
theorem dX10_complements_8 : decode cX10_complements 8 = .ok (.getfield 25, 3) := by decide +kernel
theorem dX10_complements_11 : decode cX10_complements 11 = .ok (.iconst 1, 1) := by decide +kernel
theorem dX10_complements_12 : decode cX10_complements 12 = .ok (.iaload, 1) := by decide +kernel
theorem dX10_complements_13 : decode cX10_complements 13 = .ok (.istore_n 2, 1) := by decide +kernel
theorem dX10_complements_14 : decode cX10_complements 14 = .ok (.iconst 0, 1) := by decide +kernel
theorem dX10_complements_15 : decode cX10_complements 15 = .ok (.istore_n 3, 1) := by decide +kernel
theorem dX10_complements_16 : decode cX10_complements 16 = .ok (.iconst 0, 1) := by decide +kernel
theorem dX10_complements_17 : decode cX10_complements 17 = .ok (.istore 4, 2) := by decide +kernel
theorem dX10_complements_19 : decode cX10_complements 19 = .ok (.iconst 0, 1) := by decide +kernel
theorem dX10_complements_20 : decode cX10_complements 20 = .ok (.istore 5, 2) := by decide +kernel
theorem dX10_complements_22 : decode cX10_complements 22 = .ok (.iload 5, 2) := by decide +kernel
theorem dX10_complements_24 : decode cX10_complements 24 = .ok (.iload_n 1, 1) := by decide +kernel
theorem dX10_complements_25 : decode cX10_complements 25 = .ok (.if_icmp .ge 44, 3) := by decide +kernel
theorem dX10_complements_28 : decode cX10_complements 28 = .ok (.iload 4, 2) := by decide +kernel
theorem dX10_complements_30 : decode cX10_complements 30 = .ok (.iload_n 2, 1) := by decide +kernel
theorem dX10_complements_31 : decode cX10_complements 31 = .ok (.if_icmp .ge 21, 3) := by decide +kernel
theorem dX10_complements_34 : decode cX10_complements 34 = .ok (.aload_n 0, 1) := by decide +kernel
theorem dX10_complements_35 : decode cX10_complements 35 = .ok (.getfield 29, 3) := by decide +kernel
theorem dX10_complements_38 : decode cX10_complements 38 = .ok (.iload 4, 2) := by decide +kernel
theorem dX10_complements_40 : decode cX10_complements 40 = .ok (.iaload, 1) := by decide +kernel
theorem dX10_complements_41 : decode cX10_complements 41 = .ok (.iload 5, 2) := by decide +kernel
theorem dX10_complements_43 : decode cX10_complements 43 = .ok (.if_icmp .ne 9, 3) := by decide +kernel
theorem dX10_complements_46 : decode cX10_complements 46 = .ok (.iinc 4 1, 3) := by decide +kernel
theorem dX10_complements_49 : decode cX10_complements 49 = .ok (.goto 14, 3) := by decide +kernel
theorem dX10_complements_52 : decode cX10_complements 52 = .ok (.aload_n 0, 1) := by decide +kernel
theorem dX10_complements_53 : decode cX10_complements 53 = .ok (.getfield 32, 3) := by decide +kernel
theorem dX10_complements_56 : decode cX10_complements 56 = .ok (.iload_n 3, 1) := by decide +kernel
theorem dX10_complements_57 : decode cX10_complements 57 = .ok (.iload 5, 2) := by decide +kernel
theorem dX10_complements_59 : decode cX10_complements 59 = .ok (.iastore, 1) := by decide +kernel
theorem dX10_complements_60 : decode cX10_complements 60 = .ok (.iinc 3 1, 3) := by decide +kernel
theorem dX10_complements_63 : decode cX10_complements 63 = .ok (.iinc 5 1, 3) := by decide +kernel
theorem dX10_complements_66 : decode cX10_complements 66 = .ok (.goto (-44), 3) := by decide +kernel
theorem dX10_complements_69 : decode cX10_complements 69 = .ok (.aload_n 0, 1) := by decide +kernel
theorem dX10_complements_70 : decode cX10_complements 70 = .ok (.getfield 25, 3) := by decide +kernel
theorem dX10_complements_73 : decode cX10_complements 73 = .ok (.iconst 1, 1) := by decide +kernel
theorem dX10_complements_74 : decode cX10_complements 74 = .ok (.iload_n 1, 1) := by decide +kernel
theorem dX10_complements_75 : decode cX10_complements 75 = .ok (.iload_n 2, 1) := by decide +kernel
theorem dX10_complements_76 : decode cX10_complements 76 = .ok (.isub, 1) := by decide +kernel
theorem dX10_complements_77 : decode cX10_complements 77 = .ok (.iastore, 1) := by decide +kernel
theorem dX10_complements_78 : decode cX10_complements 78 = .ok (.aload_n 0, 1) := by decide +kernel
theorem dX10_complements_79 : decode cX10_complements 79 = .ok (.invokevirtual 94, 3) := by decide +kernel
theorem dX10_complements_82 : decode cX10_complements 82 = .ok (.istore 5, 2) := by decide +kernel
theorem dX10_complements_84 : decode cX10_complements 84 = .ok (.iload 5, 2) := by decide +kernel
theorem dX10_complements_86 : decode cX10_complements 86 = .ok (.ifCond .ne 10, 3) := by decide +kernel
theorem dX10_complements_89 : decode cX10_complements 89 = .ok (.iload_n 2, 1) := by decide +kernel
theorem dX10_complements_90 : decode cX10_complements 90 = .ok (.iload_n 1, 1) := by decide +kernel
theorem dX10_complements_91 : decode cX10_complements 91 = .ok (.iload_n 2, 1) := by decide +kernel
theorem dX10_complements_92 : decode cX10_complements 92 = .ok (.isub, 1) := by decide +kernel
theorem dX10_complements_93 : decode cX10_complements 93 = .ok (.if_icmp .eq 7, 3) := by decide +kernel
theorem dX10_complements_96 : decode cX10_complements 96 = .ok (.iconst 1, 1) := by decide +kernel
theorem dX10_complements_97 : decode cX10_complements 97 = .ok (.goto 4, 3) := by decide +kernel
theorem dX10_complements_100 : decode cX10_complements 100 = .ok (.iconst 0, 1) := by decide +kernel
theorem dX10_complements_101 : decode cX10_complements 101 = .ok (.ireturn, 1) := by decide +kernel
theorem dX10_inverts_0 : decode cX10_inverts 0 = .ok (.iconst 0, 1) := by decide +kernel
theorem dX10_inverts_1 : decode cX10_inverts 1 = .ok (.istore_n 1, 1) := by decide +kernel
theorem dX10_inverts_2 : decode cX10_inverts 2 = .ok (.iload_n 1, 1) := by decide +kernel
theorem dX10_inverts_3 : decode cX10_inverts 3 = .ok (.aload_n 0, 1) := by decide +kernel
theorem dX10_inverts_4 : decode cX10_inverts 4 = .ok (.getfield 25, 3) := by decide +kernel
theorem dX10_inverts_7 : decode cX10_inverts 7 = .ok (.iconst 0, 1) := by decide +kernel
theorem dX10_inverts_8 : decode cX10_inverts 8 = .ok (.iaload, 1) := by decide +kernel
theorem dX10_inverts_9 : decode cX10_inverts 9 = .ok (.if_icmp .ge 21, 3) := by decide +kernel
theorem dX10_inverts_12 : decode cX10_inverts 12 = .ok (.aload_n 0, 1) := by decide +kernel
theorem dX10_inverts_13 : decode cX10_inverts 13 = .ok (.getfield 32, 3) := by decide +kernel
theorem dX10_inverts_16 : decode cX10_inverts 16 = .ok (.aload_n 0, 1) := by decide +kernel
theorem dX10_inverts_17 : decode cX10_inverts 17 = .ok (.getfield 29, 3) := by decide +kernel
theorem dX10_inverts_20 : decode cX10_inverts 20 = .ok (.iload_n 1, 1) := by decide +kernel
theorem dX10_inverts_21 : decode cX10_inverts 21 = .ok (.iaload, 1) := by decide +kernel
theorem dX10_inverts_22 : decode cX10_inverts 22 = .ok (.iload_n 1, 1) := by decide +kernel
theorem dX10_inverts_23 : decode cX10_inverts 23 = .ok (.iastore, 1) := by decide +kernel
theorem dX10_inverts_24 : decode cX10_inverts 24 = .ok (.iinc 1 1, 3) := by decide +kernel
theorem dX10_inverts_27 : decode cX10_inverts 27 = .ok (.goto (-25), 3) := by decide +kernel
theorem dX10_inverts_30 : decode cX10_inverts 30 = .ok (.return_, 1) := by decide +kernel
theorem dX10_mirrorsWord_0 : decode cX10_mirrorsWord 0 = .ok (.iconst 2, 1) := by decide +kernel
theorem dX10_mirrorsWord_1 : decode cX10_mirrorsWord 1 = .ok (.aload_n 0, 1) := by decide +kernel
theorem dX10_mirrorsWord_2 : decode cX10_mirrorsWord 2 = .ok (.getfield 25, 3) := by decide +kernel
theorem dX10_mirrorsWord_5 : decode cX10_mirrorsWord 5 = .ok (.iconst 0, 1) := by decide +kernel
theorem dX10_mirrorsWord_6 : decode cX10_mirrorsWord 6 = .ok (.iaload, 1) := by decide +kernel
theorem dX10_mirrorsWord_7 : decode cX10_mirrorsWord 7 = .ok (.imul, 1) := by decide +kernel
theorem dX10_mirrorsWord_8 : decode cX10_mirrorsWord 8 = .ok (.istore_n 1, 1) := by decide +kernel
theorem dX10_mirrorsWord_9 : decode cX10_mirrorsWord 9 = .ok (.iconst 0, 1) := by decide +kernel
theorem dX10_mirrorsWord_10 : decode cX10_mirrorsWord 10 = .ok (.istore_n 2, 1) := by decide +kernel
theorem dX10_mirrorsWord_11 : decode cX10_mirrorsWord 11 = .ok (.iload_n 2, 1) := by decide +kernel
theorem dX10_mirrorsWord_12 : decode cX10_mirrorsWord 12 = .ok (.iload_n 1, 1) := by decide +kernel
theorem dX10_mirrorsWord_13 : decode cX10_mirrorsWord 13 = .ok (.if_icmp .ge 27, 3) := by decide +kernel
theorem dX10_mirrorsWord_16 : decode cX10_mirrorsWord 16 = .ok (.aload_n 0, 1) := by decide +kernel
theorem dX10_mirrorsWord_17 : decode cX10_mirrorsWord 17 = .ok (.getfield 32, 3) := by decide +kernel
theorem dX10_mirrorsWord_20 : decode cX10_mirrorsWord 20 = .ok (.iload_n 1, 1) := by decide +kernel
theorem dX10_mirrorsWord_21 : decode cX10_mirrorsWord 21 = .ok (.iconst 1, 1) := by decide +kernel
theorem dX10_mirrorsWord_22 : decode cX10_mirrorsWord 22 = .ok (.isub, 1) := by decide +kernel
theorem dX10_mirrorsWord_23 : decode cX10_mirrorsWord 23 = .ok (.iload_n 2, 1) := by decide +kernel
theorem dX10_mirrorsWord_24 : decode cX10_mirrorsWord 24 = .ok (.isub, 1) := by decide +kernel
theorem dX10_mirrorsWord_25 : decode cX10_mirrorsWord 25 = .ok (.aload_n 0, 1) := by decide +kernel
theorem dX10_mirrorsWord_26 : decode cX10_mirrorsWord 26 = .ok (.getfield 29, 3) := by decide +kernel
theorem dX10_mirrorsWord_29 : decode cX10_mirrorsWord 29 = .ok (.iload_n 2, 1) := by decide +kernel
theorem dX10_mirrorsWord_30 : decode cX10_mirrorsWord 30 = .ok (.iaload, 1) := by decide +kernel
theorem dX10_mirrorsWord_31 : decode cX10_mirrorsWord 31 = .ok (.iconst 1, 1) := by decide +kernel
theorem dX10_mirrorsWord_32 : decode cX10_mirrorsWord 32 = .ok (.ixor, 1) := by decide +kernel
theorem dX10_mirrorsWord_33 : decode cX10_mirrorsWord 33 = .ok (.iastore, 1) := by decide +kernel
theorem dX10_mirrorsWord_34 : decode cX10_mirrorsWord 34 = .ok (.iinc 2 1, 3) := by decide +kernel
theorem dX10_mirrorsWord_37 : decode cX10_mirrorsWord 37 = .ok (.goto (-26), 3) := by decide +kernel
theorem dX10_mirrorsWord_40 : decode cX10_mirrorsWord 40 = .ok (.return_, 1) := by decide +kernel
theorem dX10_mirrorsTree_0 : decode cX10_mirrorsTree 0 = .ok (.iconst 1, 1) := by decide +kernel
theorem dX10_mirrorsTree_1 : decode cX10_mirrorsTree 1 = .ok (.istore_n 1, 1) := by decide +kernel
theorem dX10_mirrorsTree_2 : decode cX10_mirrorsTree 2 = .ok (.aload_n 0, 1) := by decide +kernel
theorem dX10_mirrorsTree_3 : decode cX10_mirrorsTree 3 = .ok (.getfield 35, 3) := by decide +kernel
theorem dX10_mirrorsTree_6 : decode cX10_mirrorsTree 6 = .ok (.iconst 0, 1) := by decide +kernel
theorem dX10_mirrorsTree_7 : decode cX10_mirrorsTree 7 = .ok (.iconst 0, 1) := by decide +kernel
theorem dX10_mirrorsTree_8 : decode cX10_mirrorsTree 8 = .ok (.iastore, 1) := by decide +kernel
theorem dX10_mirrorsTree_9 : decode cX10_mirrorsTree 9 = .ok (.aload_n 0, 1) := by decide +kernel
theorem dX10_mirrorsTree_10 : decode cX10_mirrorsTree 10 = .ok (.getfield 38, 3) := by decide +kernel
theorem dX10_mirrorsTree_13 : decode cX10_mirrorsTree 13 = .ok (.iconst 0, 1) := by decide +kernel
theorem dX10_mirrorsTree_14 : decode cX10_mirrorsTree 14 = .ok (.aload_n 0, 1) := by decide +kernel
theorem dX10_mirrorsTree_15 : decode cX10_mirrorsTree 15 = .ok (.getfield 25, 3) := by decide +kernel
theorem dX10_mirrorsTree_18 : decode cX10_mirrorsTree 18 = .ok (.iconst 0, 1) := by decide +kernel
theorem dX10_mirrorsTree_19 : decode cX10_mirrorsTree 19 = .ok (.iaload, 1) := by decide +kernel
theorem dX10_mirrorsTree_20 : decode cX10_mirrorsTree 20 = .ok (.iastore, 1) := by decide +kernel
theorem dX10_mirrorsTree_21 : decode cX10_mirrorsTree 21 = .ok (.iconst 0, 1) := by decide +kernel
theorem dX10_mirrorsTree_22 : decode cX10_mirrorsTree 22 = .ok (.istore_n 2, 1) := by decide +kernel
theorem dX10_mirrorsTree_23 : decode cX10_mirrorsTree 23 = .ok (.iload_n 2, 1) := by decide +kernel
theorem dX10_mirrorsTree_24 : decode cX10_mirrorsTree 24 = .ok (.aload_n 0, 1) := by decide +kernel
theorem dX10_mirrorsTree_25 : decode cX10_mirrorsTree 25 = .ok (.getfield 25, 3) := by decide +kernel
theorem dX10_mirrorsTree_28 : decode cX10_mirrorsTree 28 = .ok (.iconst 0, 1) := by decide +kernel
theorem dX10_mirrorsTree_29 : decode cX10_mirrorsTree 29 = .ok (.iaload, 1) := by decide +kernel
theorem dX10_mirrorsTree_30 : decode cX10_mirrorsTree 30 = .ok (.if_icmp .ge 111, 3) := by decide +kernel
theorem dX10_mirrorsTree_33 : decode cX10_mirrorsTree 33 = .ok (.iinc 1 (-1), 3) := by decide +kernel
theorem dX10_mirrorsTree_36 : decode cX10_mirrorsTree 36 = .ok (.aload_n 0, 1) := by decide +kernel
theorem dX10_mirrorsTree_37 : decode cX10_mirrorsTree 37 = .ok (.getfield 35, 3) := by decide +kernel
theorem dX10_mirrorsTree_40 : decode cX10_mirrorsTree 40 = .ok (.iload_n 1, 1) := by decide +kernel
theorem dX10_mirrorsTree_41 : decode cX10_mirrorsTree 41 = .ok (.iaload, 1) := by decide +kernel
theorem dX10_mirrorsTree_42 : decode cX10_mirrorsTree 42 = .ok (.istore_n 3, 1) := by decide +kernel
theorem dX10_mirrorsTree_43 : decode cX10_mirrorsTree 43 = .ok (.aload_n 0, 1) := by decide +kernel
theorem dX10_mirrorsTree_44 : decode cX10_mirrorsTree 44 = .ok (.getfield 38, 3) := by decide +kernel
theorem dX10_mirrorsTree_47 : decode cX10_mirrorsTree 47 = .ok (.iload_n 1, 1) := by decide +kernel
theorem dX10_mirrorsTree_48 : decode cX10_mirrorsTree 48 = .ok (.iaload, 1) := by decide +kernel
theorem dX10_mirrorsTree_49 : decode cX10_mirrorsTree 49 = .ok (.istore 4, 2) := by decide +kernel
theorem dX10_mirrorsTree_51 : decode cX10_mirrorsTree 51 = .ok (.aload_n 0, 1) := by decide +kernel
theorem dX10_mirrorsTree_52 : decode cX10_mirrorsTree 52 = .ok (.getfield 29, 3) := by decide +kernel
theorem dX10_mirrorsTree_55 : decode cX10_mirrorsTree 55 = .ok (.iload_n 3, 1) := by decide +kernel
theorem dX10_mirrorsTree_56 : decode cX10_mirrorsTree 56 = .ok (.iaload, 1) := by decide +kernel
theorem dX10_mirrorsTree_57 : decode cX10_mirrorsTree 57 = .ok (.istore 5, 2) := by decide +kernel
theorem dX10_mirrorsTree_59 : decode cX10_mirrorsTree 59 = .ok (.aload_n 0, 1) := by decide +kernel
theorem dX10_mirrorsTree_60 : decode cX10_mirrorsTree 60 = .ok (.getfield 32, 3) := by decide +kernel
theorem dX10_mirrorsTree_63 : decode cX10_mirrorsTree 63 = .ok (.iload_n 2, 1) := by decide +kernel
theorem dX10_mirrorsTree_64 : decode cX10_mirrorsTree 64 = .ok (.iload 4, 2) := by decide +kernel
theorem dX10_mirrorsTree_66 : decode cX10_mirrorsTree 66 = .ok (.iconst 1, 1) := by decide +kernel
theorem dX10_mirrorsTree_67 : decode cX10_mirrorsTree 67 = .ok (.isub, 1) := by decide +kernel
theorem dX10_mirrorsTree_68 : decode cX10_mirrorsTree 68 = .ok (.iload 5, 2) := by decide +kernel
theorem dX10_mirrorsTree_70 : decode cX10_mirrorsTree 70 = .ok (.isub, 1) := by decide +kernel
theorem dX10_mirrorsTree_71 : decode cX10_mirrorsTree 71 = .ok (.iastore, 1) := by decide +kernel
theorem dX10_mirrorsTree_72 : decode cX10_mirrorsTree 72 = .ok (.iload 5, 2) := by decide +kernel
theorem dX10_mirrorsTree_74 : decode cX10_mirrorsTree 74 = .ok (.ifCond .le 23, 3) := by decide +kernel
theorem dX10_mirrorsTree_77 : decode cX10_mirrorsTree 77 = .ok (.aload_n 0, 1) := by decide +kernel
theorem dX10_mirrorsTree_78 : decode cX10_mirrorsTree 78 = .ok (.getfield 35, 3) := by decide +kernel
theorem dX10_mirrorsTree_81 : decode cX10_mirrorsTree 81 = .ok (.iload_n 1, 1) := by decide +kernel
theorem dX10_mirrorsTree_82 : decode cX10_mirrorsTree 82 = .ok (.iload_n 3, 1) := by decide +kernel
theorem dX10_mirrorsTree_83 : decode cX10_mirrorsTree 83 = .ok (.iconst 1, 1) := by decide +kernel
theorem dX10_mirrorsTree_84 : decode cX10_mirrorsTree 84 = .ok (.iadd, 1) := by decide +kernel
theorem dX10_mirrorsTree_85 : decode cX10_mirrorsTree 85 = .ok (.iastore, 1) := by decide +kernel
theorem dX10_mirrorsTree_86 : decode cX10_mirrorsTree 86 = .ok (.aload_n 0, 1) := by decide +kernel
theorem dX10_mirrorsTree_87 : decode cX10_mirrorsTree 87 = .ok (.getfield 38, 3) := by decide +kernel
theorem dX10_mirrorsTree_90 : decode cX10_mirrorsTree 90 = .ok (.iload_n 1, 1) := by decide +kernel
theorem dX10_mirrorsTree_91 : decode cX10_mirrorsTree 91 = .ok (.iload 5, 2) := by decide +kernel
theorem dX10_mirrorsTree_93 : decode cX10_mirrorsTree 93 = .ok (.iastore, 1) := by decide +kernel
theorem dX10_mirrorsTree_94 : decode cX10_mirrorsTree 94 = .ok (.iinc 1 1, 3) := by decide +kernel
theorem dX10_mirrorsTree_97 : decode cX10_mirrorsTree 97 = .ok (.iload 4, 2) := by decide +kernel
theorem dX10_mirrorsTree_99 : decode cX10_mirrorsTree 99 = .ok (.iconst 1, 1) := by decide +kernel
theorem dX10_mirrorsTree_100 : decode cX10_mirrorsTree 100 = .ok (.isub, 1) := by decide +kernel
theorem dX10_mirrorsTree_101 : decode cX10_mirrorsTree 101 = .ok (.iload 5, 2) := by decide +kernel
theorem dX10_mirrorsTree_103 : decode cX10_mirrorsTree 103 = .ok (.isub, 1) := by decide +kernel
theorem dX10_mirrorsTree_104 : decode cX10_mirrorsTree 104 = .ok (.ifCond .le 31, 3) := by decide +kernel
theorem dX10_mirrorsTree_107 : decode cX10_mirrorsTree 107 = .ok (.aload_n 0, 1) := by decide +kernel
theorem dX10_mirrorsTree_108 : decode cX10_mirrorsTree 108 = .ok (.getfield 35, 3) := by decide +kernel
theorem dX10_mirrorsTree_111 : decode cX10_mirrorsTree 111 = .ok (.iload_n 1, 1) := by decide +kernel
theorem dX10_mirrorsTree_112 : decode cX10_mirrorsTree 112 = .ok (.iload_n 3, 1) := by decide +kernel
theorem dX10_mirrorsTree_113 : decode cX10_mirrorsTree 113 = .ok (.iconst 1, 1) := by decide +kernel
theorem dX10_mirrorsTree_114 : decode cX10_mirrorsTree 114 = .ok (.iadd, 1) := by decide +kernel
theorem dX10_mirrorsTree_115 : decode cX10_mirrorsTree 115 = .ok (.iload 5, 2) := by decide +kernel
theorem dX10_mirrorsTree_117 : decode cX10_mirrorsTree 117 = .ok (.iadd, 1) := by decide +kernel
theorem dX10_mirrorsTree_118 : decode cX10_mirrorsTree 118 = .ok (.iastore, 1) := by decide +kernel
theorem dX10_mirrorsTree_119 : decode cX10_mirrorsTree 119 = .ok (.aload_n 0, 1) := by decide +kernel
theorem dX10_mirrorsTree_120 : decode cX10_mirrorsTree 120 = .ok (.getfield 38, 3) := by decide +kernel
theorem dX10_mirrorsTree_123 : decode cX10_mirrorsTree 123 = .ok (.iload_n 1, 1) := by decide +kernel
theorem dX10_mirrorsTree_124 : decode cX10_mirrorsTree 124 = .ok (.iload 4, 2) := by decide +kernel
theorem dX10_mirrorsTree_126 : decode cX10_mirrorsTree 126 = .ok (.iconst 1, 1) := by decide +kernel
theorem dX10_mirrorsTree_127 : decode cX10_mirrorsTree 127 = .ok (.isub, 1) := by decide +kernel
theorem dX10_mirrorsTree_128 : decode cX10_mirrorsTree 128 = .ok (.iload 5, 2) := by decide +kernel
theorem dX10_mirrorsTree_130 : decode cX10_mirrorsTree 130 = .ok (.isub, 1) := by decide +kernel
theorem dX10_mirrorsTree_131 : decode cX10_mirrorsTree 131 = .ok (.iastore, 1) := by decide +kernel
theorem dX10_mirrorsTree_132 : decode cX10_mirrorsTree 132 = .ok (.iinc 1 1, 3) := by decide +kernel
theorem dX10_mirrorsTree_135 : decode cX10_mirrorsTree 135 = .ok (.iinc 2 1, 3) := by decide +kernel
theorem dX10_mirrorsTree_138 : decode cX10_mirrorsTree 138 = .ok (.goto (-115), 3) := by decide +kernel
theorem dX10_mirrorsTree_141 : decode cX10_mirrorsTree 141 = .ok (.return_, 1) := by decide +kernel
theorem dX10_conjugates_0 : decode cX10_conjugates 0 = .ok (.iconst 0, 1) := by decide +kernel
theorem dX10_conjugates_1 : decode cX10_conjugates 1 = .ok (.istore_n 1, 1) := by decide +kernel
theorem dX10_conjugates_2 : decode cX10_conjugates 2 = .ok (.iload_n 1, 1) := by decide +kernel
theorem dX10_conjugates_3 : decode cX10_conjugates 3 = .ok (.aload_n 0, 1) := by decide +kernel
theorem dX10_conjugates_4 : decode cX10_conjugates 4 = .ok (.getfield 25, 3) := by decide +kernel
theorem dX10_conjugates_7 : decode cX10_conjugates 7 = .ok (.iconst 0, 1) := by decide +kernel
theorem dX10_conjugates_8 : decode cX10_conjugates 8 = .ok (.iaload, 1) := by decide +kernel
theorem dX10_conjugates_9 : decode cX10_conjugates 9 = .ok (.if_icmp .ge 58, 3) := by decide +kernel
theorem dX10_conjugates_12 : decode cX10_conjugates 12 = .ok (.aload_n 0, 1) := by decide +kernel
theorem dX10_conjugates_13 : decode cX10_conjugates 13 = .ok (.getfield 32, 3) := by decide +kernel
theorem dX10_conjugates_16 : decode cX10_conjugates 16 = .ok (.iload_n 1, 1) := by decide +kernel
theorem dX10_conjugates_17 : decode cX10_conjugates 17 = .ok (.iconst 0, 1) := by decide +kernel
theorem dX10_conjugates_18 : decode cX10_conjugates 18 = .ok (.iastore, 1) := by decide +kernel
theorem dX10_conjugates_19 : decode cX10_conjugates 19 = .ok (.iconst 0, 1) := by decide +kernel
theorem dX10_conjugates_20 : decode cX10_conjugates 20 = .ok (.istore_n 2, 1) := by decide +kernel
theorem dX10_conjugates_21 : decode cX10_conjugates 21 = .ok (.iload_n 2, 1) := by decide +kernel
theorem dX10_conjugates_22 : decode cX10_conjugates 22 = .ok (.aload_n 0, 1) := by decide +kernel
theorem dX10_conjugates_23 : decode cX10_conjugates 23 = .ok (.getfield 25, 3) := by decide +kernel
theorem dX10_conjugates_26 : decode cX10_conjugates 26 = .ok (.iconst 0, 1) := by decide +kernel
theorem dX10_conjugates_27 : decode cX10_conjugates 27 = .ok (.iaload, 1) := by decide +kernel
theorem dX10_conjugates_28 : decode cX10_conjugates 28 = .ok (.if_icmp .ge 33, 3) := by decide +kernel
theorem dX10_conjugates_31 : decode cX10_conjugates 31 = .ok (.aload_n 0, 1) := by decide +kernel
theorem dX10_conjugates_32 : decode cX10_conjugates 32 = .ok (.getfield 32, 3) := by decide +kernel
theorem dX10_conjugates_35 : decode cX10_conjugates 35 = .ok (.iload_n 1, 1) := by decide +kernel
theorem dX10_conjugates_36 : decode cX10_conjugates 36 = .ok (.dup2, 1) := by decide +kernel
theorem dX10_conjugates_37 : decode cX10_conjugates 37 = .ok (.iaload, 1) := by decide +kernel
theorem dX10_conjugates_38 : decode cX10_conjugates 38 = .ok (.aload_n 0, 1) := by decide +kernel
theorem dX10_conjugates_39 : decode cX10_conjugates 39 = .ok (.getfield 29, 3) := by decide +kernel
theorem dX10_conjugates_42 : decode cX10_conjugates 42 = .ok (.iload_n 2, 1) := by decide +kernel
theorem dX10_conjugates_43 : decode cX10_conjugates 43 = .ok (.iaload, 1) := by decide +kernel
theorem dX10_conjugates_44 : decode cX10_conjugates 44 = .ok (.iload_n 1, 1) := by decide +kernel
theorem dX10_conjugates_45 : decode cX10_conjugates 45 = .ok (.if_icmp .le 7, 3) := by decide +kernel
theorem dX10_conjugates_48 : decode cX10_conjugates 48 = .ok (.iconst 1, 1) := by decide +kernel
theorem dX10_conjugates_49 : decode cX10_conjugates 49 = .ok (.goto 4, 3) := by decide +kernel
theorem dX10_conjugates_52 : decode cX10_conjugates 52 = .ok (.iconst 0, 1) := by decide +kernel
theorem dX10_conjugates_53 : decode cX10_conjugates 53 = .ok (.iadd, 1) := by decide +kernel
theorem dX10_conjugates_54 : decode cX10_conjugates 54 = .ok (.iastore, 1) := by decide +kernel
theorem dX10_conjugates_55 : decode cX10_conjugates 55 = .ok (.iinc 2 1, 3) := by decide +kernel
theorem dX10_conjugates_58 : decode cX10_conjugates 58 = .ok (.goto (-37), 3) := by decide +kernel
theorem dX10_conjugates_61 : decode cX10_conjugates 61 = .ok (.iinc 1 1, 3) := by decide +kernel
theorem dX10_conjugates_64 : decode cX10_conjugates 64 = .ok (.goto (-62), 3) := by decide +kernel
theorem dX10_conjugates_67 : decode cX10_conjugates 67 = .ok (.return_, 1) := by decide +kernel
theorem dX10_reverses_0 : decode cX10_reverses 0 = .ok (.iconst 0, 1) := by decide +kernel
theorem dX10_reverses_1 : decode cX10_reverses 1 = .ok (.istore_n 1, 1) := by decide +kernel
theorem dX10_reverses_2 : decode cX10_reverses 2 = .ok (.iload_n 1, 1) := by decide +kernel
theorem dX10_reverses_3 : decode cX10_reverses 3 = .ok (.aload_n 0, 1) := by decide +kernel
theorem dX10_reverses_4 : decode cX10_reverses 4 = .ok (.invokevirtual 82, 3) := by decide +kernel
theorem dX10_reverses_7 : decode cX10_reverses 7 = .ok (.if_icmp .ge 28, 3) := by decide +kernel
theorem dX10_reverses_10 : decode cX10_reverses 10 = .ok (.aload_n 0, 1) := by decide +kernel
theorem dX10_reverses_11 : decode cX10_reverses 11 = .ok (.getfield 32, 3) := by decide +kernel
theorem dX10_reverses_14 : decode cX10_reverses 14 = .ok (.iload_n 1, 1) := by decide +kernel
theorem dX10_reverses_15 : decode cX10_reverses 15 = .ok (.aload_n 0, 1) := by decide +kernel
theorem dX10_reverses_16 : decode cX10_reverses 16 = .ok (.getfield 29, 3) := by decide +kernel
theorem dX10_reverses_19 : decode cX10_reverses 19 = .ok (.aload_n 0, 1) := by decide +kernel
theorem dX10_reverses_20 : decode cX10_reverses 20 = .ok (.invokevirtual 82, 3) := by decide +kernel
theorem dX10_reverses_23 : decode cX10_reverses 23 = .ok (.iconst 1, 1) := by decide +kernel
theorem dX10_reverses_24 : decode cX10_reverses 24 = .ok (.isub, 1) := by decide +kernel
theorem dX10_reverses_25 : decode cX10_reverses 25 = .ok (.iload_n 1, 1) := by decide +kernel
theorem dX10_reverses_26 : decode cX10_reverses 26 = .ok (.isub, 1) := by decide +kernel
theorem dX10_reverses_27 : decode cX10_reverses 27 = .ok (.iaload, 1) := by decide +kernel
theorem dX10_reverses_28 : decode cX10_reverses 28 = .ok (.iastore, 1) := by decide +kernel
theorem dX10_reverses_29 : decode cX10_reverses 29 = .ok (.iinc 1 1, 3) := by decide +kernel
theorem dX10_reverses_32 : decode cX10_reverses 32 = .ok (.goto (-30), 3) := by decide +kernel
theorem dX10_reverses_35 : decode cX10_reverses 35 = .ok (.return_, 1) := by decide +kernel
theorem dX10_transform_0 : decode cX10_transform 0 = .ok (.aload_n 0, 1) := by decide +kernel
theorem dX10_transform_1 : decode cX10_transform 1 = .ok (.invokevirtual 145, 3) := by decide +kernel
theorem dX10_transform_4 : decode cX10_transform 4 = .ok (.ifCond .ne 6, 3) := by decide +kernel
theorem dX10_transform_7 : decode cX10_transform 7 = .ok (.bipush (-2), 2) := by decide +kernel
theorem dX10_transform_9 : decode cX10_transform 9 = .ok (.ireturn, 1) := by decide +kernel
theorem dX10_transform_10 : decode cX10_transform 10 = .ok (.aload_n 0, 1) := by decide +kernel
theorem dX10_transform_11 : decode cX10_transform 11 = .ok (.getfield 74, 3) := by decide +kernel
theorem dX10_transform_14 : decode cX10_transform 14 = .ok (.tableswitch 90 0 4 #[34, 47, 54, 61, 68], 34) := by decide +kernel
theorem dX10_transform_48 : decode cX10_transform 48 = .ok (.aload_n 0, 1) := by decide +kernel
theorem dX10_transform_49 : decode cX10_transform 49 = .ok (.invokevirtual 214, 3) := by decide +kernel
theorem dX10_transform_52 : decode cX10_transform 52 = .ok (.ifCond .eq 7, 3) := by decide +kernel
theorem dX10_transform_55 : decode cX10_transform 55 = .ok (.iconst 1, 1) := by decide +kernel
theorem dX10_transform_56 : decode cX10_transform 56 = .ok (.goto 4, 3) := by decide +kernel
theorem dX10_transform_59 : decode cX10_transform 59 = .ok (.iconst 0, 1) := by decide +kernel
theorem dX10_transform_60 : decode cX10_transform 60 = .ok (.ireturn, 1) := by decide +kernel
theorem dX10_transform_61 : decode cX10_transform 61 = .ok (.aload_n 0, 1) := by decide +kernel
theorem dX10_transform_62 : decode cX10_transform 62 = .ok (.invokevirtual 217, 3) := by decide +kernel
theorem dX10_transform_65 : decode cX10_transform 65 = .ok (.goto 43, 3) := by decide +kernel
theorem dX10_transform_68 : decode cX10_transform 68 = .ok (.aload_n 0, 1) := by decide +kernel
theorem dX10_transform_69 : decode cX10_transform 69 = .ok (.invokevirtual 220, 3) := by decide +kernel
theorem dX10_transform_72 : decode cX10_transform 72 = .ok (.goto 36, 3) := by decide +kernel
theorem dX10_transform_75 : decode cX10_transform 75 = .ok (.aload_n 0, 1) := by decide +kernel
theorem dX10_transform_76 : decode cX10_transform 76 = .ok (.invokevirtual 223, 3) := by decide +kernel
theorem dX10_transform_79 : decode cX10_transform 79 = .ok (.goto 29, 3) := by decide +kernel
theorem dX10_transform_82 : decode cX10_transform 82 = .ok (.aload_n 0, 1) := by decide +kernel
theorem dX10_transform_83 : decode cX10_transform 83 = .ok (.invokevirtual 226, 3) := by decide +kernel
theorem dX10_transform_86 : decode cX10_transform 86 = .ok (.aload_n 0, 1) := by decide +kernel
theorem dX10_transform_87 : decode cX10_transform 87 = .ok (.getfield 32, 3) := by decide +kernel
theorem dX10_transform_90 : decode cX10_transform 90 = .ok (.iconst 0, 1) := by decide +kernel
theorem dX10_transform_91 : decode cX10_transform 91 = .ok (.iaload, 1) := by decide +kernel
theorem dX10_transform_92 : decode cX10_transform 92 = .ok (.aload_n 0, 1) := by decide +kernel
theorem dX10_transform_93 : decode cX10_transform 93 = .ok (.getfield 25, 3) := by decide +kernel
theorem dX10_transform_96 : decode cX10_transform 96 = .ok (.iconst 1, 1) := by decide +kernel
theorem dX10_transform_97 : decode cX10_transform 97 = .ok (.iaload, 1) := by decide +kernel
theorem dX10_transform_98 : decode cX10_transform 98 = .ok (.if_icmp .le 10, 3) := by decide +kernel
theorem dX10_transform_101 : decode cX10_transform 101 = .ok (.bipush (-6), 2) := by decide +kernel
theorem dX10_transform_103 : decode cX10_transform 103 = .ok (.ireturn, 1) := by decide +kernel
theorem dX10_transform_104 : decode cX10_transform 104 = .ok (.aload_n 0, 1) := by decide +kernel
theorem dX10_transform_105 : decode cX10_transform 105 = .ok (.invokevirtual 229, 3) := by decide +kernel
theorem dX10_transform_108 : decode cX10_transform 108 = .ok (.aload_n 0, 1) := by decide +kernel
theorem dX10_transform_109 : decode cX10_transform 109 = .ok (.invokevirtual 94, 3) := by decide +kernel
theorem dX10_transform_112 : decode cX10_transform 112 = .ok (.ifCond .eq 7, 3) := by decide +kernel
theorem dX10_transform_115 : decode cX10_transform 115 = .ok (.iconst 1, 1) := by decide +kernel
theorem dX10_transform_116 : decode cX10_transform 116 = .ok (.goto 4, 3) := by decide +kernel
theorem dX10_transform_119 : decode cX10_transform 119 = .ok (.iconst 0, 1) := by decide +kernel
theorem dX10_transform_120 : decode cX10_transform 120 = .ok (.ireturn, 1) := by decide +kernel
theorem dX10_toWord_0 : decode cX10_toWord 0 = .ok (.aload_n 0, 1) := by decide +kernel
theorem dX10_toWord_1 : decode cX10_toWord 1 = .ok (.getfield 74, 3) := by decide +kernel
theorem dX10_toWord_4 : decode cX10_toWord 4 = .ok (.iconst 3, 1) := by decide +kernel
theorem dX10_toWord_5 : decode cX10_toWord 5 = .ok (.if_icmp .ne 14, 3) := by decide +kernel
theorem dX10_toWord_8 : decode cX10_toWord 8 = .ok (.aload_n 0, 1) := by decide +kernel
theorem dX10_toWord_9 : decode cX10_toWord 9 = .ok (.getfield 25, 3) := by decide +kernel
theorem dX10_toWord_12 : decode cX10_toWord 12 = .ok (.iconst 0, 1) := by decide +kernel
theorem dX10_toWord_13 : decode cX10_toWord 13 = .ok (.iaload, 1) := by decide +kernel
theorem dX10_toWord_14 : decode cX10_toWord 14 = .ok (.bipush 20, 2) := by decide +kernel
theorem dX10_toWord_16 : decode cX10_toWord 16 = .ok (.if_icmp .le 6, 3) := by decide +kernel
theorem dX10_toWord_19 : decode cX10_toWord 19 = .ok (.bipush (-3), 2) := by decide +kernel
theorem dX10_toWord_21 : decode cX10_toWord 21 = .ok (.ireturn, 1) := by decide +kernel
theorem dX10_toWord_22 : decode cX10_toWord 22 = .ok (.aload_n 0, 1) := by decide +kernel
theorem dX10_toWord_23 : decode cX10_toWord 23 = .ok (.invokevirtual 145, 3) := by decide +kernel
theorem dX10_toWord_26 : decode cX10_toWord 26 = .ok (.ifCond .ne 6, 3) := by decide +kernel
theorem dX10_toWord_29 : decode cX10_toWord 29 = .ok (.bipush (-2), 2) := by decide +kernel
theorem dX10_toWord_31 : decode cX10_toWord 31 = .ok (.ireturn, 1) := by decide +kernel
theorem dX10_toWord_32 : decode cX10_toWord 32 = .ok (.aload_n 0, 1) := by decide +kernel
theorem dX10_toWord_33 : decode cX10_toWord 33 = .ok (.getfield 25, 3) := by decide +kernel
theorem dX10_toWord_36 : decode cX10_toWord 36 = .ok (.iconst 0, 1) := by decide +kernel
theorem dX10_toWord_37 : decode cX10_toWord 37 = .ok (.iaload, 1) := by decide +kernel
theorem dX10_toWord_38 : decode cX10_toWord 38 = .ok (.istore_n 1, 1) := by decide +kernel
theorem dX10_toWord_39 : decode cX10_toWord 39 = .ok (.iconst 0, 1) := by decide +kernel
theorem dX10_toWord_40 : decode cX10_toWord 40 = .ok (.istore_n 2, 1) := by decide +kernel
theorem dX10_toWord_41 : decode cX10_toWord 41 = .ok (.iconst 1, 1) := by decide +kernel
theorem dX10_toWord_42 : decode cX10_toWord 42 = .ok (.istore_n 3, 1) := by decide +kernel
theorem dX10_toWord_43 : decode cX10_toWord 43 = .ok (.aload_n 0, 1) := by decide +kernel
theorem dX10_toWord_44 : decode cX10_toWord 44 = .ok (.getfield 35, 3) := by decide +kernel
theorem dX10_toWord_47 : decode cX10_toWord 47 = .ok (.iconst 0, 1) := by decide +kernel
theorem dX10_toWord_48 : decode cX10_toWord 48 = .ok (.iconst 0, 1) := by decide +kernel
theorem dX10_toWord_49 : decode cX10_toWord 49 = .ok (.iastore, 1) := by decide +kernel
theorem dX10_toWord_50 : decode cX10_toWord 50 = .ok (.aload_n 0, 1) := by decide +kernel
theorem dX10_toWord_51 : decode cX10_toWord 51 = .ok (.getfield 38, 3) := by decide +kernel
theorem dX10_toWord_54 : decode cX10_toWord 54 = .ok (.iconst 0, 1) := by decide +kernel
theorem dX10_toWord_55 : decode cX10_toWord 55 = .ok (.iload_n 1, 1) := by decide +kernel
theorem dX10_toWord_56 : decode cX10_toWord 56 = .ok (.iastore, 1) := by decide +kernel
theorem dX10_toWord_57 : decode cX10_toWord 57 = .ok (.iload_n 3, 1) := by decide +kernel
theorem dX10_toWord_58 : decode cX10_toWord 58 = .ok (.ifCond .le 133, 3) := by decide +kernel
theorem dX10_toWord_61 : decode cX10_toWord 61 = .ok (.iinc 3 (-1), 3) := by decide +kernel
theorem dX10_toWord_64 : decode cX10_toWord 64 = .ok (.aload_n 0, 1) := by decide +kernel
theorem dX10_toWord_65 : decode cX10_toWord 65 = .ok (.getfield 35, 3) := by decide +kernel
theorem dX10_toWord_68 : decode cX10_toWord 68 = .ok (.iload_n 3, 1) := by decide +kernel
theorem dX10_toWord_69 : decode cX10_toWord 69 = .ok (.iaload, 1) := by decide +kernel
theorem dX10_toWord_70 : decode cX10_toWord 70 = .ok (.istore 4, 2) := by decide +kernel
theorem dX10_toWord_72 : decode cX10_toWord 72 = .ok (.aload_n 0, 1) := by decide +kernel
theorem dX10_toWord_73 : decode cX10_toWord 73 = .ok (.getfield 38, 3) := by decide +kernel
theorem dX10_toWord_76 : decode cX10_toWord 76 = .ok (.iload_n 3, 1) := by decide +kernel
theorem dX10_toWord_77 : decode cX10_toWord 77 = .ok (.iaload, 1) := by decide +kernel
theorem dX10_toWord_78 : decode cX10_toWord 78 = .ok (.istore 5, 2) := by decide +kernel
theorem dX10_toWord_80 : decode cX10_toWord 80 = .ok (.aload_n 0, 1) := by decide +kernel
theorem dX10_toWord_81 : decode cX10_toWord 81 = .ok (.getfield 32, 3) := by decide +kernel
theorem dX10_toWord_84 : decode cX10_toWord 84 = .ok (.iload_n 2, 1) := by decide +kernel
theorem dX10_toWord_85 : decode cX10_toWord 85 = .ok (.iload 5, 2) := by decide +kernel
theorem dX10_toWord_87 : decode cX10_toWord 87 = .ok (.ifCond .ne 7, 3) := by decide +kernel
theorem dX10_toWord_90 : decode cX10_toWord 90 = .ok (.iconst 1, 1) := by decide +kernel
theorem dX10_toWord_91 : decode cX10_toWord 91 = .ok (.goto 4, 3) := by decide +kernel
theorem dX10_toWord_94 : decode cX10_toWord 94 = .ok (.iconst 0, 1) := by decide +kernel
theorem dX10_toWord_95 : decode cX10_toWord 95 = .ok (.iastore, 1) := by decide +kernel
theorem dX10_toWord_96 : decode cX10_toWord 96 = .ok (.iinc 2 1, 3) := by decide +kernel
theorem dX10_toWord_99 : decode cX10_toWord 99 = .ok (.iload 5, 2) := by decide +kernel
theorem dX10_toWord_101 : decode cX10_toWord 101 = .ok (.ifCond .le 87, 3) := by decide +kernel
theorem dX10_toWord_104 : decode cX10_toWord 104 = .ok (.aload_n 0, 1) := by decide +kernel
theorem dX10_toWord_105 : decode cX10_toWord 105 = .ok (.getfield 29, 3) := by decide +kernel
theorem dX10_toWord_108 : decode cX10_toWord 108 = .ok (.iload 4, 2) := by decide +kernel
theorem dX10_toWord_110 : decode cX10_toWord 110 = .ok (.iaload, 1) := by decide +kernel
theorem dX10_toWord_111 : decode cX10_toWord 111 = .ok (.istore 6, 2) := by decide +kernel
theorem dX10_toWord_113 : decode cX10_toWord 113 = .ok (.iload 5, 2) := by decide +kernel
theorem dX10_toWord_115 : decode cX10_toWord 115 = .ok (.iconst 1, 1) := by decide +kernel
theorem dX10_toWord_116 : decode cX10_toWord 116 = .ok (.isub, 1) := by decide +kernel
theorem dX10_toWord_117 : decode cX10_toWord 117 = .ok (.iload 6, 2) := by decide +kernel
theorem dX10_toWord_119 : decode cX10_toWord 119 = .ok (.isub, 1) := by decide +kernel
theorem dX10_toWord_120 : decode cX10_toWord 120 = .ok (.ifCond .le 32, 3) := by decide +kernel
theorem dX10_toWord_123 : decode cX10_toWord 123 = .ok (.aload_n 0, 1) := by decide +kernel
theorem dX10_toWord_124 : decode cX10_toWord 124 = .ok (.getfield 35, 3) := by decide +kernel
theorem dX10_toWord_127 : decode cX10_toWord 127 = .ok (.iload_n 3, 1) := by decide +kernel
theorem dX10_toWord_128 : decode cX10_toWord 128 = .ok (.iload 4, 2) := by decide +kernel
theorem dX10_toWord_130 : decode cX10_toWord 130 = .ok (.iconst 1, 1) := by decide +kernel
theorem dX10_toWord_131 : decode cX10_toWord 131 = .ok (.iadd, 1) := by decide +kernel
theorem dX10_toWord_132 : decode cX10_toWord 132 = .ok (.iload 6, 2) := by decide +kernel
theorem dX10_toWord_134 : decode cX10_toWord 134 = .ok (.iadd, 1) := by decide +kernel
theorem dX10_toWord_135 : decode cX10_toWord 135 = .ok (.iastore, 1) := by decide +kernel
theorem dX10_toWord_136 : decode cX10_toWord 136 = .ok (.aload_n 0, 1) := by decide +kernel
theorem dX10_toWord_137 : decode cX10_toWord 137 = .ok (.getfield 38, 3) := by decide +kernel
theorem dX10_toWord_140 : decode cX10_toWord 140 = .ok (.iload_n 3, 1) := by decide +kernel
theorem dX10_toWord_141 : decode cX10_toWord 141 = .ok (.iload 5, 2) := by decide +kernel
theorem dX10_toWord_143 : decode cX10_toWord 143 = .ok (.iconst 1, 1) := by decide +kernel
theorem dX10_toWord_144 : decode cX10_toWord 144 = .ok (.isub, 1) := by decide +kernel
theorem dX10_toWord_145 : decode cX10_toWord 145 = .ok (.iload 6, 2) := by decide +kernel
theorem dX10_toWord_147 : decode cX10_toWord 147 = .ok (.isub, 1) := by decide +kernel
theorem dX10_toWord_148 : decode cX10_toWord 148 = .ok (.iastore, 1) := by decide +kernel
theorem dX10_toWord_149 : decode cX10_toWord 149 = .ok (.iinc 3 1, 3) := by decide +kernel
theorem dX10_toWord_152 : decode cX10_toWord 152 = .ok (.aload_n 0, 1) := by decide +kernel
theorem dX10_toWord_153 : decode cX10_toWord 153 = .ok (.getfield 38, 3) := by decide +kernel
theorem dX10_toWord_156 : decode cX10_toWord 156 = .ok (.iload_n 3, 1) := by decide +kernel
theorem dX10_toWord_157 : decode cX10_toWord 157 = .ok (.iconst 0, 1) := by decide +kernel
theorem dX10_toWord_158 : decode cX10_toWord 158 = .ok (.iastore, 1) := by decide +kernel
theorem dX10_toWord_159 : decode cX10_toWord 159 = .ok (.iinc 3 1, 3) := by decide +kernel
theorem dX10_toWord_162 : decode cX10_toWord 162 = .ok (.iload 6, 2) := by decide +kernel
theorem dX10_toWord_164 : decode cX10_toWord 164 = .ok (.ifCond .le 24, 3) := by decide +kernel
theorem dX10_toWord_167 : decode cX10_toWord 167 = .ok (.aload_n 0, 1) := by decide +kernel
theorem dX10_toWord_168 : decode cX10_toWord 168 = .ok (.getfield 35, 3) := by decide +kernel
theorem dX10_toWord_171 : decode cX10_toWord 171 = .ok (.iload_n 3, 1) := by decide +kernel
theorem dX10_toWord_172 : decode cX10_toWord 172 = .ok (.iload 4, 2) := by decide +kernel
theorem dX10_toWord_174 : decode cX10_toWord 174 = .ok (.iconst 1, 1) := by decide +kernel
theorem dX10_toWord_175 : decode cX10_toWord 175 = .ok (.iadd, 1) := by decide +kernel
theorem dX10_toWord_176 : decode cX10_toWord 176 = .ok (.iastore, 1) := by decide +kernel
theorem dX10_toWord_177 : decode cX10_toWord 177 = .ok (.aload_n 0, 1) := by decide +kernel
theorem dX10_toWord_178 : decode cX10_toWord 178 = .ok (.getfield 38, 3) := by decide +kernel
theorem dX10_toWord_181 : decode cX10_toWord 181 = .ok (.iload_n 3, 1) := by decide +kernel
theorem dX10_toWord_182 : decode cX10_toWord 182 = .ok (.iload 6, 2) := by decide +kernel
theorem dX10_toWord_184 : decode cX10_toWord 184 = .ok (.iastore, 1) := by decide +kernel
theorem dX10_toWord_185 : decode cX10_toWord 185 = .ok (.iinc 3 1, 3) := by decide +kernel
theorem dX10_toWord_188 : decode cX10_toWord 188 = .ok (.goto (-131), 3) := by decide +kernel
theorem dX10_toWord_191 : decode cX10_toWord 191 = .ok (.aload_n 0, 1) := by decide +kernel
theorem dX10_toWord_192 : decode cX10_toWord 192 = .ok (.iconst 2, 1) := by decide +kernel
theorem dX10_toWord_193 : decode cX10_toWord 193 = .ok (.iload_n 1, 1) := by decide +kernel
theorem dX10_toWord_194 : decode cX10_toWord 194 = .ok (.iconst 1, 1) := by decide +kernel
theorem dX10_toWord_195 : decode cX10_toWord 195 = .ok (.iconst 0, 1) := by decide +kernel
theorem dX10_toWord_196 : decode cX10_toWord 196 = .ok (.iconst 0, 1) := by decide +kernel
theorem dX10_toWord_197 : decode cX10_toWord 197 = .ok (.invokevirtual 86, 3) := by decide +kernel
theorem dX10_toWord_200 : decode cX10_toWord 200 = .ok (.aload_n 0, 1) := by decide +kernel
theorem dX10_toWord_201 : decode cX10_toWord 201 = .ok (.invokevirtual 94, 3) := by decide +kernel
theorem dX10_toWord_204 : decode cX10_toWord 204 = .ok (.pop, 1) := by decide +kernel
theorem dX10_toWord_205 : decode cX10_toWord 205 = .ok (.iload_n 1, 1) := by decide +kernel
theorem dX10_toWord_206 : decode cX10_toWord 206 = .ok (.ireturn, 1) := by decide +kernel
theorem dX10_closeOf_0 : decode cX10_closeOf 0 = .ok (.iconst 1, 1) := by decide +kernel
theorem dX10_closeOf_1 : decode cX10_closeOf 1 = .ok (.istore_n 2, 1) := by decide +kernel
theorem dX10_closeOf_2 : decode cX10_closeOf 2 = .ok (.iload_n 1, 1) := by decide +kernel
theorem dX10_closeOf_3 : decode cX10_closeOf 3 = .ok (.istore_n 3, 1) := by decide +kernel
theorem dX10_closeOf_4 : decode cX10_closeOf 4 = .ok (.iload_n 2, 1) := by decide +kernel
theorem dX10_closeOf_5 : decode cX10_closeOf 5 = .ok (.ifCond .le 26, 3) := by decide +kernel
theorem dX10_closeOf_8 : decode cX10_closeOf 8 = .ok (.iinc 3 1, 3) := by decide +kernel
theorem dX10_closeOf_11 : decode cX10_closeOf 11 = .ok (.iload_n 2, 1) := by decide +kernel
theorem dX10_closeOf_12 : decode cX10_closeOf 12 = .ok (.aload_n 0, 1) := by decide +kernel
theorem dX10_closeOf_13 : decode cX10_closeOf 13 = .ok (.getfield 29, 3) := by decide +kernel
theorem dX10_closeOf_16 : decode cX10_closeOf 16 = .ok (.iload_n 3, 1) := by decide +kernel
theorem dX10_closeOf_17 : decode cX10_closeOf 17 = .ok (.iaload, 1) := by decide +kernel
theorem dX10_closeOf_18 : decode cX10_closeOf 18 = .ok (.ifCond .ne 7, 3) := by decide +kernel
theorem dX10_closeOf_21 : decode cX10_closeOf 21 = .ok (.iconst 1, 1) := by decide +kernel
theorem dX10_closeOf_22 : decode cX10_closeOf 22 = .ok (.goto 4, 3) := by decide +kernel
theorem dX10_closeOf_25 : decode cX10_closeOf 25 = .ok (.iconst (-1), 1) := by decide +kernel
theorem dX10_closeOf_26 : decode cX10_closeOf 26 = .ok (.iadd, 1) := by decide +kernel
theorem dX10_closeOf_27 : decode cX10_closeOf 27 = .ok (.istore_n 2, 1) := by decide +kernel
theorem dX10_closeOf_28 : decode cX10_closeOf 28 = .ok (.goto (-24), 3) := by decide +kernel
theorem dX10_closeOf_31 : decode cX10_closeOf 31 = .ok (.iload_n 3, 1) := by decide +kernel
theorem dX10_closeOf_32 : decode cX10_closeOf 32 = .ok (.ireturn, 1) := by decide +kernel
theorem dX10_toTree_0 : decode cX10_toTree 0 = .ok (.aload_n 0, 1) := by decide +kernel
theorem dX10_toTree_1 : decode cX10_toTree 1 = .ok (.getfield 74, 3) := by decide +kernel
theorem dX10_toTree_4 : decode cX10_toTree 4 = .ok (.iconst 2, 1) := by decide +kernel
theorem dX10_toTree_5 : decode cX10_toTree 5 = .ok (.if_icmp .ne 13, 3) := by decide +kernel
theorem dX10_toTree_8 : decode cX10_toTree 8 = .ok (.aload_n 0, 1) := by decide +kernel
theorem dX10_toTree_9 : decode cX10_toTree 9 = .ok (.getfield 25, 3) := by decide +kernel
theorem dX10_toTree_12 : decode cX10_toTree 12 = .ok (.iconst 1, 1) := by decide +kernel
theorem dX10_toTree_13 : decode cX10_toTree 13 = .ok (.iaload, 1) := by decide +kernel
theorem dX10_toTree_14 : decode cX10_toTree 14 = .ok (.iconst 1, 1) := by decide +kernel
theorem dX10_toTree_15 : decode cX10_toTree 15 = .ok (.if_icmp .eq 6, 3) := by decide +kernel
theorem dX10_toTree_18 : decode cX10_toTree 18 = .ok (.bipush (-3), 2) := by decide +kernel
theorem dX10_toTree_20 : decode cX10_toTree 20 = .ok (.ireturn, 1) := by decide +kernel
theorem dX10_toTree_21 : decode cX10_toTree 21 = .ok (.aload_n 0, 1) := by decide +kernel
theorem dX10_toTree_22 : decode cX10_toTree 22 = .ok (.invokevirtual 145, 3) := by decide +kernel
theorem dX10_toTree_25 : decode cX10_toTree 25 = .ok (.ifCond .ne 6, 3) := by decide +kernel
theorem dX10_toTree_28 : decode cX10_toTree 28 = .ok (.bipush (-2), 2) := by decide +kernel
theorem dX10_toTree_30 : decode cX10_toTree 30 = .ok (.ireturn, 1) := by decide +kernel
theorem dX10_toTree_31 : decode cX10_toTree 31 = .ok (.iconst 0, 1) := by decide +kernel
theorem dX10_toTree_32 : decode cX10_toTree 32 = .ok (.istore_n 1, 1) := by decide +kernel
theorem dX10_toTree_33 : decode cX10_toTree 33 = .ok (.iconst 0, 1) := by decide +kernel
theorem dX10_toTree_34 : decode cX10_toTree 34 = .ok (.istore_n 2, 1) := by decide +kernel
theorem dX10_toTree_35 : decode cX10_toTree 35 = .ok (.iload_n 2, 1) := by decide +kernel
theorem dX10_toTree_36 : decode cX10_toTree 36 = .ok (.iconst 2, 1) := by decide +kernel
theorem dX10_toTree_37 : decode cX10_toTree 37 = .ok (.aload_n 0, 1) := by decide +kernel
theorem dX10_toTree_38 : decode cX10_toTree 38 = .ok (.getfield 25, 3) := by decide +kernel
theorem dX10_toTree_41 : decode cX10_toTree 41 = .ok (.iconst 0, 1) := by decide +kernel
theorem dX10_toTree_42 : decode cX10_toTree 42 = .ok (.iaload, 1) := by decide +kernel
theorem dX10_toTree_43 : decode cX10_toTree 43 = .ok (.imul, 1) := by decide +kernel
theorem dX10_toTree_44 : decode cX10_toTree 44 = .ok (.if_icmp .ge 38, 3) := by decide +kernel
theorem dX10_toTree_47 : decode cX10_toTree 47 = .ok (.aload_n 0, 1) := by decide +kernel
theorem dX10_toTree_48 : decode cX10_toTree 48 = .ok (.getfield 29, 3) := by decide +kernel
theorem dX10_toTree_51 : decode cX10_toTree 51 = .ok (.iload_n 2, 1) := by decide +kernel
theorem dX10_toTree_52 : decode cX10_toTree 52 = .ok (.iaload, 1) := by decide +kernel
theorem dX10_toTree_53 : decode cX10_toTree 53 = .ok (.ifCond .ne 23, 3) := by decide +kernel
theorem dX10_toTree_56 : decode cX10_toTree 56 = .ok (.aload_n 0, 1) := by decide +kernel
theorem dX10_toTree_57 : decode cX10_toTree 57 = .ok (.getfield 32, 3) := by decide +kernel
theorem dX10_toTree_60 : decode cX10_toTree 60 = .ok (.iload_n 1, 1) := by decide +kernel
theorem dX10_toTree_61 : decode cX10_toTree 61 = .ok (.aload_n 0, 1) := by decide +kernel
theorem dX10_toTree_62 : decode cX10_toTree 62 = .ok (.iload_n 2, 1) := by decide +kernel
theorem dX10_toTree_63 : decode cX10_toTree 63 = .ok (.invokevirtual 232, 3) := by decide +kernel
theorem dX10_toTree_66 : decode cX10_toTree 66 = .ok (.iload_n 2, 1) := by decide +kernel
theorem dX10_toTree_67 : decode cX10_toTree 67 = .ok (.isub, 1) := by decide +kernel
theorem dX10_toTree_68 : decode cX10_toTree 68 = .ok (.iconst 1, 1) := by decide +kernel
theorem dX10_toTree_69 : decode cX10_toTree 69 = .ok (.isub, 1) := by decide +kernel
theorem dX10_toTree_70 : decode cX10_toTree 70 = .ok (.iconst 2, 1) := by decide +kernel
theorem dX10_toTree_71 : decode cX10_toTree 71 = .ok (.idiv, 1) := by decide +kernel
theorem dX10_toTree_72 : decode cX10_toTree 72 = .ok (.iastore, 1) := by decide +kernel
theorem dX10_toTree_73 : decode cX10_toTree 73 = .ok (.iinc 1 1, 3) := by decide +kernel
theorem dX10_toTree_76 : decode cX10_toTree 76 = .ok (.iinc 2 1, 3) := by decide +kernel
theorem dX10_toTree_79 : decode cX10_toTree 79 = .ok (.goto (-44), 3) := by decide +kernel
theorem dX10_toTree_82 : decode cX10_toTree 82 = .ok (.aload_n 0, 1) := by decide +kernel
theorem dX10_toTree_83 : decode cX10_toTree 83 = .ok (.iconst 3, 1) := by decide +kernel
theorem dX10_toTree_84 : decode cX10_toTree 84 = .ok (.iload_n 1, 1) := by decide +kernel
theorem dX10_toTree_85 : decode cX10_toTree 85 = .ok (.iconst 0, 1) := by decide +kernel
theorem dX10_toTree_86 : decode cX10_toTree 86 = .ok (.iconst 0, 1) := by decide +kernel
theorem dX10_toTree_87 : decode cX10_toTree 87 = .ok (.iconst 0, 1) := by decide +kernel
theorem dX10_toTree_88 : decode cX10_toTree 88 = .ok (.invokevirtual 86, 3) := by decide +kernel
theorem dX10_toTree_91 : decode cX10_toTree 91 = .ok (.aload_n 0, 1) := by decide +kernel
theorem dX10_toTree_92 : decode cX10_toTree 92 = .ok (.invokevirtual 94, 3) := by decide +kernel
theorem dX10_toTree_95 : decode cX10_toTree 95 = .ok (.pop, 1) := by decide +kernel
theorem dX10_toTree_96 : decode cX10_toTree 96 = .ok (.iload_n 1, 1) := by decide +kernel
theorem dX10_toTree_97 : decode cX10_toTree 97 = .ok (.ireturn, 1) := by decide +kernel
theorem dX10_descents_0 : decode cX10_descents 0 = .ok (.aload_n 0, 1) := by decide +kernel
theorem dX10_descents_1 : decode cX10_descents 1 = .ok (.invokevirtual 145, 3) := by decide +kernel
theorem dX10_descents_4 : decode cX10_descents 4 = .ok (.ifCond .ne 6, 3) := by decide +kernel
theorem dX10_descents_7 : decode cX10_descents 7 = .ok (.bipush (-2), 2) := by decide +kernel
theorem dX10_descents_9 : decode cX10_descents 9 = .ok (.ireturn, 1) := by decide +kernel
theorem dX10_descents_10 : decode cX10_descents 10 = .ok (.iconst 0, 1) := by decide +kernel
theorem dX10_descents_11 : decode cX10_descents 11 = .ok (.istore_n 1, 1) := by decide +kernel
theorem dX10_descents_12 : decode cX10_descents 12 = .ok (.iconst 1, 1) := by decide +kernel
theorem dX10_descents_13 : decode cX10_descents 13 = .ok (.istore_n 2, 1) := by decide +kernel
theorem dX10_descents_14 : decode cX10_descents 14 = .ok (.iload_n 2, 1) := by decide +kernel
theorem dX10_descents_15 : decode cX10_descents 15 = .ok (.aload_n 0, 1) := by decide +kernel
theorem dX10_descents_16 : decode cX10_descents 16 = .ok (.invokevirtual 82, 3) := by decide +kernel
theorem dX10_descents_19 : decode cX10_descents 19 = .ok (.if_icmp .ge 34, 3) := by decide +kernel
theorem dX10_descents_22 : decode cX10_descents 22 = .ok (.iload_n 1, 1) := by decide +kernel
theorem dX10_descents_23 : decode cX10_descents 23 = .ok (.aload_n 0, 1) := by decide +kernel
theorem dX10_descents_24 : decode cX10_descents 24 = .ok (.getfield 29, 3) := by decide +kernel
theorem dX10_descents_27 : decode cX10_descents 27 = .ok (.iload_n 2, 1) := by decide +kernel
theorem dX10_descents_28 : decode cX10_descents 28 = .ok (.iaload, 1) := by decide +kernel
theorem dX10_descents_29 : decode cX10_descents 29 = .ok (.aload_n 0, 1) := by decide +kernel
theorem dX10_descents_30 : decode cX10_descents 30 = .ok (.getfield 29, 3) := by decide +kernel
theorem dX10_descents_33 : decode cX10_descents 33 = .ok (.iload_n 2, 1) := by decide +kernel
theorem dX10_descents_34 : decode cX10_descents 34 = .ok (.iconst 1, 1) := by decide +kernel
theorem dX10_descents_35 : decode cX10_descents 35 = .ok (.isub, 1) := by decide +kernel
theorem dX10_descents_36 : decode cX10_descents 36 = .ok (.iaload, 1) := by decide +kernel
theorem dX10_descents_37 : decode cX10_descents 37 = .ok (.if_icmp .ge 7, 3) := by decide +kernel
theorem dX10_descents_40 : decode cX10_descents 40 = .ok (.iconst 1, 1) := by decide +kernel
theorem dX10_descents_41 : decode cX10_descents 41 = .ok (.goto 4, 3) := by decide +kernel
theorem dX10_descents_44 : decode cX10_descents 44 = .ok (.iconst 0, 1) := by decide +kernel
theorem dX10_descents_45 : decode cX10_descents 45 = .ok (.iadd, 1) := by decide +kernel
theorem dX10_descents_46 : decode cX10_descents 46 = .ok (.istore_n 1, 1) := by decide +kernel
theorem dX10_descents_47 : decode cX10_descents 47 = .ok (.iinc 2 1, 3) := by decide +kernel
theorem dX10_descents_50 : decode cX10_descents 50 = .ok (.goto (-36), 3) := by decide +kernel
theorem dX10_descents_53 : decode cX10_descents 53 = .ok (.iload_n 1, 1) := by decide +kernel
theorem dX10_descents_54 : decode cX10_descents 54 = .ok (.ireturn, 1) := by decide +kernel
theorem dX10_entryCount_0 : decode cX10_entryCount 0 = .ok (.aload_n 0, 1) := by decide +kernel
theorem dX10_entryCount_1 : decode cX10_entryCount 1 = .ok (.aload_n 0, 1) := by decide +kernel
theorem dX10_entryCount_2 : decode cX10_entryCount 2 = .ok (.getfield 47, 3) := by decide +kernel
theorem dX10_entryCount_5 : decode cX10_entryCount 5 = .ok (.iload_n 1, 1) := by decide +kernel
theorem dX10_entryCount_6 : decode cX10_entryCount 6 = .ok (.iaload, 1) := by decide +kernel
theorem dX10_entryCount_7 : decode cX10_entryCount 7 = .ok (.aload_n 0, 1) := by decide +kernel
theorem dX10_entryCount_8 : decode cX10_entryCount 8 = .ok (.getfield 50, 3) := by decide +kernel
theorem dX10_entryCount_11 : decode cX10_entryCount 11 = .ok (.iconst 4, 1) := by decide +kernel
theorem dX10_entryCount_12 : decode cX10_entryCount 12 = .ok (.iload_n 1, 1) := by decide +kernel
theorem dX10_entryCount_13 : decode cX10_entryCount 13 = .ok (.imul, 1) := by decide +kernel
theorem dX10_entryCount_14 : decode cX10_entryCount 14 = .ok (.iaload, 1) := by decide +kernel
theorem dX10_entryCount_15 : decode cX10_entryCount 15 = .ok (.aload_n 0, 1) := by decide +kernel
theorem dX10_entryCount_16 : decode cX10_entryCount 16 = .ok (.getfield 50, 3) := by decide +kernel
theorem dX10_entryCount_19 : decode cX10_entryCount 19 = .ok (.iconst 4, 1) := by decide +kernel
theorem dX10_entryCount_20 : decode cX10_entryCount 20 = .ok (.iload_n 1, 1) := by decide +kernel
theorem dX10_entryCount_21 : decode cX10_entryCount 21 = .ok (.imul, 1) := by decide +kernel
theorem dX10_entryCount_22 : decode cX10_entryCount 22 = .ok (.iconst 1, 1) := by decide +kernel
theorem dX10_entryCount_23 : decode cX10_entryCount 23 = .ok (.iadd, 1) := by decide +kernel
theorem dX10_entryCount_24 : decode cX10_entryCount 24 = .ok (.iaload, 1) := by decide +kernel
theorem dX10_entryCount_25 : decode cX10_entryCount 25 = .ok (.aload_n 0, 1) := by decide +kernel
theorem dX10_entryCount_26 : decode cX10_entryCount 26 = .ok (.getfield 50, 3) := by decide +kernel
theorem dX10_entryCount_29 : decode cX10_entryCount 29 = .ok (.iconst 4, 1) := by decide +kernel
theorem dX10_entryCount_30 : decode cX10_entryCount 30 = .ok (.iload_n 1, 1) := by decide +kernel
theorem dX10_entryCount_31 : decode cX10_entryCount 31 = .ok (.imul, 1) := by decide +kernel
theorem dX10_entryCount_32 : decode cX10_entryCount 32 = .ok (.iconst 2, 1) := by decide +kernel
theorem dX10_entryCount_33 : decode cX10_entryCount 33 = .ok (.iadd, 1) := by decide +kernel
theorem dX10_entryCount_34 : decode cX10_entryCount 34 = .ok (.iaload, 1) := by decide +kernel
theorem dX10_entryCount_35 : decode cX10_entryCount 35 = .ok (.aload_n 0, 1) := by decide +kernel
theorem dX10_entryCount_36 : decode cX10_entryCount 36 = .ok (.getfield 50, 3) := by decide +kernel
theorem dX10_entryCount_39 : decode cX10_entryCount 39 = .ok (.iconst 4, 1) := by decide +kernel
theorem dX10_entryCount_40 : decode cX10_entryCount 40 = .ok (.iload_n 1, 1) := by decide +kernel
theorem dX10_entryCount_41 : decode cX10_entryCount 41 = .ok (.imul, 1) := by decide +kernel
theorem dX10_entryCount_42 : decode cX10_entryCount 42 = .ok (.iconst 3, 1) := by decide +kernel
theorem dX10_entryCount_43 : decode cX10_entryCount 43 = .ok (.iadd, 1) := by decide +kernel
theorem dX10_entryCount_44 : decode cX10_entryCount 44 = .ok (.iaload, 1) := by decide +kernel
theorem dX10_entryCount_45 : decode cX10_entryCount 45 = .ok (.invokevirtual 78, 3) := by decide +kernel
theorem dX10_entryCount_48 : decode cX10_entryCount 48 = .ok (.lreturn, 1) := by decide +kernel
theorem dX10_totalNow_0 : decode cX10_totalNow 0 = .ok (.lconst 1, 1) := by decide +kernel
theorem dX10_totalNow_1 : decode cX10_totalNow 1 = .ok (.lstore_n 1, 1) := by decide +kernel
theorem dX10_totalNow_2 : decode cX10_totalNow 2 = .ok (.iconst 0, 1) := by decide +kernel
theorem dX10_totalNow_3 : decode cX10_totalNow 3 = .ok (.istore_n 3, 1) := by decide +kernel
theorem dX10_totalNow_4 : decode cX10_totalNow 4 = .ok (.iload_n 3, 1) := by decide +kernel
theorem dX10_totalNow_5 : decode cX10_totalNow 5 = .ok (.aload_n 0, 1) := by decide +kernel
theorem dX10_totalNow_6 : decode cX10_totalNow 6 = .ok (.getfield 235, 3) := by decide +kernel
theorem dX10_totalNow_9 : decode cX10_totalNow 9 = .ok (.if_icmp .ge 17, 3) := by decide +kernel
theorem dX10_totalNow_12 : decode cX10_totalNow 12 = .ok (.lload_n 1, 1) := by decide +kernel
theorem dX10_totalNow_13 : decode cX10_totalNow 13 = .ok (.aload_n 0, 1) := by decide +kernel
theorem dX10_totalNow_14 : decode cX10_totalNow 14 = .ok (.iload_n 3, 1) := by decide +kernel
theorem dX10_totalNow_15 : decode cX10_totalNow 15 = .ok (.invokevirtual 238, 3) := by decide +kernel
theorem dX10_totalNow_18 : decode cX10_totalNow 18 = .ok (.lmul, 1) := by decide +kernel
theorem dX10_totalNow_19 : decode cX10_totalNow 19 = .ok (.lstore_n 1, 1) := by decide +kernel
theorem dX10_totalNow_20 : decode cX10_totalNow 20 = .ok (.iinc 3 1, 3) := by decide +kernel
theorem dX10_totalNow_23 : decode cX10_totalNow 23 = .ok (.goto (-19), 3) := by decide +kernel
theorem dX10_totalNow_26 : decode cX10_totalNow 26 = .ok (.lload_n 1, 1) := by decide +kernel
theorem dX10_totalNow_27 : decode cX10_totalNow 27 = .ok (.lreturn, 1) := by decide +kernel
theorem dX10_store_0 : decode cX10_store 0 = .ok (.aload_n 0, 1) := by decide +kernel
theorem dX10_store_1 : decode cX10_store 1 = .ok (.invokevirtual 145, 3) := by decide +kernel
theorem dX10_store_4 : decode cX10_store 4 = .ok (.ifCond .ne 6, 3) := by decide +kernel
theorem dX10_store_7 : decode cX10_store 7 = .ok (.bipush (-2), 2) := by decide +kernel
theorem dX10_store_9 : decode cX10_store 9 = .ok (.ireturn, 1) := by decide +kernel
theorem dX10_store_10 : decode cX10_store 10 = .ok (.aload_n 0, 1) := by decide +kernel
theorem dX10_store_11 : decode cX10_store 11 = .ok (.getfield 235, 3) := by decide +kernel
theorem dX10_store_14 : decode cX10_store 14 = .ok (.bipush 10, 2) := by decide +kernel
theorem dX10_store_16 : decode cX10_store 16 = .ok (.if_icmp .eq 19, 3) := by decide +kernel
theorem dX10_store_19 : decode cX10_store 19 = .ok (.aload_n 0, 1) := by decide +kernel
theorem dX10_store_20 : decode cX10_store 20 = .ok (.invokevirtual 116, 3) := by decide +kernel
theorem dX10_store_23 : decode cX10_store 23 = .ok (.ldc2_w 241, 3) := by decide +kernel
theorem dX10_store_26 : decode cX10_store 26 = .ok (.aload_n 0, 1) := by decide +kernel
theorem dX10_store_27 : decode cX10_store 27 = .ok (.invokevirtual 243, 3) := by decide +kernel
theorem dX10_store_30 : decode cX10_store 30 = .ok (.ldiv, 1) := by decide +kernel
theorem dX10_store_31 : decode cX10_store 31 = .ok (.lcmp, 1) := by decide +kernel
theorem dX10_store_32 : decode cX10_store 32 = .ok (.ifCond .le 6, 3) := by decide +kernel
theorem dX10_store_35 : decode cX10_store 35 = .ok (.bipush (-4), 2) := by decide +kernel
theorem dX10_store_37 : decode cX10_store 37 = .ok (.ireturn, 1) := by decide +kernel
theorem dX10_store_38 : decode cX10_store 38 = .ok (.aload_n 0, 1) := by decide +kernel
theorem dX10_store_39 : decode cX10_store 39 = .ok (.getfield 47, 3) := by decide +kernel
theorem dX10_store_42 : decode cX10_store 42 = .ok (.aload_n 0, 1) := by decide +kernel
theorem dX10_store_43 : decode cX10_store 43 = .ok (.getfield 235, 3) := by decide +kernel
theorem dX10_store_46 : decode cX10_store 46 = .ok (.aload_n 0, 1) := by decide +kernel
theorem dX10_store_47 : decode cX10_store 47 = .ok (.getfield 74, 3) := by decide +kernel
theorem dX10_store_50 : decode cX10_store 50 = .ok (.iastore, 1) := by decide +kernel
theorem dX10_store_51 : decode cX10_store 51 = .ok (.iconst 0, 1) := by decide +kernel
theorem dX10_store_52 : decode cX10_store 52 = .ok (.istore_n 1, 1) := by decide +kernel
theorem dX10_store_53 : decode cX10_store 53 = .ok (.iload_n 1, 1) := by decide +kernel
theorem dX10_store_54 : decode cX10_store 54 = .ok (.iconst 4, 1) := by decide +kernel
theorem dX10_store_55 : decode cX10_store 55 = .ok (.if_icmp .ge 28, 3) := by decide +kernel
theorem dX10_store_58 : decode cX10_store 58 = .ok (.aload_n 0, 1) := by decide +kernel
theorem dX10_store_59 : decode cX10_store 59 = .ok (.getfield 50, 3) := by decide +kernel
theorem dX10_store_62 : decode cX10_store 62 = .ok (.iconst 4, 1) := by decide +kernel
theorem dX10_store_63 : decode cX10_store 63 = .ok (.aload_n 0, 1) := by decide +kernel
theorem dX10_store_64 : decode cX10_store 64 = .ok (.getfield 235, 3) := by decide +kernel
theorem dX10_store_67 : decode cX10_store 67 = .ok (.imul, 1) := by decide +kernel
theorem dX10_store_68 : decode cX10_store 68 = .ok (.iload_n 1, 1) := by decide +kernel
theorem dX10_store_69 : decode cX10_store 69 = .ok (.iadd, 1) := by decide +kernel
theorem dX10_store_70 : decode cX10_store 70 = .ok (.aload_n 0, 1) := by decide +kernel
theorem dX10_store_71 : decode cX10_store 71 = .ok (.getfield 25, 3) := by decide +kernel
theorem dX10_store_74 : decode cX10_store 74 = .ok (.iload_n 1, 1) := by decide +kernel
theorem dX10_store_75 : decode cX10_store 75 = .ok (.iaload, 1) := by decide +kernel
theorem dX10_store_76 : decode cX10_store 76 = .ok (.iastore, 1) := by decide +kernel
theorem dX10_store_77 : decode cX10_store 77 = .ok (.iinc 1 1, 3) := by decide +kernel
theorem dX10_store_80 : decode cX10_store 80 = .ok (.goto (-27), 3) := by decide +kernel
theorem dX10_store_83 : decode cX10_store 83 = .ok (.aload_n 0, 1) := by decide +kernel
theorem dX10_store_84 : decode cX10_store 84 = .ok (.getfield 53, 3) := by decide +kernel
theorem dX10_store_87 : decode cX10_store 87 = .ok (.aload_n 0, 1) := by decide +kernel
theorem dX10_store_88 : decode cX10_store 88 = .ok (.getfield 235, 3) := by decide +kernel
theorem dX10_store_91 : decode cX10_store 91 = .ok (.aload_n 0, 1) := by decide +kernel
theorem dX10_store_92 : decode cX10_store 92 = .ok (.invokevirtual 179, 3) := by decide +kernel
theorem dX10_store_95 : decode cX10_store 95 = .ok (.lastore, 1) := by decide +kernel
theorem dX10_store_96 : decode cX10_store 96 = .ok (.aload_n 0, 1) := by decide +kernel
theorem dX10_store_97 : decode cX10_store 97 = .ok (.dup, 1) := by decide +kernel
theorem dX10_store_98 : decode cX10_store 98 = .ok (.getfield 235, 3) := by decide +kernel
theorem dX10_store_101 : decode cX10_store 101 = .ok (.iconst 1, 1) := by decide +kernel
theorem dX10_store_102 : decode cX10_store 102 = .ok (.iadd, 1) := by decide +kernel
theorem dX10_store_103 : decode cX10_store 103 = .ok (.putfield 235, 3) := by decide +kernel
theorem dX10_store_106 : decode cX10_store 106 = .ok (.aload_n 0, 1) := by decide +kernel
theorem dX10_store_107 : decode cX10_store 107 = .ok (.getfield 235, 3) := by decide +kernel
theorem dX10_store_110 : decode cX10_store 110 = .ok (.iconst 1, 1) := by decide +kernel
theorem dX10_store_111 : decode cX10_store 111 = .ok (.isub, 1) := by decide +kernel
theorem dX10_store_112 : decode cX10_store 112 = .ok (.ireturn, 1) := by decide +kernel
theorem dX10_fetch_0 : decode cX10_fetch 0 = .ok (.iload_n 1, 1) := by decide +kernel
theorem dX10_fetch_1 : decode cX10_fetch 1 = .ok (.i2l, 1) := by decide +kernel
theorem dX10_fetch_2 : decode cX10_fetch 2 = .ok (.lconst 0, 1) := by decide +kernel
theorem dX10_fetch_3 : decode cX10_fetch 3 = .ok (.aload_n 0, 1) := by decide +kernel
theorem dX10_fetch_4 : decode cX10_fetch 4 = .ok (.getfield 235, 3) := by decide +kernel
theorem dX10_fetch_7 : decode cX10_fetch 7 = .ok (.i2l, 1) := by decide +kernel
theorem dX10_fetch_8 : decode cX10_fetch 8 = .ok (.lconst 1, 1) := by decide +kernel
theorem dX10_fetch_9 : decode cX10_fetch 9 = .ok (.lsub, 1) := by decide +kernel
theorem dX10_fetch_10 : decode cX10_fetch 10 = .ok (.invokestatic 100, 3) := by decide +kernel
theorem dX10_fetch_13 : decode cX10_fetch 13 = .ok (.ifCond .ne 6, 3) := by decide +kernel
theorem dX10_fetch_16 : decode cX10_fetch 16 = .ok (.bipush (-5), 2) := by decide +kernel
theorem dX10_fetch_18 : decode cX10_fetch 18 = .ok (.ireturn, 1) := by decide +kernel
theorem dX10_fetch_19 : decode cX10_fetch 19 = .ok (.aload_n 0, 1) := by decide +kernel
theorem dX10_fetch_20 : decode cX10_fetch 20 = .ok (.aload_n 0, 1) := by decide +kernel
theorem dX10_fetch_21 : decode cX10_fetch 21 = .ok (.getfield 47, 3) := by decide +kernel
theorem dX10_fetch_24 : decode cX10_fetch 24 = .ok (.iload_n 1, 1) := by decide +kernel
theorem dX10_fetch_25 : decode cX10_fetch 25 = .ok (.iaload, 1) := by decide +kernel
theorem dX10_fetch_26 : decode cX10_fetch 26 = .ok (.aload_n 0, 1) := by decide +kernel
theorem dX10_fetch_27 : decode cX10_fetch 27 = .ok (.getfield 50, 3) := by decide +kernel
theorem dX10_fetch_30 : decode cX10_fetch 30 = .ok (.iconst 4, 1) := by decide +kernel
theorem dX10_fetch_31 : decode cX10_fetch 31 = .ok (.iload_n 1, 1) := by decide +kernel
theorem dX10_fetch_32 : decode cX10_fetch 32 = .ok (.imul, 1) := by decide +kernel
theorem dX10_fetch_33 : decode cX10_fetch 33 = .ok (.iaload, 1) := by decide +kernel
theorem dX10_fetch_34 : decode cX10_fetch 34 = .ok (.aload_n 0, 1) := by decide +kernel
theorem dX10_fetch_35 : decode cX10_fetch 35 = .ok (.getfield 50, 3) := by decide +kernel
theorem dX10_fetch_38 : decode cX10_fetch 38 = .ok (.iconst 4, 1) := by decide +kernel
theorem dX10_fetch_39 : decode cX10_fetch 39 = .ok (.iload_n 1, 1) := by decide +kernel
theorem dX10_fetch_40 : decode cX10_fetch 40 = .ok (.imul, 1) := by decide +kernel
theorem dX10_fetch_41 : decode cX10_fetch 41 = .ok (.iconst 1, 1) := by decide +kernel
theorem dX10_fetch_42 : decode cX10_fetch 42 = .ok (.iadd, 1) := by decide +kernel
theorem dX10_fetch_43 : decode cX10_fetch 43 = .ok (.iaload, 1) := by decide +kernel
theorem dX10_fetch_44 : decode cX10_fetch 44 = .ok (.aload_n 0, 1) := by decide +kernel
theorem dX10_fetch_45 : decode cX10_fetch 45 = .ok (.getfield 50, 3) := by decide +kernel
theorem dX10_fetch_48 : decode cX10_fetch 48 = .ok (.iconst 4, 1) := by decide +kernel
theorem dX10_fetch_49 : decode cX10_fetch 49 = .ok (.iload_n 1, 1) := by decide +kernel
theorem dX10_fetch_50 : decode cX10_fetch 50 = .ok (.imul, 1) := by decide +kernel
theorem dX10_fetch_51 : decode cX10_fetch 51 = .ok (.iconst 2, 1) := by decide +kernel
theorem dX10_fetch_52 : decode cX10_fetch 52 = .ok (.iadd, 1) := by decide +kernel
theorem dX10_fetch_53 : decode cX10_fetch 53 = .ok (.iaload, 1) := by decide +kernel
theorem dX10_fetch_54 : decode cX10_fetch 54 = .ok (.aload_n 0, 1) := by decide +kernel
theorem dX10_fetch_55 : decode cX10_fetch 55 = .ok (.getfield 50, 3) := by decide +kernel
theorem dX10_fetch_58 : decode cX10_fetch 58 = .ok (.iconst 4, 1) := by decide +kernel
theorem dX10_fetch_59 : decode cX10_fetch 59 = .ok (.iload_n 1, 1) := by decide +kernel
theorem dX10_fetch_60 : decode cX10_fetch 60 = .ok (.imul, 1) := by decide +kernel
theorem dX10_fetch_61 : decode cX10_fetch 61 = .ok (.iconst 3, 1) := by decide +kernel
theorem dX10_fetch_62 : decode cX10_fetch 62 = .ok (.iadd, 1) := by decide +kernel
theorem dX10_fetch_63 : decode cX10_fetch 63 = .ok (.iaload, 1) := by decide +kernel
theorem dX10_fetch_64 : decode cX10_fetch 64 = .ok (.invokevirtual 86, 3) := by decide +kernel
theorem dX10_fetch_67 : decode cX10_fetch 67 = .ok (.aload_n 0, 1) := by decide +kernel
theorem dX10_fetch_68 : decode cX10_fetch 68 = .ok (.aload_n 0, 1) := by decide +kernel
theorem dX10_fetch_69 : decode cX10_fetch 69 = .ok (.getfield 53, 3) := by decide +kernel
theorem dX10_fetch_72 : decode cX10_fetch 72 = .ok (.iload_n 1, 1) := by decide +kernel
theorem dX10_fetch_73 : decode cX10_fetch 73 = .ok (.laload, 1) := by decide +kernel
theorem dX10_fetch_74 : decode cX10_fetch 74 = .ok (.invokevirtual 90, 3) := by decide +kernel
theorem dX10_fetch_77 : decode cX10_fetch 77 = .ok (.aload_n 0, 1) := by decide +kernel
theorem dX10_fetch_78 : decode cX10_fetch 78 = .ok (.invokevirtual 94, 3) := by decide +kernel
theorem dX10_fetch_81 : decode cX10_fetch 81 = .ok (.pop, 1) := by decide +kernel
theorem dX10_fetch_82 : decode cX10_fetch 82 = .ok (.aload_n 0, 1) := by decide +kernel
theorem dX10_fetch_83 : decode cX10_fetch 83 = .ok (.getfield 74, 3) := by decide +kernel
theorem dX10_fetch_86 : decode cX10_fetch 86 = .ok (.ireturn, 1) := by decide +kernel
theorem dX10_clear_0 : decode cX10_clear 0 = .ok (.aload_n 0, 1) := by decide +kernel
theorem dX10_clear_1 : decode cX10_clear 1 = .ok (.getfield 235, 3) := by decide +kernel
theorem dX10_clear_4 : decode cX10_clear 4 = .ok (.istore_n 1, 1) := by decide +kernel
theorem dX10_clear_5 : decode cX10_clear 5 = .ok (.aload_n 0, 1) := by decide +kernel
theorem dX10_clear_6 : decode cX10_clear 6 = .ok (.iconst 0, 1) := by decide +kernel
theorem dX10_clear_7 : decode cX10_clear 7 = .ok (.putfield 235, 3) := by decide +kernel
theorem dX10_clear_10 : decode cX10_clear 10 = .ok (.iload_n 1, 1) := by decide +kernel
theorem dX10_clear_11 : decode cX10_clear 11 = .ok (.ireturn, 1) := by decide +kernel
theorem dX10_entries_0 : decode cX10_entries 0 = .ok (.aload_n 0, 1) := by decide +kernel
theorem dX10_entries_1 : decode cX10_entries 1 = .ok (.getfield 235, 3) := by decide +kernel
theorem dX10_entries_4 : decode cX10_entries 4 = .ok (.ireturn, 1) := by decide +kernel
theorem dX10_total_0 : decode cX10_total 0 = .ok (.aload_n 0, 1) := by decide +kernel
theorem dX10_total_1 : decode cX10_total 1 = .ok (.invokevirtual 243, 3) := by decide +kernel
theorem dX10_total_4 : decode cX10_total 4 = .ok (.lreturn, 1) := by decide +kernel
theorem dX10_code_0 : decode cX10_code 0 = .ok (.lconst 0, 1) := by decide +kernel
theorem dX10_code_1 : decode cX10_code 1 = .ok (.lstore_n 1, 1) := by decide +kernel
theorem dX10_code_2 : decode cX10_code 2 = .ok (.iconst 0, 1) := by decide +kernel
theorem dX10_code_3 : decode cX10_code 3 = .ok (.istore_n 3, 1) := by decide +kernel
theorem dX10_code_4 : decode cX10_code 4 = .ok (.iload_n 3, 1) := by decide +kernel
theorem dX10_code_5 : decode cX10_code 5 = .ok (.aload_n 0, 1) := by decide +kernel
theorem dX10_code_6 : decode cX10_code 6 = .ok (.getfield 235, 3) := by decide +kernel
theorem dX10_code_9 : decode cX10_code 9 = .ok (.if_icmp .ge 24, 3) := by decide +kernel
theorem dX10_code_12 : decode cX10_code 12 = .ok (.lload_n 1, 1) := by decide +kernel
theorem dX10_code_13 : decode cX10_code 13 = .ok (.aload_n 0, 1) := by decide +kernel
theorem dX10_code_14 : decode cX10_code 14 = .ok (.iload_n 3, 1) := by decide +kernel
theorem dX10_code_15 : decode cX10_code 15 = .ok (.invokevirtual 238, 3) := by decide +kernel
theorem dX10_code_18 : decode cX10_code 18 = .ok (.lmul, 1) := by decide +kernel
theorem dX10_code_19 : decode cX10_code 19 = .ok (.aload_n 0, 1) := by decide +kernel
theorem dX10_code_20 : decode cX10_code 20 = .ok (.getfield 53, 3) := by decide +kernel
theorem dX10_code_23 : decode cX10_code 23 = .ok (.iload_n 3, 1) := by decide +kernel
theorem dX10_code_24 : decode cX10_code 24 = .ok (.laload, 1) := by decide +kernel
theorem dX10_code_25 : decode cX10_code 25 = .ok (.ladd, 1) := by decide +kernel
theorem dX10_code_26 : decode cX10_code 26 = .ok (.lstore_n 1, 1) := by decide +kernel
theorem dX10_code_27 : decode cX10_code 27 = .ok (.iinc 3 1, 3) := by decide +kernel
theorem dX10_code_30 : decode cX10_code 30 = .ok (.goto (-26), 3) := by decide +kernel
theorem dX10_code_33 : decode cX10_code 33 = .ok (.lload_n 1, 1) := by decide +kernel
theorem dX10_code_34 : decode cX10_code 34 = .ok (.lreturn, 1) := by decide +kernel
theorem dX10_decode_0 : decode cX10_decode 0 = .ok (.lload_n 1, 1) := by decide +kernel
theorem dX10_decode_1 : decode cX10_decode 1 = .ok (.lconst 0, 1) := by decide +kernel
theorem dX10_decode_2 : decode cX10_decode 2 = .ok (.aload_n 0, 1) := by decide +kernel
theorem dX10_decode_3 : decode cX10_decode 3 = .ok (.invokevirtual 243, 3) := by decide +kernel
theorem dX10_decode_6 : decode cX10_decode 6 = .ok (.lconst 1, 1) := by decide +kernel
theorem dX10_decode_7 : decode cX10_decode 7 = .ok (.lsub, 1) := by decide +kernel
theorem dX10_decode_8 : decode cX10_decode 8 = .ok (.invokestatic 100, 3) := by decide +kernel
theorem dX10_decode_11 : decode cX10_decode 11 = .ok (.ifCond .ne 5, 3) := by decide +kernel
theorem dX10_decode_14 : decode cX10_decode 14 = .ok (.iconst (-1), 1) := by decide +kernel
theorem dX10_decode_15 : decode cX10_decode 15 = .ok (.ireturn, 1) := by decide +kernel
theorem dX10_decode_16 : decode cX10_decode 16 = .ok (.iconst 0, 1) := by decide +kernel
theorem dX10_decode_17 : decode cX10_decode 17 = .ok (.istore_n 3, 1) := by decide +kernel
theorem dX10_decode_18 : decode cX10_decode 18 = .ok (.lload_n 1, 1) := by decide +kernel
theorem dX10_decode_19 : decode cX10_decode 19 = .ok (.lstore 4, 2) := by decide +kernel
theorem dX10_decode_21 : decode cX10_decode 21 = .ok (.aload_n 0, 1) := by decide +kernel
theorem dX10_decode_22 : decode cX10_decode 22 = .ok (.getfield 235, 3) := by decide +kernel
theorem dX10_decode_25 : decode cX10_decode 25 = .ok (.iconst 1, 1) := by decide +kernel
theorem dX10_decode_26 : decode cX10_decode 26 = .ok (.isub, 1) := by decide +kernel
theorem dX10_decode_27 : decode cX10_decode 27 = .ok (.istore 6, 2) := by decide +kernel
theorem dX10_decode_29 : decode cX10_decode 29 = .ok (.iload 6, 2) := by decide +kernel
theorem dX10_decode_31 : decode cX10_decode 31 = .ok (.ifCond .lt 61, 3) := by decide +kernel
theorem dX10_decode_34 : decode cX10_decode 34 = .ok (.lload 4, 2) := by decide +kernel
theorem dX10_decode_36 : decode cX10_decode 36 = .ok (.aload_n 0, 1) := by decide +kernel
theorem dX10_decode_37 : decode cX10_decode 37 = .ok (.iload 6, 2) := by decide +kernel
theorem dX10_decode_39 : decode cX10_decode 39 = .ok (.invokevirtual 238, 3) := by decide +kernel
theorem dX10_decode_42 : decode cX10_decode 42 = .ok (.lrem, 1) := by decide +kernel
theorem dX10_decode_43 : decode cX10_decode 43 = .ok (.lstore 7, 2) := by decide +kernel
theorem dX10_decode_45 : decode cX10_decode 45 = .ok (.lload 4, 2) := by decide +kernel
theorem dX10_decode_47 : decode cX10_decode 47 = .ok (.aload_n 0, 1) := by decide +kernel
theorem dX10_decode_48 : decode cX10_decode 48 = .ok (.iload 6, 2) := by decide +kernel
theorem dX10_decode_50 : decode cX10_decode 50 = .ok (.invokevirtual 238, 3) := by decide +kernel
theorem dX10_decode_53 : decode cX10_decode 53 = .ok (.ldiv, 1) := by decide +kernel
theorem dX10_decode_54 : decode cX10_decode 54 = .ok (.lstore 4, 2) := by decide +kernel
theorem dX10_decode_56 : decode cX10_decode 56 = .ok (.iload_n 3, 1) := by decide +kernel
theorem dX10_decode_57 : decode cX10_decode 57 = .ok (.lload 7, 2) := by decide +kernel
theorem dX10_decode_59 : decode cX10_decode 59 = .ok (.aload_n 0, 1) := by decide +kernel
theorem dX10_decode_60 : decode cX10_decode 60 = .ok (.getfield 53, 3) := by decide +kernel
theorem dX10_decode_63 : decode cX10_decode 63 = .ok (.iload 6, 2) := by decide +kernel
theorem dX10_decode_65 : decode cX10_decode 65 = .ok (.laload, 1) := by decide +kernel
theorem dX10_decode_66 : decode cX10_decode 66 = .ok (.lcmp, 1) := by decide +kernel
theorem dX10_decode_67 : decode cX10_decode 67 = .ok (.ifCond .eq 7, 3) := by decide +kernel
theorem dX10_decode_70 : decode cX10_decode 70 = .ok (.iconst 1, 1) := by decide +kernel
theorem dX10_decode_71 : decode cX10_decode 71 = .ok (.goto 4, 3) := by decide +kernel
theorem dX10_decode_74 : decode cX10_decode 74 = .ok (.iconst 0, 1) := by decide +kernel
theorem dX10_decode_75 : decode cX10_decode 75 = .ok (.iadd, 1) := by decide +kernel
theorem dX10_decode_76 : decode cX10_decode 76 = .ok (.istore_n 3, 1) := by decide +kernel
theorem dX10_decode_77 : decode cX10_decode 77 = .ok (.aload_n 0, 1) := by decide +kernel
theorem dX10_decode_78 : decode cX10_decode 78 = .ok (.getfield 53, 3) := by decide +kernel
theorem dX10_decode_81 : decode cX10_decode 81 = .ok (.iload 6, 2) := by decide +kernel
theorem dX10_decode_83 : decode cX10_decode 83 = .ok (.lload 7, 2) := by decide +kernel
theorem dX10_decode_85 : decode cX10_decode 85 = .ok (.lastore, 1) := by decide +kernel
theorem dX10_decode_86 : decode cX10_decode 86 = .ok (.iinc 6 (-1), 3) := by decide +kernel
theorem dX10_decode_89 : decode cX10_decode 89 = .ok (.goto (-60), 3) := by decide +kernel
theorem dX10_decode_92 : decode cX10_decode 92 = .ok (.iload_n 3, 1) := by decide +kernel
theorem dX10_decode_93 : decode cX10_decode 93 = .ok (.ireturn, 1) := by decide +kernel
theorem dX10_isBehind_0 : decode cX10_isBehind 0 = .ok (.aload_n 0, 1) := by decide +kernel
theorem dX10_isBehind_1 : decode cX10_isBehind 1 = .ok (.getfield 47, 3) := by decide +kernel
theorem dX10_isBehind_4 : decode cX10_isBehind 4 = .ok (.iload_n 1, 1) := by decide +kernel
theorem dX10_isBehind_5 : decode cX10_isBehind 5 = .ok (.iaload, 1) := by decide +kernel
theorem dX10_isBehind_6 : decode cX10_isBehind 6 = .ok (.aload_n 0, 1) := by decide +kernel
theorem dX10_isBehind_7 : decode cX10_isBehind 7 = .ok (.getfield 47, 3) := by decide +kernel
theorem dX10_isBehind_10 : decode cX10_isBehind 10 = .ok (.iload_n 1, 1) := by decide +kernel
theorem dX10_isBehind_11 : decode cX10_isBehind 11 = .ok (.iconst 1, 1) := by decide +kernel
theorem dX10_isBehind_12 : decode cX10_isBehind 12 = .ok (.iadd, 1) := by decide +kernel
theorem dX10_isBehind_13 : decode cX10_isBehind 13 = .ok (.iaload, 1) := by decide +kernel
theorem dX10_isBehind_14 : decode cX10_isBehind 14 = .ok (.if_icmp .eq 26, 3) := by decide +kernel
theorem dX10_isBehind_17 : decode cX10_isBehind 17 = .ok (.aload_n 0, 1) := by decide +kernel
theorem dX10_isBehind_18 : decode cX10_isBehind 18 = .ok (.getfield 47, 3) := by decide +kernel
theorem dX10_isBehind_21 : decode cX10_isBehind 21 = .ok (.iload_n 1, 1) := by decide +kernel
theorem dX10_isBehind_22 : decode cX10_isBehind 22 = .ok (.iaload, 1) := by decide +kernel
theorem dX10_isBehind_23 : decode cX10_isBehind 23 = .ok (.aload_n 0, 1) := by decide +kernel
theorem dX10_isBehind_24 : decode cX10_isBehind 24 = .ok (.getfield 47, 3) := by decide +kernel
theorem dX10_isBehind_27 : decode cX10_isBehind 27 = .ok (.iload_n 1, 1) := by decide +kernel
theorem dX10_isBehind_28 : decode cX10_isBehind 28 = .ok (.iconst 1, 1) := by decide +kernel
theorem dX10_isBehind_29 : decode cX10_isBehind 29 = .ok (.iadd, 1) := by decide +kernel
theorem dX10_isBehind_30 : decode cX10_isBehind 30 = .ok (.iaload, 1) := by decide +kernel
theorem dX10_isBehind_31 : decode cX10_isBehind 31 = .ok (.if_icmp .le 7, 3) := by decide +kernel
theorem dX10_isBehind_34 : decode cX10_isBehind 34 = .ok (.iconst 1, 1) := by decide +kernel
theorem dX10_isBehind_35 : decode cX10_isBehind 35 = .ok (.goto 4, 3) := by decide +kernel
theorem dX10_isBehind_38 : decode cX10_isBehind 38 = .ok (.iconst 0, 1) := by decide +kernel
theorem dX10_isBehind_39 : decode cX10_isBehind 39 = .ok (.ireturn, 1) := by decide +kernel
theorem dX10_isBehind_40 : decode cX10_isBehind 40 = .ok (.iconst 4, 1) := by decide +kernel
theorem dX10_isBehind_41 : decode cX10_isBehind 41 = .ok (.iload_n 1, 1) := by decide +kernel
theorem dX10_isBehind_42 : decode cX10_isBehind 42 = .ok (.imul, 1) := by decide +kernel
theorem dX10_isBehind_43 : decode cX10_isBehind 43 = .ok (.istore_n 2, 1) := by decide +kernel
theorem dX10_isBehind_44 : decode cX10_isBehind 44 = .ok (.iload_n 2, 1) := by decide +kernel
theorem dX10_isBehind_45 : decode cX10_isBehind 45 = .ok (.iconst 4, 1) := by decide +kernel
theorem dX10_isBehind_46 : decode cX10_isBehind 46 = .ok (.iload_n 1, 1) := by decide +kernel
theorem dX10_isBehind_47 : decode cX10_isBehind 47 = .ok (.imul, 1) := by decide +kernel
theorem dX10_isBehind_48 : decode cX10_isBehind 48 = .ok (.iconst 4, 1) := by decide +kernel
theorem dX10_isBehind_49 : decode cX10_isBehind 49 = .ok (.iadd, 1) := by decide +kernel
theorem dX10_isBehind_50 : decode cX10_isBehind 50 = .ok (.if_icmp .ge 49, 3) := by decide +kernel
theorem dX10_isBehind_53 : decode cX10_isBehind 53 = .ok (.aload_n 0, 1) := by decide +kernel
theorem dX10_isBehind_54 : decode cX10_isBehind 54 = .ok (.getfield 50, 3) := by decide +kernel
theorem dX10_isBehind_57 : decode cX10_isBehind 57 = .ok (.iload_n 2, 1) := by decide +kernel
theorem dX10_isBehind_58 : decode cX10_isBehind 58 = .ok (.iaload, 1) := by decide +kernel
theorem dX10_isBehind_59 : decode cX10_isBehind 59 = .ok (.aload_n 0, 1) := by decide +kernel
theorem dX10_isBehind_60 : decode cX10_isBehind 60 = .ok (.getfield 50, 3) := by decide +kernel
theorem dX10_isBehind_63 : decode cX10_isBehind 63 = .ok (.iload_n 2, 1) := by decide +kernel
theorem dX10_isBehind_64 : decode cX10_isBehind 64 = .ok (.iconst 4, 1) := by decide +kernel
theorem dX10_isBehind_65 : decode cX10_isBehind 65 = .ok (.iadd, 1) := by decide +kernel
theorem dX10_isBehind_66 : decode cX10_isBehind 66 = .ok (.iaload, 1) := by decide +kernel
theorem dX10_isBehind_67 : decode cX10_isBehind 67 = .ok (.if_icmp .eq 26, 3) := by decide +kernel
theorem dX10_isBehind_70 : decode cX10_isBehind 70 = .ok (.aload_n 0, 1) := by decide +kernel
theorem dX10_isBehind_71 : decode cX10_isBehind 71 = .ok (.getfield 50, 3) := by decide +kernel
theorem dX10_isBehind_74 : decode cX10_isBehind 74 = .ok (.iload_n 2, 1) := by decide +kernel
theorem dX10_isBehind_75 : decode cX10_isBehind 75 = .ok (.iaload, 1) := by decide +kernel
theorem dX10_isBehind_76 : decode cX10_isBehind 76 = .ok (.aload_n 0, 1) := by decide +kernel
theorem dX10_isBehind_77 : decode cX10_isBehind 77 = .ok (.getfield 50, 3) := by decide +kernel
theorem dX10_isBehind_80 : decode cX10_isBehind 80 = .ok (.iload_n 2, 1) := by decide +kernel
theorem dX10_isBehind_81 : decode cX10_isBehind 81 = .ok (.iconst 4, 1) := by decide +kernel
theorem dX10_isBehind_82 : decode cX10_isBehind 82 = .ok (.iadd, 1) := by decide +kernel
theorem dX10_isBehind_83 : decode cX10_isBehind 83 = .ok (.iaload, 1) := by decide +kernel
theorem dX10_isBehind_84 : decode cX10_isBehind 84 = .ok (.if_icmp .le 7, 3) := by decide +kernel
theorem dX10_isBehind_87 : decode cX10_isBehind 87 = .ok (.iconst 1, 1) := by decide +kernel
theorem dX10_isBehind_88 : decode cX10_isBehind 88 = .ok (.goto 4, 3) := by decide +kernel
theorem dX10_isBehind_91 : decode cX10_isBehind 91 = .ok (.iconst 0, 1) := by decide +kernel
theorem dX10_isBehind_92 : decode cX10_isBehind 92 = .ok (.ireturn, 1) := by decide +kernel
theorem dX10_isBehind_93 : decode cX10_isBehind 93 = .ok (.iinc 2 1, 3) := by decide +kernel
theorem dX10_isBehind_96 : decode cX10_isBehind 96 = .ok (.goto (-52), 3) := by decide +kernel
theorem dX10_isBehind_99 : decode cX10_isBehind 99 = .ok (.aload_n 0, 1) := by decide +kernel
theorem dX10_isBehind_100 : decode cX10_isBehind 100 = .ok (.getfield 53, 3) := by decide +kernel
theorem dX10_isBehind_103 : decode cX10_isBehind 103 = .ok (.iload_n 1, 1) := by decide +kernel
theorem dX10_isBehind_104 : decode cX10_isBehind 104 = .ok (.laload, 1) := by decide +kernel
theorem dX10_isBehind_105 : decode cX10_isBehind 105 = .ok (.aload_n 0, 1) := by decide +kernel
theorem dX10_isBehind_106 : decode cX10_isBehind 106 = .ok (.getfield 53, 3) := by decide +kernel
theorem dX10_isBehind_109 : decode cX10_isBehind 109 = .ok (.iload_n 1, 1) := by decide +kernel
theorem dX10_isBehind_110 : decode cX10_isBehind 110 = .ok (.iconst 1, 1) := by decide +kernel
theorem dX10_isBehind_111 : decode cX10_isBehind 111 = .ok (.iadd, 1) := by decide +kernel
theorem dX10_isBehind_112 : decode cX10_isBehind 112 = .ok (.laload, 1) := by decide +kernel
theorem dX10_isBehind_113 : decode cX10_isBehind 113 = .ok (.lcmp, 1) := by decide +kernel
theorem dX10_isBehind_114 : decode cX10_isBehind 114 = .ok (.ifCond .le 7, 3) := by decide +kernel
theorem dX10_isBehind_117 : decode cX10_isBehind 117 = .ok (.iconst 1, 1) := by decide +kernel
theorem dX10_isBehind_118 : decode cX10_isBehind 118 = .ok (.goto 4, 3) := by decide +kernel
theorem dX10_isBehind_121 : decode cX10_isBehind 121 = .ok (.iconst 0, 1) := by decide +kernel
theorem dX10_isBehind_122 : decode cX10_isBehind 122 = .ok (.ireturn, 1) := by decide +kernel
theorem dX10_exchange_0 : decode cX10_exchange 0 = .ok (.aload_n 0, 1) := by decide +kernel
theorem dX10_exchange_1 : decode cX10_exchange 1 = .ok (.getfield 47, 3) := by decide +kernel
theorem dX10_exchange_4 : decode cX10_exchange 4 = .ok (.iload_n 1, 1) := by decide +kernel
theorem dX10_exchange_5 : decode cX10_exchange 5 = .ok (.iaload, 1) := by decide +kernel
theorem dX10_exchange_6 : decode cX10_exchange 6 = .ok (.istore_n 2, 1) := by decide +kernel
theorem dX10_exchange_7 : decode cX10_exchange 7 = .ok (.aload_n 0, 1) := by decide +kernel
theorem dX10_exchange_8 : decode cX10_exchange 8 = .ok (.getfield 53, 3) := by decide +kernel
theorem dX10_exchange_11 : decode cX10_exchange 11 = .ok (.iload_n 1, 1) := by decide +kernel
theorem dX10_exchange_12 : decode cX10_exchange 12 = .ok (.laload, 1) := by decide +kernel
theorem dX10_exchange_13 : decode cX10_exchange 13 = .ok (.lstore_n 3, 1) := by decide +kernel
theorem dX10_exchange_14 : decode cX10_exchange 14 = .ok (.aload_n 0, 1) := by decide +kernel
theorem dX10_exchange_15 : decode cX10_exchange 15 = .ok (.getfield 47, 3) := by decide +kernel
theorem dX10_exchange_18 : decode cX10_exchange 18 = .ok (.iload_n 1, 1) := by decide +kernel
theorem dX10_exchange_19 : decode cX10_exchange 19 = .ok (.aload_n 0, 1) := by decide +kernel
theorem dX10_exchange_20 : decode cX10_exchange 20 = .ok (.getfield 47, 3) := by decide +kernel
theorem dX10_exchange_23 : decode cX10_exchange 23 = .ok (.iload_n 1, 1) := by decide +kernel
theorem dX10_exchange_24 : decode cX10_exchange 24 = .ok (.iconst 1, 1) := by decide +kernel
theorem dX10_exchange_25 : decode cX10_exchange 25 = .ok (.iadd, 1) := by decide +kernel
theorem dX10_exchange_26 : decode cX10_exchange 26 = .ok (.iaload, 1) := by decide +kernel
theorem dX10_exchange_27 : decode cX10_exchange 27 = .ok (.iastore, 1) := by decide +kernel
theorem dX10_exchange_28 : decode cX10_exchange 28 = .ok (.aload_n 0, 1) := by decide +kernel
theorem dX10_exchange_29 : decode cX10_exchange 29 = .ok (.getfield 53, 3) := by decide +kernel
theorem dX10_exchange_32 : decode cX10_exchange 32 = .ok (.iload_n 1, 1) := by decide +kernel
theorem dX10_exchange_33 : decode cX10_exchange 33 = .ok (.aload_n 0, 1) := by decide +kernel
theorem dX10_exchange_34 : decode cX10_exchange 34 = .ok (.getfield 53, 3) := by decide +kernel
theorem dX10_exchange_37 : decode cX10_exchange 37 = .ok (.iload_n 1, 1) := by decide +kernel
theorem dX10_exchange_38 : decode cX10_exchange 38 = .ok (.iconst 1, 1) := by decide +kernel
theorem dX10_exchange_39 : decode cX10_exchange 39 = .ok (.iadd, 1) := by decide +kernel
theorem dX10_exchange_40 : decode cX10_exchange 40 = .ok (.laload, 1) := by decide +kernel
theorem dX10_exchange_41 : decode cX10_exchange 41 = .ok (.lastore, 1) := by decide +kernel
theorem dX10_exchange_42 : decode cX10_exchange 42 = .ok (.aload_n 0, 1) := by decide +kernel
theorem dX10_exchange_43 : decode cX10_exchange 43 = .ok (.getfield 47, 3) := by decide +kernel
theorem dX10_exchange_46 : decode cX10_exchange 46 = .ok (.iload_n 1, 1) := by decide +kernel
theorem dX10_exchange_47 : decode cX10_exchange 47 = .ok (.iconst 1, 1) := by decide +kernel
theorem dX10_exchange_48 : decode cX10_exchange 48 = .ok (.iadd, 1) := by decide +kernel
theorem dX10_exchange_49 : decode cX10_exchange 49 = .ok (.iload_n 2, 1) := by decide +kernel
theorem dX10_exchange_50 : decode cX10_exchange 50 = .ok (.iastore, 1) := by decide +kernel
theorem dX10_exchange_51 : decode cX10_exchange 51 = .ok (.aload_n 0, 1) := by decide +kernel
theorem dX10_exchange_52 : decode cX10_exchange 52 = .ok (.getfield 53, 3) := by decide +kernel
theorem dX10_exchange_55 : decode cX10_exchange 55 = .ok (.iload_n 1, 1) := by decide +kernel
theorem dX10_exchange_56 : decode cX10_exchange 56 = .ok (.iconst 1, 1) := by decide +kernel
theorem dX10_exchange_57 : decode cX10_exchange 57 = .ok (.iadd, 1) := by decide +kernel
theorem dX10_exchange_58 : decode cX10_exchange 58 = .ok (.lload_n 3, 1) := by decide +kernel
theorem dX10_exchange_59 : decode cX10_exchange 59 = .ok (.lastore, 1) := by decide +kernel
theorem dX10_exchange_60 : decode cX10_exchange 60 = .ok (.iconst 4, 1) := by decide +kernel
theorem dX10_exchange_61 : decode cX10_exchange 61 = .ok (.iload_n 1, 1) := by decide +kernel
theorem dX10_exchange_62 : decode cX10_exchange 62 = .ok (.imul, 1) := by decide +kernel
theorem dX10_exchange_63 : decode cX10_exchange 63 = .ok (.istore 5, 2) := by decide +kernel
theorem dX10_exchange_65 : decode cX10_exchange 65 = .ok (.iload 5, 2) := by decide +kernel
theorem dX10_exchange_67 : decode cX10_exchange 67 = .ok (.iconst 4, 1) := by decide +kernel
theorem dX10_exchange_68 : decode cX10_exchange 68 = .ok (.iload_n 1, 1) := by decide +kernel
theorem dX10_exchange_69 : decode cX10_exchange 69 = .ok (.imul, 1) := by decide +kernel
theorem dX10_exchange_70 : decode cX10_exchange 70 = .ok (.iconst 4, 1) := by decide +kernel
theorem dX10_exchange_71 : decode cX10_exchange 71 = .ok (.iadd, 1) := by decide +kernel
theorem dX10_exchange_72 : decode cX10_exchange 72 = .ok (.if_icmp .ge 45, 3) := by decide +kernel
theorem dX10_exchange_75 : decode cX10_exchange 75 = .ok (.aload_n 0, 1) := by decide +kernel
theorem dX10_exchange_76 : decode cX10_exchange 76 = .ok (.getfield 50, 3) := by decide +kernel
theorem dX10_exchange_79 : decode cX10_exchange 79 = .ok (.iload 5, 2) := by decide +kernel
theorem dX10_exchange_81 : decode cX10_exchange 81 = .ok (.iaload, 1) := by decide +kernel
theorem dX10_exchange_82 : decode cX10_exchange 82 = .ok (.istore 6, 2) := by decide +kernel
theorem dX10_exchange_84 : decode cX10_exchange 84 = .ok (.aload_n 0, 1) := by decide +kernel
theorem dX10_exchange_85 : decode cX10_exchange 85 = .ok (.getfield 50, 3) := by decide +kernel
theorem dX10_exchange_88 : decode cX10_exchange 88 = .ok (.iload 5, 2) := by decide +kernel
theorem dX10_exchange_90 : decode cX10_exchange 90 = .ok (.aload_n 0, 1) := by decide +kernel
theorem dX10_exchange_91 : decode cX10_exchange 91 = .ok (.getfield 50, 3) := by decide +kernel
theorem dX10_exchange_94 : decode cX10_exchange 94 = .ok (.iload 5, 2) := by decide +kernel
theorem dX10_exchange_96 : decode cX10_exchange 96 = .ok (.iconst 4, 1) := by decide +kernel
theorem dX10_exchange_97 : decode cX10_exchange 97 = .ok (.iadd, 1) := by decide +kernel
theorem dX10_exchange_98 : decode cX10_exchange 98 = .ok (.iaload, 1) := by decide +kernel
theorem dX10_exchange_99 : decode cX10_exchange 99 = .ok (.iastore, 1) := by decide +kernel
theorem dX10_exchange_100 : decode cX10_exchange 100 = .ok (.aload_n 0, 1) := by decide +kernel
theorem dX10_exchange_101 : decode cX10_exchange 101 = .ok (.getfield 50, 3) := by decide +kernel
theorem dX10_exchange_104 : decode cX10_exchange 104 = .ok (.iload 5, 2) := by decide +kernel
theorem dX10_exchange_106 : decode cX10_exchange 106 = .ok (.iconst 4, 1) := by decide +kernel
theorem dX10_exchange_107 : decode cX10_exchange 107 = .ok (.iadd, 1) := by decide +kernel
theorem dX10_exchange_108 : decode cX10_exchange 108 = .ok (.iload 6, 2) := by decide +kernel
theorem dX10_exchange_110 : decode cX10_exchange 110 = .ok (.iastore, 1) := by decide +kernel
theorem dX10_exchange_111 : decode cX10_exchange 111 = .ok (.iinc 5 1, 3) := by decide +kernel
theorem dX10_exchange_114 : decode cX10_exchange 114 = .ok (.goto (-49), 3) := by decide +kernel
theorem dX10_exchange_117 : decode cX10_exchange 117 = .ok (.return_, 1) := by decide +kernel
theorem dX10_sort_0 : decode cX10_sort 0 = .ok (.iconst 0, 1) := by decide +kernel
theorem dX10_sort_1 : decode cX10_sort 1 = .ok (.istore_n 1, 1) := by decide +kernel
theorem dX10_sort_2 : decode cX10_sort 2 = .ok (.iconst 0, 1) := by decide +kernel
theorem dX10_sort_3 : decode cX10_sort 3 = .ok (.istore_n 2, 1) := by decide +kernel
theorem dX10_sort_4 : decode cX10_sort 4 = .ok (.iload_n 2, 1) := by decide +kernel
theorem dX10_sort_5 : decode cX10_sort 5 = .ok (.aload_n 0, 1) := by decide +kernel
theorem dX10_sort_6 : decode cX10_sort 6 = .ok (.getfield 235, 3) := by decide +kernel
theorem dX10_sort_9 : decode cX10_sort 9 = .ok (.if_icmp .ge 42, 3) := by decide +kernel
theorem dX10_sort_12 : decode cX10_sort 12 = .ok (.iconst 0, 1) := by decide +kernel
theorem dX10_sort_13 : decode cX10_sort 13 = .ok (.istore_n 3, 1) := by decide +kernel
theorem dX10_sort_14 : decode cX10_sort 14 = .ok (.iload_n 3, 1) := by decide +kernel
theorem dX10_sort_15 : decode cX10_sort 15 = .ok (.iconst 1, 1) := by decide +kernel
theorem dX10_sort_16 : decode cX10_sort 16 = .ok (.iadd, 1) := by decide +kernel
theorem dX10_sort_17 : decode cX10_sort 17 = .ok (.aload_n 0, 1) := by decide +kernel
theorem dX10_sort_18 : decode cX10_sort 18 = .ok (.getfield 235, 3) := by decide +kernel
theorem dX10_sort_21 : decode cX10_sort 21 = .ok (.if_icmp .ge 24, 3) := by decide +kernel
theorem dX10_sort_24 : decode cX10_sort 24 = .ok (.aload_n 0, 1) := by decide +kernel
theorem dX10_sort_25 : decode cX10_sort 25 = .ok (.iload_n 3, 1) := by decide +kernel
theorem dX10_sort_26 : decode cX10_sort 26 = .ok (.invokevirtual 246, 3) := by decide +kernel
theorem dX10_sort_29 : decode cX10_sort 29 = .ok (.ifCond .eq 10, 3) := by decide +kernel
theorem dX10_sort_32 : decode cX10_sort 32 = .ok (.aload_n 0, 1) := by decide +kernel
theorem dX10_sort_33 : decode cX10_sort 33 = .ok (.iload_n 3, 1) := by decide +kernel
theorem dX10_sort_34 : decode cX10_sort 34 = .ok (.invokevirtual 250, 3) := by decide +kernel
theorem dX10_sort_37 : decode cX10_sort 37 = .ok (.iconst 1, 1) := by decide +kernel
theorem dX10_sort_38 : decode cX10_sort 38 = .ok (.istore_n 1, 1) := by decide +kernel
theorem dX10_sort_39 : decode cX10_sort 39 = .ok (.iinc 3 1, 3) := by decide +kernel
theorem dX10_sort_42 : decode cX10_sort 42 = .ok (.goto (-28), 3) := by decide +kernel
theorem dX10_sort_45 : decode cX10_sort 45 = .ok (.iinc 2 1, 3) := by decide +kernel
theorem dX10_sort_48 : decode cX10_sort 48 = .ok (.goto (-44), 3) := by decide +kernel
theorem dX10_sort_51 : decode cX10_sort 51 = .ok (.iload_n 1, 1) := by decide +kernel
theorem dX10_sort_52 : decode cX10_sort 52 = .ok (.ireturn, 1) := by decide +kernel
theorem dJ6_compare_7cf53_0 : decode cJ6_compare_7cf53 0 = .ok (.iload_n 0, 1) := by decide +kernel
theorem dJ6_compare_7cf53_1 : decode cJ6_compare_7cf53 1 = .ok (.iload_n 1, 1) := by decide +kernel
theorem dJ6_compare_7cf53_2 : decode cJ6_compare_7cf53 2 = .ok (.if_icmp .ge 7, 3) := by decide +kernel
theorem dJ6_compare_7cf53_5 : decode cJ6_compare_7cf53 5 = .ok (.iconst (-1), 1) := by decide +kernel
theorem dJ6_compare_7cf53_6 : decode cJ6_compare_7cf53 6 = .ok (.goto 13, 3) := by decide +kernel
theorem dJ6_compare_7cf53_9 : decode cJ6_compare_7cf53 9 = .ok (.iload_n 0, 1) := by decide +kernel
theorem dJ6_compare_7cf53_10 : decode cJ6_compare_7cf53 10 = .ok (.iload_n 1, 1) := by decide +kernel
theorem dJ6_compare_7cf53_11 : decode cJ6_compare_7cf53 11 = .ok (.if_icmp .ne 7, 3) := by decide +kernel
theorem dJ6_compare_7cf53_14 : decode cJ6_compare_7cf53 14 = .ok (.iconst 0, 1) := by decide +kernel
theorem dJ6_compare_7cf53_15 : decode cJ6_compare_7cf53 15 = .ok (.goto 4, 3) := by decide +kernel
theorem dJ6_compare_7cf53_18 : decode cJ6_compare_7cf53 18 = .ok (.iconst 1, 1) := by decide +kernel
theorem dJ6_compare_7cf53_19 : decode cJ6_compare_7cf53 19 = .ok (.ireturn, 1) := by decide +kernel
theorem dJ13_compare_74951_0 : decode cJ13_compare_74951 0 = .ok (.lload_n 0, 1) := by decide +kernel
theorem dJ13_compare_74951_1 : decode cJ13_compare_74951 1 = .ok (.lload_n 2, 1) := by decide +kernel
theorem dJ13_compare_74951_2 : decode cJ13_compare_74951 2 = .ok (.lcmp, 1) := by decide +kernel
theorem dJ13_compare_74951_3 : decode cJ13_compare_74951 3 = .ok (.ifCond .ge 7, 3) := by decide +kernel
theorem dJ13_compare_74951_6 : decode cJ13_compare_74951 6 = .ok (.iconst (-1), 1) := by decide +kernel
theorem dJ13_compare_74951_7 : decode cJ13_compare_74951 7 = .ok (.goto 14, 3) := by decide +kernel
theorem dJ13_compare_74951_10 : decode cJ13_compare_74951 10 = .ok (.lload_n 0, 1) := by decide +kernel
theorem dJ13_compare_74951_11 : decode cJ13_compare_74951 11 = .ok (.lload_n 2, 1) := by decide +kernel
theorem dJ13_compare_74951_12 : decode cJ13_compare_74951 12 = .ok (.lcmp, 1) := by decide +kernel
theorem dJ13_compare_74951_13 : decode cJ13_compare_74951 13 = .ok (.ifCond .ne 7, 3) := by decide +kernel
theorem dJ13_compare_74951_16 : decode cJ13_compare_74951 16 = .ok (.iconst 0, 1) := by decide +kernel
theorem dJ13_compare_74951_17 : decode cJ13_compare_74951 17 = .ok (.goto 4, 3) := by decide +kernel
theorem dJ13_compare_74951_20 : decode cJ13_compare_74951 20 = .ok (.iconst 1, 1) := by decide +kernel
theorem dJ13_compare_74951_21 : decode cJ13_compare_74951 21 = .ok (.ireturn, 1) := by decide +kernel
theorem dJ9_min_7cf53_0 : decode cJ9_min_7cf53 0 = .ok (.iload_n 0, 1) := by decide +kernel
theorem dJ9_min_7cf53_1 : decode cJ9_min_7cf53 1 = .ok (.iload_n 1, 1) := by decide +kernel
theorem dJ9_min_7cf53_2 : decode cJ9_min_7cf53 2 = .ok (.if_icmp .gt 7, 3) := by decide +kernel
theorem dJ9_min_7cf53_5 : decode cJ9_min_7cf53 5 = .ok (.iload_n 0, 1) := by decide +kernel
theorem dJ9_min_7cf53_6 : decode cJ9_min_7cf53 6 = .ok (.goto 4, 3) := by decide +kernel
theorem dJ9_min_7cf53_9 : decode cJ9_min_7cf53 9 = .ok (.iload_n 1, 1) := by decide +kernel
theorem dJ9_min_7cf53_10 : decode cJ9_min_7cf53 10 = .ok (.ireturn, 1) := by decide +kernel
theorem dL_law_0 : decode cL_law 0 = .ok (.new 7, 3) := by decide +kernel
theorem dL_law_3 : decode cL_law 3 = .ok (.dup, 1) := by decide +kernel
theorem dL_law_4 : decode cL_law 4 = .ok (.invokespecial 9, 3) := by decide +kernel
theorem dL_law_7 : decode cL_law 7 = .ok (.astore_n 1, 1) := by decide +kernel
theorem dL_law_8 : decode cL_law 8 = .ok (.new 10, 3) := by decide +kernel
theorem dL_law_11 : decode cL_law 11 = .ok (.dup, 1) := by decide +kernel
theorem dL_law_12 : decode cL_law 12 = .ok (.invokespecial 12, 3) := by decide +kernel
theorem dL_law_15 : decode cL_law 15 = .ok (.astore_n 2, 1) := by decide +kernel
theorem dL_law_16 : decode cL_law 16 = .ok (.iconst 0, 1) := by decide +kernel
theorem dL_law_17 : decode cL_law 17 = .ok (.istore_n 3, 1) := by decide +kernel
theorem dL_law_18 : decode cL_law 18 = .ok (.iload_n 3, 1) := by decide +kernel
theorem dL_law_19 : decode cL_law 19 = .ok (.aload_n 0, 1) := by decide +kernel
theorem dL_law_20 : decode cL_law 20 = .ok (.arraylength, 1) := by decide +kernel
theorem dL_law_21 : decode cL_law 21 = .ok (.iconst 5, 1) := by decide +kernel
theorem dL_law_22 : decode cL_law 22 = .ok (.isub, 1) := by decide +kernel
theorem dL_law_23 : decode cL_law 23 = .ok (.if_icmp .gt 849, 3) := by decide +kernel
theorem dL_law_26 : decode cL_law 26 = .ok (.aload_n 0, 1) := by decide +kernel
theorem dL_law_27 : decode cL_law 27 = .ok (.iload_n 3, 1) := by decide +kernel
theorem dL_law_28 : decode cL_law 28 = .ok (.iaload, 1) := by decide +kernel
theorem dL_law_29 : decode cL_law 29 = .ok (.bipush 31, 2) := by decide +kernel
theorem dL_law_31 : decode cL_law 31 = .ok (.iand, 1) := by decide +kernel
theorem dL_law_32 : decode cL_law 32 = .ok (.tableswitch 834 0 28 #[132, 175, 208, 241, 264, 297, 350, 363, 386, 399, 413, 446, 469, 482, 496, 549, 572, 626, 639, 652, 665, 678, 691, 714, 727, 740, 754, 768, 821], 132) := by decide +kernel
theorem dL_law_164 : decode cL_law 164 = .ok (.aload_n 1, 1) := by decide +kernel
theorem dL_law_165 : decode cL_law 165 = .ok (.aload_n 0, 1) := by decide +kernel
theorem dL_law_166 : decode cL_law 166 = .ok (.iload_n 3, 1) := by decide +kernel
theorem dL_law_167 : decode cL_law 167 = .ok (.iconst 1, 1) := by decide +kernel
theorem dL_law_168 : decode cL_law 168 = .ok (.iadd, 1) := by decide +kernel
theorem dL_law_169 : decode cL_law 169 = .ok (.iaload, 1) := by decide +kernel
theorem dL_law_170 : decode cL_law 170 = .ok (.aload_n 0, 1) := by decide +kernel
theorem dL_law_171 : decode cL_law 171 = .ok (.iload_n 3, 1) := by decide +kernel
theorem dL_law_172 : decode cL_law 172 = .ok (.iconst 2, 1) := by decide +kernel
theorem dL_law_173 : decode cL_law 173 = .ok (.iadd, 1) := by decide +kernel
theorem dL_law_174 : decode cL_law 174 = .ok (.iaload, 1) := by decide +kernel
theorem dL_law_175 : decode cL_law 175 = .ok (.aload_n 0, 1) := by decide +kernel
theorem dL_law_176 : decode cL_law 176 = .ok (.iload_n 3, 1) := by decide +kernel
theorem dL_law_177 : decode cL_law 177 = .ok (.iconst 3, 1) := by decide +kernel
theorem dL_law_178 : decode cL_law 178 = .ok (.iadd, 1) := by decide +kernel
theorem dL_law_179 : decode cL_law 179 = .ok (.iaload, 1) := by decide +kernel
theorem dL_law_180 : decode cL_law 180 = .ok (.invokevirtual 13, 3) := by decide +kernel
theorem dL_law_183 : decode cL_law 183 = .ok (.aload_n 2, 1) := by decide +kernel
theorem dL_law_184 : decode cL_law 184 = .ok (.aload_n 0, 1) := by decide +kernel
theorem dL_law_185 : decode cL_law 185 = .ok (.iload_n 3, 1) := by decide +kernel
theorem dL_law_186 : decode cL_law 186 = .ok (.iconst 1, 1) := by decide +kernel
theorem dL_law_187 : decode cL_law 187 = .ok (.iadd, 1) := by decide +kernel
theorem dL_law_188 : decode cL_law 188 = .ok (.iaload, 1) := by decide +kernel
theorem dL_law_189 : decode cL_law 189 = .ok (.aload_n 0, 1) := by decide +kernel
theorem dL_law_190 : decode cL_law 190 = .ok (.iload_n 3, 1) := by decide +kernel
theorem dL_law_191 : decode cL_law 191 = .ok (.iconst 2, 1) := by decide +kernel
theorem dL_law_192 : decode cL_law 192 = .ok (.iadd, 1) := by decide +kernel
theorem dL_law_193 : decode cL_law 193 = .ok (.iaload, 1) := by decide +kernel
theorem dL_law_194 : decode cL_law 194 = .ok (.aload_n 0, 1) := by decide +kernel
theorem dL_law_195 : decode cL_law 195 = .ok (.iload_n 3, 1) := by decide +kernel
theorem dL_law_196 : decode cL_law 196 = .ok (.iconst 3, 1) := by decide +kernel
theorem dL_law_197 : decode cL_law 197 = .ok (.iadd, 1) := by decide +kernel
theorem dL_law_198 : decode cL_law 198 = .ok (.iaload, 1) := by decide +kernel
theorem dL_law_199 : decode cL_law 199 = .ok (.invokevirtual 17, 3) := by decide +kernel
theorem dL_law_202 : decode cL_law 202 = .ok (.if_icmp .eq 664, 3) := by decide +kernel
theorem dL_law_205 : decode cL_law 205 = .ok (.iconst 0, 1) := by decide +kernel
theorem dL_law_206 : decode cL_law 206 = .ok (.ireturn, 1) := by decide +kernel
theorem dL_law_207 : decode cL_law 207 = .ok (.aload_n 1, 1) := by decide +kernel
theorem dL_law_208 : decode cL_law 208 = .ok (.aload_n 0, 1) := by decide +kernel
theorem dL_law_209 : decode cL_law 209 = .ok (.iload_n 3, 1) := by decide +kernel
theorem dL_law_210 : decode cL_law 210 = .ok (.iconst 1, 1) := by decide +kernel
theorem dL_law_211 : decode cL_law 211 = .ok (.iadd, 1) := by decide +kernel
theorem dL_law_212 : decode cL_law 212 = .ok (.iaload, 1) := by decide +kernel
theorem dL_law_213 : decode cL_law 213 = .ok (.aload_n 0, 1) := by decide +kernel
theorem dL_law_214 : decode cL_law 214 = .ok (.iload_n 3, 1) := by decide +kernel
theorem dL_law_215 : decode cL_law 215 = .ok (.iconst 2, 1) := by decide +kernel
theorem dL_law_216 : decode cL_law 216 = .ok (.iadd, 1) := by decide +kernel
theorem dL_law_217 : decode cL_law 217 = .ok (.iaload, 1) := by decide +kernel
theorem dL_law_218 : decode cL_law 218 = .ok (.invokevirtual 18, 3) := by decide +kernel
theorem dL_law_221 : decode cL_law 221 = .ok (.aload_n 2, 1) := by decide +kernel
theorem dL_law_222 : decode cL_law 222 = .ok (.aload_n 0, 1) := by decide +kernel
theorem dL_law_223 : decode cL_law 223 = .ok (.iload_n 3, 1) := by decide +kernel
theorem dL_law_224 : decode cL_law 224 = .ok (.iconst 1, 1) := by decide +kernel
theorem dL_law_225 : decode cL_law 225 = .ok (.iadd, 1) := by decide +kernel
theorem dL_law_226 : decode cL_law 226 = .ok (.iaload, 1) := by decide +kernel
theorem dL_law_227 : decode cL_law 227 = .ok (.aload_n 0, 1) := by decide +kernel
theorem dL_law_228 : decode cL_law 228 = .ok (.iload_n 3, 1) := by decide +kernel
theorem dL_law_229 : decode cL_law 229 = .ok (.iconst 2, 1) := by decide +kernel
theorem dL_law_230 : decode cL_law 230 = .ok (.iadd, 1) := by decide +kernel
theorem dL_law_231 : decode cL_law 231 = .ok (.iaload, 1) := by decide +kernel
theorem dL_law_232 : decode cL_law 232 = .ok (.invokevirtual 22, 3) := by decide +kernel
theorem dL_law_235 : decode cL_law 235 = .ok (.if_icmp .eq 631, 3) := by decide +kernel
theorem dL_law_238 : decode cL_law 238 = .ok (.iconst 0, 1) := by decide +kernel
theorem dL_law_239 : decode cL_law 239 = .ok (.ireturn, 1) := by decide +kernel
theorem dL_law_240 : decode cL_law 240 = .ok (.aload_n 1, 1) := by decide +kernel
theorem dL_law_241 : decode cL_law 241 = .ok (.aload_n 0, 1) := by decide +kernel
theorem dL_law_242 : decode cL_law 242 = .ok (.iload_n 3, 1) := by decide +kernel
theorem dL_law_243 : decode cL_law 243 = .ok (.iconst 1, 1) := by decide +kernel
theorem dL_law_244 : decode cL_law 244 = .ok (.iadd, 1) := by decide +kernel
theorem dL_law_245 : decode cL_law 245 = .ok (.iaload, 1) := by decide +kernel
theorem dL_law_246 : decode cL_law 246 = .ok (.aload_n 0, 1) := by decide +kernel
theorem dL_law_247 : decode cL_law 247 = .ok (.iload_n 3, 1) := by decide +kernel
theorem dL_law_248 : decode cL_law 248 = .ok (.iconst 2, 1) := by decide +kernel
theorem dL_law_249 : decode cL_law 249 = .ok (.iadd, 1) := by decide +kernel
theorem dL_law_250 : decode cL_law 250 = .ok (.iaload, 1) := by decide +kernel
theorem dL_law_251 : decode cL_law 251 = .ok (.invokevirtual 23, 3) := by decide +kernel
theorem dL_law_254 : decode cL_law 254 = .ok (.aload_n 2, 1) := by decide +kernel
theorem dL_law_255 : decode cL_law 255 = .ok (.aload_n 0, 1) := by decide +kernel
theorem dL_law_256 : decode cL_law 256 = .ok (.iload_n 3, 1) := by decide +kernel
theorem dL_law_257 : decode cL_law 257 = .ok (.iconst 1, 1) := by decide +kernel
theorem dL_law_258 : decode cL_law 258 = .ok (.iadd, 1) := by decide +kernel
theorem dL_law_259 : decode cL_law 259 = .ok (.iaload, 1) := by decide +kernel
theorem dL_law_260 : decode cL_law 260 = .ok (.aload_n 0, 1) := by decide +kernel
theorem dL_law_261 : decode cL_law 261 = .ok (.iload_n 3, 1) := by decide +kernel
theorem dL_law_262 : decode cL_law 262 = .ok (.iconst 2, 1) := by decide +kernel
theorem dL_law_263 : decode cL_law 263 = .ok (.iadd, 1) := by decide +kernel
theorem dL_law_264 : decode cL_law 264 = .ok (.iaload, 1) := by decide +kernel
theorem dL_law_265 : decode cL_law 265 = .ok (.invokevirtual 26, 3) := by decide +kernel
theorem dL_law_268 : decode cL_law 268 = .ok (.if_icmp .eq 598, 3) := by decide +kernel
theorem dL_law_271 : decode cL_law 271 = .ok (.iconst 0, 1) := by decide +kernel
theorem dL_law_272 : decode cL_law 272 = .ok (.ireturn, 1) := by decide +kernel
theorem dL_law_273 : decode cL_law 273 = .ok (.aload_n 1, 1) := by decide +kernel
theorem dL_law_274 : decode cL_law 274 = .ok (.aload_n 0, 1) := by decide +kernel
theorem dL_law_275 : decode cL_law 275 = .ok (.iload_n 3, 1) := by decide +kernel
theorem dL_law_276 : decode cL_law 276 = .ok (.iconst 1, 1) := by decide +kernel
theorem dL_law_277 : decode cL_law 277 = .ok (.iadd, 1) := by decide +kernel
theorem dL_law_278 : decode cL_law 278 = .ok (.iaload, 1) := by decide +kernel
theorem dL_law_279 : decode cL_law 279 = .ok (.invokevirtual 27, 3) := by decide +kernel
theorem dL_law_282 : decode cL_law 282 = .ok (.aload_n 2, 1) := by decide +kernel
theorem dL_law_283 : decode cL_law 283 = .ok (.aload_n 0, 1) := by decide +kernel
theorem dL_law_284 : decode cL_law 284 = .ok (.iload_n 3, 1) := by decide +kernel
theorem dL_law_285 : decode cL_law 285 = .ok (.iconst 1, 1) := by decide +kernel
theorem dL_law_286 : decode cL_law 286 = .ok (.iadd, 1) := by decide +kernel
theorem dL_law_287 : decode cL_law 287 = .ok (.iaload, 1) := by decide +kernel
theorem dL_law_288 : decode cL_law 288 = .ok (.invokevirtual 31, 3) := by decide +kernel
theorem dL_law_291 : decode cL_law 291 = .ok (.if_icmp .eq 575, 3) := by decide +kernel
theorem dL_law_294 : decode cL_law 294 = .ok (.iconst 0, 1) := by decide +kernel
theorem dL_law_295 : decode cL_law 295 = .ok (.ireturn, 1) := by decide +kernel
theorem dL_law_296 : decode cL_law 296 = .ok (.aload_n 1, 1) := by decide +kernel
theorem dL_law_297 : decode cL_law 297 = .ok (.aload_n 0, 1) := by decide +kernel
theorem dL_law_298 : decode cL_law 298 = .ok (.iload_n 3, 1) := by decide +kernel
theorem dL_law_299 : decode cL_law 299 = .ok (.iconst 1, 1) := by decide +kernel
theorem dL_law_300 : decode cL_law 300 = .ok (.iadd, 1) := by decide +kernel
theorem dL_law_301 : decode cL_law 301 = .ok (.iaload, 1) := by decide +kernel
theorem dL_law_302 : decode cL_law 302 = .ok (.aload_n 0, 1) := by decide +kernel
theorem dL_law_303 : decode cL_law 303 = .ok (.iload_n 3, 1) := by decide +kernel
theorem dL_law_304 : decode cL_law 304 = .ok (.iconst 2, 1) := by decide +kernel
theorem dL_law_305 : decode cL_law 305 = .ok (.iadd, 1) := by decide +kernel
theorem dL_law_306 : decode cL_law 306 = .ok (.iaload, 1) := by decide +kernel
theorem dL_law_307 : decode cL_law 307 = .ok (.invokevirtual 32, 3) := by decide +kernel
theorem dL_law_310 : decode cL_law 310 = .ok (.aload_n 2, 1) := by decide +kernel
theorem dL_law_311 : decode cL_law 311 = .ok (.aload_n 0, 1) := by decide +kernel
theorem dL_law_312 : decode cL_law 312 = .ok (.iload_n 3, 1) := by decide +kernel
theorem dL_law_313 : decode cL_law 313 = .ok (.iconst 1, 1) := by decide +kernel
theorem dL_law_314 : decode cL_law 314 = .ok (.iadd, 1) := by decide +kernel
theorem dL_law_315 : decode cL_law 315 = .ok (.iaload, 1) := by decide +kernel
theorem dL_law_316 : decode cL_law 316 = .ok (.aload_n 0, 1) := by decide +kernel
theorem dL_law_317 : decode cL_law 317 = .ok (.iload_n 3, 1) := by decide +kernel
theorem dL_law_318 : decode cL_law 318 = .ok (.iconst 2, 1) := by decide +kernel
theorem dL_law_319 : decode cL_law 319 = .ok (.iadd, 1) := by decide +kernel
theorem dL_law_320 : decode cL_law 320 = .ok (.iaload, 1) := by decide +kernel
theorem dL_law_321 : decode cL_law 321 = .ok (.invokevirtual 35, 3) := by decide +kernel
theorem dL_law_324 : decode cL_law 324 = .ok (.if_icmp .eq 542, 3) := by decide +kernel
theorem dL_law_327 : decode cL_law 327 = .ok (.iconst 0, 1) := by decide +kernel
theorem dL_law_328 : decode cL_law 328 = .ok (.ireturn, 1) := by decide +kernel
theorem dL_law_329 : decode cL_law 329 = .ok (.aload_n 1, 1) := by decide +kernel
theorem dL_law_330 : decode cL_law 330 = .ok (.aload_n 0, 1) := by decide +kernel
theorem dL_law_331 : decode cL_law 331 = .ok (.iload_n 3, 1) := by decide +kernel
theorem dL_law_332 : decode cL_law 332 = .ok (.iconst 1, 1) := by decide +kernel
theorem dL_law_333 : decode cL_law 333 = .ok (.iadd, 1) := by decide +kernel
theorem dL_law_334 : decode cL_law 334 = .ok (.iaload, 1) := by decide +kernel
theorem dL_law_335 : decode cL_law 335 = .ok (.aload_n 0, 1) := by decide +kernel
theorem dL_law_336 : decode cL_law 336 = .ok (.iload_n 3, 1) := by decide +kernel
theorem dL_law_337 : decode cL_law 337 = .ok (.iconst 2, 1) := by decide +kernel
theorem dL_law_338 : decode cL_law 338 = .ok (.iadd, 1) := by decide +kernel
theorem dL_law_339 : decode cL_law 339 = .ok (.iaload, 1) := by decide +kernel
theorem dL_law_340 : decode cL_law 340 = .ok (.aload_n 0, 1) := by decide +kernel
theorem dL_law_341 : decode cL_law 341 = .ok (.iload_n 3, 1) := by decide +kernel
theorem dL_law_342 : decode cL_law 342 = .ok (.iconst 3, 1) := by decide +kernel
theorem dL_law_343 : decode cL_law 343 = .ok (.iadd, 1) := by decide +kernel
theorem dL_law_344 : decode cL_law 344 = .ok (.iaload, 1) := by decide +kernel
theorem dL_law_345 : decode cL_law 345 = .ok (.aload_n 0, 1) := by decide +kernel
theorem dL_law_346 : decode cL_law 346 = .ok (.iload_n 3, 1) := by decide +kernel
theorem dL_law_347 : decode cL_law 347 = .ok (.iconst 4, 1) := by decide +kernel
theorem dL_law_348 : decode cL_law 348 = .ok (.iadd, 1) := by decide +kernel
theorem dL_law_349 : decode cL_law 349 = .ok (.iaload, 1) := by decide +kernel
theorem dL_law_350 : decode cL_law 350 = .ok (.invokevirtual 36, 3) := by decide +kernel
theorem dL_law_353 : decode cL_law 353 = .ok (.aload_n 2, 1) := by decide +kernel
theorem dL_law_354 : decode cL_law 354 = .ok (.aload_n 0, 1) := by decide +kernel
theorem dL_law_355 : decode cL_law 355 = .ok (.iload_n 3, 1) := by decide +kernel
theorem dL_law_356 : decode cL_law 356 = .ok (.iconst 1, 1) := by decide +kernel
theorem dL_law_357 : decode cL_law 357 = .ok (.iadd, 1) := by decide +kernel
theorem dL_law_358 : decode cL_law 358 = .ok (.iaload, 1) := by decide +kernel
theorem dL_law_359 : decode cL_law 359 = .ok (.aload_n 0, 1) := by decide +kernel
theorem dL_law_360 : decode cL_law 360 = .ok (.iload_n 3, 1) := by decide +kernel
theorem dL_law_361 : decode cL_law 361 = .ok (.iconst 2, 1) := by decide +kernel
theorem dL_law_362 : decode cL_law 362 = .ok (.iadd, 1) := by decide +kernel
theorem dL_law_363 : decode cL_law 363 = .ok (.iaload, 1) := by decide +kernel
theorem dL_law_364 : decode cL_law 364 = .ok (.aload_n 0, 1) := by decide +kernel
theorem dL_law_365 : decode cL_law 365 = .ok (.iload_n 3, 1) := by decide +kernel
theorem dL_law_366 : decode cL_law 366 = .ok (.iconst 3, 1) := by decide +kernel
theorem dL_law_367 : decode cL_law 367 = .ok (.iadd, 1) := by decide +kernel
theorem dL_law_368 : decode cL_law 368 = .ok (.iaload, 1) := by decide +kernel
theorem dL_law_369 : decode cL_law 369 = .ok (.aload_n 0, 1) := by decide +kernel
theorem dL_law_370 : decode cL_law 370 = .ok (.iload_n 3, 1) := by decide +kernel
theorem dL_law_371 : decode cL_law 371 = .ok (.iconst 4, 1) := by decide +kernel
theorem dL_law_372 : decode cL_law 372 = .ok (.iadd, 1) := by decide +kernel
theorem dL_law_373 : decode cL_law 373 = .ok (.iaload, 1) := by decide +kernel
theorem dL_law_374 : decode cL_law 374 = .ok (.invokevirtual 40, 3) := by decide +kernel
theorem dL_law_377 : decode cL_law 377 = .ok (.if_icmp .eq 489, 3) := by decide +kernel
theorem dL_law_380 : decode cL_law 380 = .ok (.iconst 0, 1) := by decide +kernel
theorem dL_law_381 : decode cL_law 381 = .ok (.ireturn, 1) := by decide +kernel
theorem dL_law_382 : decode cL_law 382 = .ok (.aload_n 1, 1) := by decide +kernel
theorem dL_law_383 : decode cL_law 383 = .ok (.invokevirtual 41, 3) := by decide +kernel
theorem dL_law_386 : decode cL_law 386 = .ok (.aload_n 2, 1) := by decide +kernel
theorem dL_law_387 : decode cL_law 387 = .ok (.invokevirtual 45, 3) := by decide +kernel
theorem dL_law_390 : decode cL_law 390 = .ok (.if_icmp .eq 476, 3) := by decide +kernel
theorem dL_law_393 : decode cL_law 393 = .ok (.iconst 0, 1) := by decide +kernel
theorem dL_law_394 : decode cL_law 394 = .ok (.ireturn, 1) := by decide +kernel
theorem dL_law_395 : decode cL_law 395 = .ok (.aload_n 1, 1) := by decide +kernel
theorem dL_law_396 : decode cL_law 396 = .ok (.aload_n 0, 1) := by decide +kernel
theorem dL_law_397 : decode cL_law 397 = .ok (.iload_n 3, 1) := by decide +kernel
theorem dL_law_398 : decode cL_law 398 = .ok (.iconst 1, 1) := by decide +kernel
theorem dL_law_399 : decode cL_law 399 = .ok (.iadd, 1) := by decide +kernel
theorem dL_law_400 : decode cL_law 400 = .ok (.iaload, 1) := by decide +kernel
theorem dL_law_401 : decode cL_law 401 = .ok (.invokevirtual 46, 3) := by decide +kernel
theorem dL_law_404 : decode cL_law 404 = .ok (.aload_n 2, 1) := by decide +kernel
theorem dL_law_405 : decode cL_law 405 = .ok (.aload_n 0, 1) := by decide +kernel
theorem dL_law_406 : decode cL_law 406 = .ok (.iload_n 3, 1) := by decide +kernel
theorem dL_law_407 : decode cL_law 407 = .ok (.iconst 1, 1) := by decide +kernel
theorem dL_law_408 : decode cL_law 408 = .ok (.iadd, 1) := by decide +kernel
theorem dL_law_409 : decode cL_law 409 = .ok (.iaload, 1) := by decide +kernel
theorem dL_law_410 : decode cL_law 410 = .ok (.invokevirtual 49, 3) := by decide +kernel
theorem dL_law_413 : decode cL_law 413 = .ok (.if_icmp .eq 453, 3) := by decide +kernel
theorem dL_law_416 : decode cL_law 416 = .ok (.iconst 0, 1) := by decide +kernel
theorem dL_law_417 : decode cL_law 417 = .ok (.ireturn, 1) := by decide +kernel
theorem dL_law_418 : decode cL_law 418 = .ok (.aload_n 1, 1) := by decide +kernel
theorem dL_law_419 : decode cL_law 419 = .ok (.invokevirtual 50, 3) := by decide +kernel
theorem dL_law_422 : decode cL_law 422 = .ok (.aload_n 2, 1) := by decide +kernel
theorem dL_law_423 : decode cL_law 423 = .ok (.invokevirtual 53, 3) := by decide +kernel
theorem dL_law_426 : decode cL_law 426 = .ok (.if_icmp .eq 440, 3) := by decide +kernel
theorem dL_law_429 : decode cL_law 429 = .ok (.iconst 0, 1) := by decide +kernel
theorem dL_law_430 : decode cL_law 430 = .ok (.ireturn, 1) := by decide +kernel
theorem dL_law_431 : decode cL_law 431 = .ok (.aload_n 1, 1) := by decide +kernel
theorem dL_law_432 : decode cL_law 432 = .ok (.invokevirtual 54, 3) := by decide +kernel
theorem dL_law_435 : decode cL_law 435 = .ok (.aload_n 2, 1) := by decide +kernel
theorem dL_law_436 : decode cL_law 436 = .ok (.invokevirtual 58, 3) := by decide +kernel
theorem dL_law_439 : decode cL_law 439 = .ok (.lcmp, 1) := by decide +kernel
theorem dL_law_440 : decode cL_law 440 = .ok (.ifCond .eq 426, 3) := by decide +kernel
theorem dL_law_443 : decode cL_law 443 = .ok (.iconst 0, 1) := by decide +kernel
theorem dL_law_444 : decode cL_law 444 = .ok (.ireturn, 1) := by decide +kernel
theorem dL_law_445 : decode cL_law 445 = .ok (.aload_n 1, 1) := by decide +kernel
theorem dL_law_446 : decode cL_law 446 = .ok (.aload_n 0, 1) := by decide +kernel
theorem dL_law_447 : decode cL_law 447 = .ok (.iload_n 3, 1) := by decide +kernel
theorem dL_law_448 : decode cL_law 448 = .ok (.iconst 1, 1) := by decide +kernel
theorem dL_law_449 : decode cL_law 449 = .ok (.iadd, 1) := by decide +kernel
theorem dL_law_450 : decode cL_law 450 = .ok (.iaload, 1) := by decide +kernel
theorem dL_law_451 : decode cL_law 451 = .ok (.aload_n 0, 1) := by decide +kernel
theorem dL_law_452 : decode cL_law 452 = .ok (.iload_n 3, 1) := by decide +kernel
theorem dL_law_453 : decode cL_law 453 = .ok (.iconst 2, 1) := by decide +kernel
theorem dL_law_454 : decode cL_law 454 = .ok (.iadd, 1) := by decide +kernel
theorem dL_law_455 : decode cL_law 455 = .ok (.iaload, 1) := by decide +kernel
theorem dL_law_456 : decode cL_law 456 = .ok (.invokevirtual 59, 3) := by decide +kernel
theorem dL_law_459 : decode cL_law 459 = .ok (.aload_n 2, 1) := by decide +kernel
theorem dL_law_460 : decode cL_law 460 = .ok (.aload_n 0, 1) := by decide +kernel
theorem dL_law_461 : decode cL_law 461 = .ok (.iload_n 3, 1) := by decide +kernel
theorem dL_law_462 : decode cL_law 462 = .ok (.iconst 1, 1) := by decide +kernel
theorem dL_law_463 : decode cL_law 463 = .ok (.iadd, 1) := by decide +kernel
theorem dL_law_464 : decode cL_law 464 = .ok (.iaload, 1) := by decide +kernel
theorem dL_law_465 : decode cL_law 465 = .ok (.aload_n 0, 1) := by decide +kernel
theorem dL_law_466 : decode cL_law 466 = .ok (.iload_n 3, 1) := by decide +kernel
theorem dL_law_467 : decode cL_law 467 = .ok (.iconst 2, 1) := by decide +kernel
theorem dL_law_468 : decode cL_law 468 = .ok (.iadd, 1) := by decide +kernel
theorem dL_law_469 : decode cL_law 469 = .ok (.iaload, 1) := by decide +kernel
theorem dL_law_470 : decode cL_law 470 = .ok (.invokevirtual 62, 3) := by decide +kernel
theorem dL_law_473 : decode cL_law 473 = .ok (.if_icmp .eq 393, 3) := by decide +kernel
theorem dL_law_476 : decode cL_law 476 = .ok (.iconst 0, 1) := by decide +kernel
theorem dL_law_477 : decode cL_law 477 = .ok (.ireturn, 1) := by decide +kernel
theorem dL_law_478 : decode cL_law 478 = .ok (.aload_n 1, 1) := by decide +kernel
theorem dL_law_479 : decode cL_law 479 = .ok (.aload_n 0, 1) := by decide +kernel
theorem dL_law_480 : decode cL_law 480 = .ok (.iload_n 3, 1) := by decide +kernel
theorem dL_law_481 : decode cL_law 481 = .ok (.iconst 1, 1) := by decide +kernel
theorem dL_law_482 : decode cL_law 482 = .ok (.iadd, 1) := by decide +kernel
theorem dL_law_483 : decode cL_law 483 = .ok (.iaload, 1) := by decide +kernel
theorem dL_law_484 : decode cL_law 484 = .ok (.invokevirtual 63, 3) := by decide +kernel
theorem dL_law_487 : decode cL_law 487 = .ok (.aload_n 2, 1) := by decide +kernel
theorem dL_law_488 : decode cL_law 488 = .ok (.aload_n 0, 1) := by decide +kernel
theorem dL_law_489 : decode cL_law 489 = .ok (.iload_n 3, 1) := by decide +kernel
theorem dL_law_490 : decode cL_law 490 = .ok (.iconst 1, 1) := by decide +kernel
theorem dL_law_491 : decode cL_law 491 = .ok (.iadd, 1) := by decide +kernel
theorem dL_law_492 : decode cL_law 492 = .ok (.iaload, 1) := by decide +kernel
theorem dL_law_493 : decode cL_law 493 = .ok (.invokevirtual 66, 3) := by decide +kernel
theorem dL_law_496 : decode cL_law 496 = .ok (.if_icmp .eq 370, 3) := by decide +kernel
theorem dL_law_499 : decode cL_law 499 = .ok (.iconst 0, 1) := by decide +kernel
theorem dL_law_500 : decode cL_law 500 = .ok (.ireturn, 1) := by decide +kernel
theorem dL_law_501 : decode cL_law 501 = .ok (.aload_n 1, 1) := by decide +kernel
theorem dL_law_502 : decode cL_law 502 = .ok (.invokevirtual 67, 3) := by decide +kernel
theorem dL_law_505 : decode cL_law 505 = .ok (.aload_n 2, 1) := by decide +kernel
theorem dL_law_506 : decode cL_law 506 = .ok (.invokevirtual 70, 3) := by decide +kernel
theorem dL_law_509 : decode cL_law 509 = .ok (.if_icmp .eq 357, 3) := by decide +kernel
theorem dL_law_512 : decode cL_law 512 = .ok (.iconst 0, 1) := by decide +kernel
theorem dL_law_513 : decode cL_law 513 = .ok (.ireturn, 1) := by decide +kernel
theorem dL_law_514 : decode cL_law 514 = .ok (.aload_n 1, 1) := by decide +kernel
theorem dL_law_515 : decode cL_law 515 = .ok (.invokevirtual 71, 3) := by decide +kernel
theorem dL_law_518 : decode cL_law 518 = .ok (.aload_n 2, 1) := by decide +kernel
theorem dL_law_519 : decode cL_law 519 = .ok (.invokevirtual 74, 3) := by decide +kernel
theorem dL_law_522 : decode cL_law 522 = .ok (.lcmp, 1) := by decide +kernel
theorem dL_law_523 : decode cL_law 523 = .ok (.ifCond .eq 343, 3) := by decide +kernel
theorem dL_law_526 : decode cL_law 526 = .ok (.iconst 0, 1) := by decide +kernel
theorem dL_law_527 : decode cL_law 527 = .ok (.ireturn, 1) := by decide +kernel
theorem dL_law_528 : decode cL_law 528 = .ok (.aload_n 1, 1) := by decide +kernel
theorem dL_law_529 : decode cL_law 529 = .ok (.aload_n 0, 1) := by decide +kernel
theorem dL_law_530 : decode cL_law 530 = .ok (.iload_n 3, 1) := by decide +kernel
theorem dL_law_531 : decode cL_law 531 = .ok (.iconst 1, 1) := by decide +kernel
theorem dL_law_532 : decode cL_law 532 = .ok (.iadd, 1) := by decide +kernel
theorem dL_law_533 : decode cL_law 533 = .ok (.iaload, 1) := by decide +kernel
theorem dL_law_534 : decode cL_law 534 = .ok (.i2l, 1) := by decide +kernel
theorem dL_law_535 : decode cL_law 535 = .ok (.bipush 32, 2) := by decide +kernel
theorem dL_law_537 : decode cL_law 537 = .ok (.lshl, 1) := by decide +kernel
theorem dL_law_538 : decode cL_law 538 = .ok (.aload_n 0, 1) := by decide +kernel
theorem dL_law_539 : decode cL_law 539 = .ok (.iload_n 3, 1) := by decide +kernel
theorem dL_law_540 : decode cL_law 540 = .ok (.iconst 2, 1) := by decide +kernel
theorem dL_law_541 : decode cL_law 541 = .ok (.iadd, 1) := by decide +kernel
theorem dL_law_542 : decode cL_law 542 = .ok (.iaload, 1) := by decide +kernel
theorem dL_law_543 : decode cL_law 543 = .ok (.i2l, 1) := by decide +kernel
theorem dL_law_544 : decode cL_law 544 = .ok (.ldc2_w 75, 3) := by decide +kernel
theorem dL_law_547 : decode cL_law 547 = .ok (.land, 1) := by decide +kernel
theorem dL_law_548 : decode cL_law 548 = .ok (.lor, 1) := by decide +kernel
theorem dL_law_549 : decode cL_law 549 = .ok (.invokevirtual 77, 3) := by decide +kernel
theorem dL_law_552 : decode cL_law 552 = .ok (.aload_n 2, 1) := by decide +kernel
theorem dL_law_553 : decode cL_law 553 = .ok (.aload_n 0, 1) := by decide +kernel
theorem dL_law_554 : decode cL_law 554 = .ok (.iload_n 3, 1) := by decide +kernel
theorem dL_law_555 : decode cL_law 555 = .ok (.iconst 1, 1) := by decide +kernel
theorem dL_law_556 : decode cL_law 556 = .ok (.iadd, 1) := by decide +kernel
theorem dL_law_557 : decode cL_law 557 = .ok (.iaload, 1) := by decide +kernel
theorem dL_law_558 : decode cL_law 558 = .ok (.i2l, 1) := by decide +kernel
theorem dL_law_559 : decode cL_law 559 = .ok (.bipush 32, 2) := by decide +kernel
theorem dL_law_561 : decode cL_law 561 = .ok (.lshl, 1) := by decide +kernel
theorem dL_law_562 : decode cL_law 562 = .ok (.aload_n 0, 1) := by decide +kernel
theorem dL_law_563 : decode cL_law 563 = .ok (.iload_n 3, 1) := by decide +kernel
theorem dL_law_564 : decode cL_law 564 = .ok (.iconst 2, 1) := by decide +kernel
theorem dL_law_565 : decode cL_law 565 = .ok (.iadd, 1) := by decide +kernel
theorem dL_law_566 : decode cL_law 566 = .ok (.iaload, 1) := by decide +kernel
theorem dL_law_567 : decode cL_law 567 = .ok (.i2l, 1) := by decide +kernel
theorem dL_law_568 : decode cL_law 568 = .ok (.ldc2_w 75, 3) := by decide +kernel
theorem dL_law_571 : decode cL_law 571 = .ok (.land, 1) := by decide +kernel
theorem dL_law_572 : decode cL_law 572 = .ok (.lor, 1) := by decide +kernel
theorem dL_law_573 : decode cL_law 573 = .ok (.invokevirtual 81, 3) := by decide +kernel
theorem dL_law_576 : decode cL_law 576 = .ok (.if_icmp .eq 290, 3) := by decide +kernel
theorem dL_law_579 : decode cL_law 579 = .ok (.iconst 0, 1) := by decide +kernel
theorem dL_law_580 : decode cL_law 580 = .ok (.ireturn, 1) := by decide +kernel
theorem dL_law_581 : decode cL_law 581 = .ok (.aload_n 1, 1) := by decide +kernel
theorem dL_law_582 : decode cL_law 582 = .ok (.aload_n 0, 1) := by decide +kernel
theorem dL_law_583 : decode cL_law 583 = .ok (.iload_n 3, 1) := by decide +kernel
theorem dL_law_584 : decode cL_law 584 = .ok (.iconst 1, 1) := by decide +kernel
theorem dL_law_585 : decode cL_law 585 = .ok (.iadd, 1) := by decide +kernel
theorem dL_law_586 : decode cL_law 586 = .ok (.iaload, 1) := by decide +kernel
theorem dL_law_587 : decode cL_law 587 = .ok (.invokevirtual 82, 3) := by decide +kernel
theorem dL_law_590 : decode cL_law 590 = .ok (.aload_n 2, 1) := by decide +kernel
theorem dL_law_591 : decode cL_law 591 = .ok (.aload_n 0, 1) := by decide +kernel
theorem dL_law_592 : decode cL_law 592 = .ok (.iload_n 3, 1) := by decide +kernel
theorem dL_law_593 : decode cL_law 593 = .ok (.iconst 1, 1) := by decide +kernel
theorem dL_law_594 : decode cL_law 594 = .ok (.iadd, 1) := by decide +kernel
theorem dL_law_595 : decode cL_law 595 = .ok (.iaload, 1) := by decide +kernel
theorem dL_law_596 : decode cL_law 596 = .ok (.invokevirtual 85, 3) := by decide +kernel
theorem dL_law_599 : decode cL_law 599 = .ok (.if_icmp .eq 267, 3) := by decide +kernel
theorem dL_law_602 : decode cL_law 602 = .ok (.iconst 0, 1) := by decide +kernel
theorem dL_law_603 : decode cL_law 603 = .ok (.ireturn, 1) := by decide +kernel
theorem dL_law_604 : decode cL_law 604 = .ok (.aload_n 1, 1) := by decide +kernel
theorem dL_law_605 : decode cL_law 605 = .ok (.aload_n 0, 1) := by decide +kernel
theorem dL_law_606 : decode cL_law 606 = .ok (.iload_n 3, 1) := by decide +kernel
theorem dL_law_607 : decode cL_law 607 = .ok (.iconst 1, 1) := by decide +kernel
theorem dL_law_608 : decode cL_law 608 = .ok (.iadd, 1) := by decide +kernel
theorem dL_law_609 : decode cL_law 609 = .ok (.iaload, 1) := by decide +kernel
theorem dL_law_610 : decode cL_law 610 = .ok (.i2l, 1) := by decide +kernel
theorem dL_law_611 : decode cL_law 611 = .ok (.bipush 32, 2) := by decide +kernel
theorem dL_law_613 : decode cL_law 613 = .ok (.lshl, 1) := by decide +kernel
theorem dL_law_614 : decode cL_law 614 = .ok (.aload_n 0, 1) := by decide +kernel
theorem dL_law_615 : decode cL_law 615 = .ok (.iload_n 3, 1) := by decide +kernel
theorem dL_law_616 : decode cL_law 616 = .ok (.iconst 2, 1) := by decide +kernel
theorem dL_law_617 : decode cL_law 617 = .ok (.iadd, 1) := by decide +kernel
theorem dL_law_618 : decode cL_law 618 = .ok (.iaload, 1) := by decide +kernel
theorem dL_law_619 : decode cL_law 619 = .ok (.i2l, 1) := by decide +kernel
theorem dL_law_620 : decode cL_law 620 = .ok (.ldc2_w 75, 3) := by decide +kernel
theorem dL_law_623 : decode cL_law 623 = .ok (.land, 1) := by decide +kernel
theorem dL_law_624 : decode cL_law 624 = .ok (.lor, 1) := by decide +kernel
theorem dL_law_625 : decode cL_law 625 = .ok (.invokevirtual 86, 3) := by decide +kernel
theorem dL_law_628 : decode cL_law 628 = .ok (.aload_n 2, 1) := by decide +kernel
theorem dL_law_629 : decode cL_law 629 = .ok (.aload_n 0, 1) := by decide +kernel
theorem dL_law_630 : decode cL_law 630 = .ok (.iload_n 3, 1) := by decide +kernel
theorem dL_law_631 : decode cL_law 631 = .ok (.iconst 1, 1) := by decide +kernel
theorem dL_law_632 : decode cL_law 632 = .ok (.iadd, 1) := by decide +kernel
theorem dL_law_633 : decode cL_law 633 = .ok (.iaload, 1) := by decide +kernel
theorem dL_law_634 : decode cL_law 634 = .ok (.i2l, 1) := by decide +kernel
theorem dL_law_635 : decode cL_law 635 = .ok (.bipush 32, 2) := by decide +kernel
theorem dL_law_637 : decode cL_law 637 = .ok (.lshl, 1) := by decide +kernel
theorem dL_law_638 : decode cL_law 638 = .ok (.aload_n 0, 1) := by decide +kernel
theorem dL_law_639 : decode cL_law 639 = .ok (.iload_n 3, 1) := by decide +kernel
theorem dL_law_640 : decode cL_law 640 = .ok (.iconst 2, 1) := by decide +kernel
theorem dL_law_641 : decode cL_law 641 = .ok (.iadd, 1) := by decide +kernel
theorem dL_law_642 : decode cL_law 642 = .ok (.iaload, 1) := by decide +kernel
theorem dL_law_643 : decode cL_law 643 = .ok (.i2l, 1) := by decide +kernel
theorem dL_law_644 : decode cL_law 644 = .ok (.ldc2_w 75, 3) := by decide +kernel
theorem dL_law_647 : decode cL_law 647 = .ok (.land, 1) := by decide +kernel
theorem dL_law_648 : decode cL_law 648 = .ok (.lor, 1) := by decide +kernel
theorem dL_law_649 : decode cL_law 649 = .ok (.invokevirtual 90, 3) := by decide +kernel
theorem dL_law_652 : decode cL_law 652 = .ok (.lcmp, 1) := by decide +kernel
theorem dL_law_653 : decode cL_law 653 = .ok (.ifCond .eq 213, 3) := by decide +kernel
theorem dL_law_656 : decode cL_law 656 = .ok (.iconst 0, 1) := by decide +kernel
theorem dL_law_657 : decode cL_law 657 = .ok (.ireturn, 1) := by decide +kernel
theorem dL_law_658 : decode cL_law 658 = .ok (.aload_n 1, 1) := by decide +kernel
theorem dL_law_659 : decode cL_law 659 = .ok (.invokevirtual 91, 3) := by decide +kernel
theorem dL_law_662 : decode cL_law 662 = .ok (.aload_n 2, 1) := by decide +kernel
theorem dL_law_663 : decode cL_law 663 = .ok (.invokevirtual 94, 3) := by decide +kernel
theorem dL_law_666 : decode cL_law 666 = .ok (.if_icmp .eq 200, 3) := by decide +kernel
theorem dL_law_669 : decode cL_law 669 = .ok (.iconst 0, 1) := by decide +kernel
theorem dL_law_670 : decode cL_law 670 = .ok (.ireturn, 1) := by decide +kernel
theorem dL_law_671 : decode cL_law 671 = .ok (.aload_n 1, 1) := by decide +kernel
theorem dL_law_672 : decode cL_law 672 = .ok (.invokevirtual 95, 3) := by decide +kernel
theorem dL_law_675 : decode cL_law 675 = .ok (.aload_n 2, 1) := by decide +kernel
theorem dL_law_676 : decode cL_law 676 = .ok (.invokevirtual 98, 3) := by decide +kernel
theorem dL_law_679 : decode cL_law 679 = .ok (.if_icmp .eq 187, 3) := by decide +kernel
theorem dL_law_682 : decode cL_law 682 = .ok (.iconst 0, 1) := by decide +kernel
theorem dL_law_683 : decode cL_law 683 = .ok (.ireturn, 1) := by decide +kernel
theorem dL_law_684 : decode cL_law 684 = .ok (.aload_n 1, 1) := by decide +kernel
theorem dL_law_685 : decode cL_law 685 = .ok (.invokevirtual 99, 3) := by decide +kernel
theorem dL_law_688 : decode cL_law 688 = .ok (.aload_n 2, 1) := by decide +kernel
theorem dL_law_689 : decode cL_law 689 = .ok (.invokevirtual 102, 3) := by decide +kernel
theorem dL_law_692 : decode cL_law 692 = .ok (.if_icmp .eq 174, 3) := by decide +kernel
theorem dL_law_695 : decode cL_law 695 = .ok (.iconst 0, 1) := by decide +kernel
theorem dL_law_696 : decode cL_law 696 = .ok (.ireturn, 1) := by decide +kernel
theorem dL_law_697 : decode cL_law 697 = .ok (.aload_n 1, 1) := by decide +kernel
theorem dL_law_698 : decode cL_law 698 = .ok (.invokevirtual 103, 3) := by decide +kernel
theorem dL_law_701 : decode cL_law 701 = .ok (.aload_n 2, 1) := by decide +kernel
theorem dL_law_702 : decode cL_law 702 = .ok (.invokevirtual 106, 3) := by decide +kernel
theorem dL_law_705 : decode cL_law 705 = .ok (.if_icmp .eq 161, 3) := by decide +kernel
theorem dL_law_708 : decode cL_law 708 = .ok (.iconst 0, 1) := by decide +kernel
theorem dL_law_709 : decode cL_law 709 = .ok (.ireturn, 1) := by decide +kernel
theorem dL_law_710 : decode cL_law 710 = .ok (.aload_n 1, 1) := by decide +kernel
theorem dL_law_711 : decode cL_law 711 = .ok (.invokevirtual 107, 3) := by decide +kernel
theorem dL_law_714 : decode cL_law 714 = .ok (.aload_n 2, 1) := by decide +kernel
theorem dL_law_715 : decode cL_law 715 = .ok (.invokevirtual 110, 3) := by decide +kernel
theorem dL_law_718 : decode cL_law 718 = .ok (.if_icmp .eq 148, 3) := by decide +kernel
theorem dL_law_721 : decode cL_law 721 = .ok (.iconst 0, 1) := by decide +kernel
theorem dL_law_722 : decode cL_law 722 = .ok (.ireturn, 1) := by decide +kernel
theorem dL_law_723 : decode cL_law 723 = .ok (.aload_n 1, 1) := by decide +kernel
theorem dL_law_724 : decode cL_law 724 = .ok (.aload_n 0, 1) := by decide +kernel
theorem dL_law_725 : decode cL_law 725 = .ok (.iload_n 3, 1) := by decide +kernel
theorem dL_law_726 : decode cL_law 726 = .ok (.iconst 1, 1) := by decide +kernel
theorem dL_law_727 : decode cL_law 727 = .ok (.iadd, 1) := by decide +kernel
theorem dL_law_728 : decode cL_law 728 = .ok (.iaload, 1) := by decide +kernel
theorem dL_law_729 : decode cL_law 729 = .ok (.invokevirtual 111, 3) := by decide +kernel
theorem dL_law_732 : decode cL_law 732 = .ok (.aload_n 2, 1) := by decide +kernel
theorem dL_law_733 : decode cL_law 733 = .ok (.aload_n 0, 1) := by decide +kernel
theorem dL_law_734 : decode cL_law 734 = .ok (.iload_n 3, 1) := by decide +kernel
theorem dL_law_735 : decode cL_law 735 = .ok (.iconst 1, 1) := by decide +kernel
theorem dL_law_736 : decode cL_law 736 = .ok (.iadd, 1) := by decide +kernel
theorem dL_law_737 : decode cL_law 737 = .ok (.iaload, 1) := by decide +kernel
theorem dL_law_738 : decode cL_law 738 = .ok (.invokevirtual 114, 3) := by decide +kernel
theorem dL_law_741 : decode cL_law 741 = .ok (.if_icmp .eq 125, 3) := by decide +kernel
theorem dL_law_744 : decode cL_law 744 = .ok (.iconst 0, 1) := by decide +kernel
theorem dL_law_745 : decode cL_law 745 = .ok (.ireturn, 1) := by decide +kernel
theorem dL_law_746 : decode cL_law 746 = .ok (.aload_n 1, 1) := by decide +kernel
theorem dL_law_747 : decode cL_law 747 = .ok (.invokevirtual 115, 3) := by decide +kernel
theorem dL_law_750 : decode cL_law 750 = .ok (.aload_n 2, 1) := by decide +kernel
theorem dL_law_751 : decode cL_law 751 = .ok (.invokevirtual 118, 3) := by decide +kernel
theorem dL_law_754 : decode cL_law 754 = .ok (.if_icmp .eq 112, 3) := by decide +kernel
theorem dL_law_757 : decode cL_law 757 = .ok (.iconst 0, 1) := by decide +kernel
theorem dL_law_758 : decode cL_law 758 = .ok (.ireturn, 1) := by decide +kernel
theorem dL_law_759 : decode cL_law 759 = .ok (.aload_n 1, 1) := by decide +kernel
theorem dL_law_760 : decode cL_law 760 = .ok (.invokevirtual 119, 3) := by decide +kernel
theorem dL_law_763 : decode cL_law 763 = .ok (.aload_n 2, 1) := by decide +kernel
theorem dL_law_764 : decode cL_law 764 = .ok (.invokevirtual 122, 3) := by decide +kernel
theorem dL_law_767 : decode cL_law 767 = .ok (.if_icmp .eq 99, 3) := by decide +kernel
theorem dL_law_770 : decode cL_law 770 = .ok (.iconst 0, 1) := by decide +kernel
theorem dL_law_771 : decode cL_law 771 = .ok (.ireturn, 1) := by decide +kernel
theorem dL_law_772 : decode cL_law 772 = .ok (.aload_n 1, 1) := by decide +kernel
theorem dL_law_773 : decode cL_law 773 = .ok (.invokevirtual 123, 3) := by decide +kernel
theorem dL_law_776 : decode cL_law 776 = .ok (.aload_n 2, 1) := by decide +kernel
theorem dL_law_777 : decode cL_law 777 = .ok (.invokevirtual 126, 3) := by decide +kernel
theorem dL_law_780 : decode cL_law 780 = .ok (.lcmp, 1) := by decide +kernel
theorem dL_law_781 : decode cL_law 781 = .ok (.ifCond .eq 85, 3) := by decide +kernel
theorem dL_law_784 : decode cL_law 784 = .ok (.iconst 0, 1) := by decide +kernel
theorem dL_law_785 : decode cL_law 785 = .ok (.ireturn, 1) := by decide +kernel
theorem dL_law_786 : decode cL_law 786 = .ok (.aload_n 1, 1) := by decide +kernel
theorem dL_law_787 : decode cL_law 787 = .ok (.invokevirtual 127, 3) := by decide +kernel
theorem dL_law_790 : decode cL_law 790 = .ok (.aload_n 2, 1) := by decide +kernel
theorem dL_law_791 : decode cL_law 791 = .ok (.invokevirtual 130, 3) := by decide +kernel
theorem dL_law_794 : decode cL_law 794 = .ok (.lcmp, 1) := by decide +kernel
theorem dL_law_795 : decode cL_law 795 = .ok (.ifCond .eq 71, 3) := by decide +kernel
theorem dL_law_798 : decode cL_law 798 = .ok (.iconst 0, 1) := by decide +kernel
theorem dL_law_799 : decode cL_law 799 = .ok (.ireturn, 1) := by decide +kernel
theorem dL_law_800 : decode cL_law 800 = .ok (.aload_n 1, 1) := by decide +kernel
theorem dL_law_801 : decode cL_law 801 = .ok (.aload_n 0, 1) := by decide +kernel
theorem dL_law_802 : decode cL_law 802 = .ok (.iload_n 3, 1) := by decide +kernel
theorem dL_law_803 : decode cL_law 803 = .ok (.iconst 1, 1) := by decide +kernel
theorem dL_law_804 : decode cL_law 804 = .ok (.iadd, 1) := by decide +kernel
theorem dL_law_805 : decode cL_law 805 = .ok (.iaload, 1) := by decide +kernel
theorem dL_law_806 : decode cL_law 806 = .ok (.i2l, 1) := by decide +kernel
theorem dL_law_807 : decode cL_law 807 = .ok (.bipush 32, 2) := by decide +kernel
theorem dL_law_809 : decode cL_law 809 = .ok (.lshl, 1) := by decide +kernel
theorem dL_law_810 : decode cL_law 810 = .ok (.aload_n 0, 1) := by decide +kernel
theorem dL_law_811 : decode cL_law 811 = .ok (.iload_n 3, 1) := by decide +kernel
theorem dL_law_812 : decode cL_law 812 = .ok (.iconst 2, 1) := by decide +kernel
theorem dL_law_813 : decode cL_law 813 = .ok (.iadd, 1) := by decide +kernel
theorem dL_law_814 : decode cL_law 814 = .ok (.iaload, 1) := by decide +kernel
theorem dL_law_815 : decode cL_law 815 = .ok (.i2l, 1) := by decide +kernel
theorem dL_law_816 : decode cL_law 816 = .ok (.ldc2_w 75, 3) := by decide +kernel
theorem dL_law_819 : decode cL_law 819 = .ok (.land, 1) := by decide +kernel
theorem dL_law_820 : decode cL_law 820 = .ok (.lor, 1) := by decide +kernel
theorem dL_law_821 : decode cL_law 821 = .ok (.invokevirtual 131, 3) := by decide +kernel
theorem dL_law_824 : decode cL_law 824 = .ok (.aload_n 2, 1) := by decide +kernel
theorem dL_law_825 : decode cL_law 825 = .ok (.aload_n 0, 1) := by decide +kernel
theorem dL_law_826 : decode cL_law 826 = .ok (.iload_n 3, 1) := by decide +kernel
theorem dL_law_827 : decode cL_law 827 = .ok (.iconst 1, 1) := by decide +kernel
theorem dL_law_828 : decode cL_law 828 = .ok (.iadd, 1) := by decide +kernel
theorem dL_law_829 : decode cL_law 829 = .ok (.iaload, 1) := by decide +kernel
theorem dL_law_830 : decode cL_law 830 = .ok (.i2l, 1) := by decide +kernel
theorem dL_law_831 : decode cL_law 831 = .ok (.bipush 32, 2) := by decide +kernel
theorem dL_law_833 : decode cL_law 833 = .ok (.lshl, 1) := by decide +kernel
theorem dL_law_834 : decode cL_law 834 = .ok (.aload_n 0, 1) := by decide +kernel
theorem dL_law_835 : decode cL_law 835 = .ok (.iload_n 3, 1) := by decide +kernel
theorem dL_law_836 : decode cL_law 836 = .ok (.iconst 2, 1) := by decide +kernel
theorem dL_law_837 : decode cL_law 837 = .ok (.iadd, 1) := by decide +kernel
theorem dL_law_838 : decode cL_law 838 = .ok (.iaload, 1) := by decide +kernel
theorem dL_law_839 : decode cL_law 839 = .ok (.i2l, 1) := by decide +kernel
theorem dL_law_840 : decode cL_law 840 = .ok (.ldc2_w 75, 3) := by decide +kernel
theorem dL_law_843 : decode cL_law 843 = .ok (.land, 1) := by decide +kernel
theorem dL_law_844 : decode cL_law 844 = .ok (.lor, 1) := by decide +kernel
theorem dL_law_845 : decode cL_law 845 = .ok (.invokevirtual 134, 3) := by decide +kernel
theorem dL_law_848 : decode cL_law 848 = .ok (.if_icmp .eq 18, 3) := by decide +kernel
theorem dL_law_851 : decode cL_law 851 = .ok (.iconst 0, 1) := by decide +kernel
theorem dL_law_852 : decode cL_law 852 = .ok (.ireturn, 1) := by decide +kernel
theorem dL_law_853 : decode cL_law 853 = .ok (.aload_n 1, 1) := by decide +kernel
theorem dL_law_854 : decode cL_law 854 = .ok (.invokevirtual 135, 3) := by decide +kernel
theorem dL_law_857 : decode cL_law 857 = .ok (.aload_n 2, 1) := by decide +kernel
theorem dL_law_858 : decode cL_law 858 = .ok (.invokevirtual 138, 3) := by decide +kernel
theorem dL_law_861 : decode cL_law 861 = .ok (.if_icmp .eq 5, 3) := by decide +kernel
theorem dL_law_864 : decode cL_law 864 = .ok (.iconst 0, 1) := by decide +kernel
theorem dL_law_865 : decode cL_law 865 = .ok (.ireturn, 1) := by decide +kernel
theorem dL_law_866 : decode cL_law 866 = .ok (.iinc 3 5, 3) := by decide +kernel
theorem dL_law_869 : decode cL_law 869 = .ok (.goto (-851), 3) := by decide +kernel
theorem dL_law_872 : decode cL_law 872 = .ok (.iconst 1, 1) := by decide +kernel
theorem dL_law_873 : decode cL_law 873 = .ok (.ireturn, 1) := by decide +kernel
