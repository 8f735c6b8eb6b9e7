theorem dX10_longNow_44 : decode cX10_longNow 44 = .ok (.getfield 25, 3) := by decide +kernel
theorem dX10_longNow_47 : decode cX10_longNow 47 = .ok (.iconst 0, 1) := by decide +kernel
theorem dX10_longNow_48 : decode cX10_longNow 48 = .ok (.iaload, 1) := by decide +kernel
theorem dX10_longNow_49 : decode cX10_longNow 49 = .ok (.aload_n 0, 1) := by decide +kernel
theorem dX10_longNow_50 : decode cX10_longNow 50 = .ok (.getfield 25, 3) := by decide +kernel
theorem dX10_longNow_53 : decode cX10_longNow 53 = .ok (.iconst 1, 1) := by decide +kernel
theorem dX10_longNow_54 : decode cX10_longNow 54 = .ok (.iaload, 1) := by decide +kernel
theorem dX10_longNow_55 : decode cX10_longNow 55 = .ok (.iadd, 1) := by decide +kernel
theorem dX10_longNow_56 : decode cX10_longNow 56 = .ok (.aload_n 0, 1) := by decide +kernel
theorem dX10_longNow_57 : decode cX10_longNow 57 = .ok (.getfield 25, 3) := by decide +kernel
theorem dX10_longNow_60 : decode cX10_longNow 60 = .ok (.iconst 2, 1) := by decide +kernel
theorem dX10_longNow_61 : decode cX10_longNow 61 = .ok (.iaload, 1) := by decide +kernel
theorem dX10_longNow_62 : decode cX10_longNow 62 = .ok (.iadd, 1) := by decide +kernel
theorem dX10_longNow_63 : decode cX10_longNow 63 = .ok (.aload_n 0, 1) := by decide +kernel
theorem dX10_longNow_64 : decode cX10_longNow 64 = .ok (.getfield 25, 3) := by decide +kernel
theorem dX10_longNow_67 : decode cX10_longNow 67 = .ok (.iconst 3, 1) := by decide +kernel
theorem dX10_longNow_68 : decode cX10_longNow 68 = .ok (.iaload, 1) := by decide +kernel
theorem dX10_longNow_69 : decode cX10_longNow 69 = .ok (.iadd, 1) := by decide +kernel
theorem dX10_longNow_70 : decode cX10_longNow 70 = .ok (.goto 9, 3) := by decide +kernel
theorem dX10_longNow_73 : decode cX10_longNow 73 = .ok (.aload_n 0, 1) := by decide +kernel
theorem dX10_longNow_74 : decode cX10_longNow 74 = .ok (.getfield 25, 3) := by decide +kernel
theorem dX10_longNow_77 : decode cX10_longNow 77 = .ok (.iconst 0, 1) := by decide +kernel
theorem dX10_longNow_78 : decode cX10_longNow 78 = .ok (.iaload, 1) := by decide +kernel
theorem dX10_longNow_79 : decode cX10_longNow 79 = .ok (.ireturn, 1) := by decide +kernel
theorem dX10_manyNow_0 : decode cX10_manyNow 0 = .ok (.aload_n 0, 1) := by decide +kernel
theorem dX10_manyNow_1 : decode cX10_manyNow 1 = .ok (.aload_n 0, 1) := by decide +kernel
theorem dX10_manyNow_2 : decode cX10_manyNow 2 = .ok (.getfield 74, 3) := by decide +kernel
theorem dX10_manyNow_5 : decode cX10_manyNow 5 = .ok (.aload_n 0, 1) := by decide +kernel
theorem dX10_manyNow_6 : decode cX10_manyNow 6 = .ok (.getfield 25, 3) := by decide +kernel
theorem dX10_manyNow_9 : decode cX10_manyNow 9 = .ok (.iconst 0, 1) := by decide +kernel
theorem dX10_manyNow_10 : decode cX10_manyNow 10 = .ok (.iaload, 1) := by decide +kernel
theorem dX10_manyNow_11 : decode cX10_manyNow 11 = .ok (.aload_n 0, 1) := by decide +kernel
theorem dX10_manyNow_12 : decode cX10_manyNow 12 = .ok (.getfield 25, 3) := by decide +kernel
theorem dX10_manyNow_15 : decode cX10_manyNow 15 = .ok (.iconst 1, 1) := by decide +kernel
theorem dX10_manyNow_16 : decode cX10_manyNow 16 = .ok (.iaload, 1) := by decide +kernel
theorem dX10_manyNow_17 : decode cX10_manyNow 17 = .ok (.aload_n 0, 1) := by decide +kernel
theorem dX10_manyNow_18 : decode cX10_manyNow 18 = .ok (.getfield 25, 3) := by decide +kernel
theorem dX10_manyNow_21 : decode cX10_manyNow 21 = .ok (.iconst 2, 1) := by decide +kernel
theorem dX10_manyNow_22 : decode cX10_manyNow 22 = .ok (.iaload, 1) := by decide +kernel
theorem dX10_manyNow_23 : decode cX10_manyNow 23 = .ok (.aload_n 0, 1) := by decide +kernel
theorem dX10_manyNow_24 : decode cX10_manyNow 24 = .ok (.getfield 25, 3) := by decide +kernel
theorem dX10_manyNow_27 : decode cX10_manyNow 27 = .ok (.iconst 3, 1) := by decide +kernel
theorem dX10_manyNow_28 : decode cX10_manyNow 28 = .ok (.iaload, 1) := by decide +kernel
theorem dX10_manyNow_29 : decode cX10_manyNow 29 = .ok (.invokevirtual 78, 3) := by decide +kernel
theorem dX10_manyNow_32 : decode cX10_manyNow 32 = .ok (.lreturn, 1) := by decide +kernel
theorem dX10_stores_0 : decode cX10_stores 0 = .ok (.iconst 0, 1) := by decide +kernel
theorem dX10_stores_1 : decode cX10_stores 1 = .ok (.istore_n 1, 1) := by decide +kernel
theorem dX10_stores_2 : decode cX10_stores 2 = .ok (.iconst 0, 1) := by decide +kernel
theorem dX10_stores_3 : decode cX10_stores 3 = .ok (.istore_n 2, 1) := by decide +kernel
theorem dX10_stores_4 : decode cX10_stores 4 = .ok (.iload_n 2, 1) := by decide +kernel
theorem dX10_stores_5 : decode cX10_stores 5 = .ok (.aload_n 0, 1) := by decide +kernel
theorem dX10_stores_6 : decode cX10_stores 6 = .ok (.invokevirtual 82, 3) := by decide +kernel
theorem dX10_stores_9 : decode cX10_stores 9 = .ok (.if_icmp .ge 46, 3) := by decide +kernel
theorem dX10_stores_12 : decode cX10_stores 12 = .ok (.iload_n 1, 1) := by decide +kernel
theorem dX10_stores_13 : decode cX10_stores 13 = .ok (.ifCond .ne 18, 3) := by decide +kernel
theorem dX10_stores_16 : decode cX10_stores 16 = .ok (.aload_n 0, 1) := by decide +kernel
theorem dX10_stores_17 : decode cX10_stores 17 = .ok (.getfield 29, 3) := by decide +kernel
theorem dX10_stores_20 : decode cX10_stores 20 = .ok (.iload_n 2, 1) := by decide +kernel
theorem dX10_stores_21 : decode cX10_stores 21 = .ok (.iaload, 1) := by decide +kernel
theorem dX10_stores_22 : decode cX10_stores 22 = .ok (.aload_n 0, 1) := by decide +kernel
theorem dX10_stores_23 : decode cX10_stores 23 = .ok (.getfield 32, 3) := by decide +kernel
theorem dX10_stores_26 : decode cX10_stores 26 = .ok (.iload_n 2, 1) := by decide +kernel
theorem dX10_stores_27 : decode cX10_stores 27 = .ok (.iaload, 1) := by decide +kernel
theorem dX10_stores_28 : decode cX10_stores 28 = .ok (.if_icmp .eq 7, 3) := by decide +kernel
theorem dX10_stores_31 : decode cX10_stores 31 = .ok (.iconst 1, 1) := by decide +kernel
theorem dX10_stores_32 : decode cX10_stores 32 = .ok (.goto 4, 3) := by decide +kernel
theorem dX10_stores_35 : decode cX10_stores 35 = .ok (.iconst 0, 1) := by decide +kernel
theorem dX10_stores_36 : decode cX10_stores 36 = .ok (.istore_n 1, 1) := by decide +kernel
theorem dX10_stores_37 : decode cX10_stores 37 = .ok (.aload_n 0, 1) := by decide +kernel
theorem dX10_stores_38 : decode cX10_stores 38 = .ok (.getfield 29, 3) := by decide +kernel
theorem dX10_stores_41 : decode cX10_stores 41 = .ok (.iload_n 2, 1) := by decide +kernel
theorem dX10_stores_42 : decode cX10_stores 42 = .ok (.aload_n 0, 1) := by decide +kernel
theorem dX10_stores_43 : decode cX10_stores 43 = .ok (.getfield 32, 3) := by decide +kernel
theorem dX10_stores_46 : decode cX10_stores 46 = .ok (.iload_n 2, 1) := by decide +kernel
theorem dX10_stores_47 : decode cX10_stores 47 = .ok (.iaload, 1) := by decide +kernel
theorem dX10_stores_48 : decode cX10_stores 48 = .ok (.iastore, 1) := by decide +kernel
theorem dX10_stores_49 : decode cX10_stores 49 = .ok (.iinc 2 1, 3) := by decide +kernel
theorem dX10_stores_52 : decode cX10_stores 52 = .ok (.goto (-48), 3) := by decide +kernel
theorem dX10_stores_55 : decode cX10_stores 55 = .ok (.iload_n 1, 1) := by decide +kernel
theorem dX10_stores_56 : decode cX10_stores 56 = .ok (.ireturn, 1) := by decide +kernel
theorem dX10_turnsTo_0 : decode cX10_turnsTo 0 = .ok (.aload_n 0, 1) := by decide +kernel
theorem dX10_turnsTo_1 : decode cX10_turnsTo 1 = .ok (.iload_n 1, 1) := by decide +kernel
theorem dX10_turnsTo_2 : decode cX10_turnsTo 2 = .ok (.putfield 74, 3) := by decide +kernel
theorem dX10_turnsTo_5 : decode cX10_turnsTo 5 = .ok (.aload_n 0, 1) := by decide +kernel
theorem dX10_turnsTo_6 : decode cX10_turnsTo 6 = .ok (.getfield 25, 3) := by decide +kernel
theorem dX10_turnsTo_9 : decode cX10_turnsTo 9 = .ok (.iconst 0, 1) := by decide +kernel
theorem dX10_turnsTo_10 : decode cX10_turnsTo 10 = .ok (.iload_n 2, 1) := by decide +kernel
theorem dX10_turnsTo_11 : decode cX10_turnsTo 11 = .ok (.iastore, 1) := by decide +kernel
theorem dX10_turnsTo_12 : decode cX10_turnsTo 12 = .ok (.aload_n 0, 1) := by decide +kernel
theorem dX10_turnsTo_13 : decode cX10_turnsTo 13 = .ok (.getfield 25, 3) := by decide +kernel
theorem dX10_turnsTo_16 : decode cX10_turnsTo 16 = .ok (.iconst 1, 1) := by decide +kernel
theorem dX10_turnsTo_17 : decode cX10_turnsTo 17 = .ok (.iload_n 3, 1) := by decide +kernel
theorem dX10_turnsTo_18 : decode cX10_turnsTo 18 = .ok (.iastore, 1) := by decide +kernel
theorem dX10_turnsTo_19 : decode cX10_turnsTo 19 = .ok (.aload_n 0, 1) := by decide +kernel
theorem dX10_turnsTo_20 : decode cX10_turnsTo 20 = .ok (.getfield 25, 3) := by decide +kernel
theorem dX10_turnsTo_23 : decode cX10_turnsTo 23 = .ok (.iconst 2, 1) := by decide +kernel
theorem dX10_turnsTo_24 : decode cX10_turnsTo 24 = .ok (.iload 4, 2) := by decide +kernel
theorem dX10_turnsTo_26 : decode cX10_turnsTo 26 = .ok (.iastore, 1) := by decide +kernel
theorem dX10_turnsTo_27 : decode cX10_turnsTo 27 = .ok (.aload_n 0, 1) := by decide +kernel
theorem dX10_turnsTo_28 : decode cX10_turnsTo 28 = .ok (.getfield 25, 3) := by decide +kernel
theorem dX10_turnsTo_31 : decode cX10_turnsTo 31 = .ok (.iconst 3, 1) := by decide +kernel
theorem dX10_turnsTo_32 : decode cX10_turnsTo 32 = .ok (.iload 5, 2) := by decide +kernel
theorem dX10_turnsTo_34 : decode cX10_turnsTo 34 = .ok (.iastore, 1) := by decide +kernel
theorem dX10_turnsTo_35 : decode cX10_turnsTo 35 = .ok (.return_, 1) := by decide +kernel
theorem dX10_select_0 : decode cX10_select 0 = .ok (.aload_n 0, 1) := by decide +kernel
theorem dX10_select_1 : decode cX10_select 1 = .ok (.iload_n 1, 1) := by decide +kernel
theorem dX10_select_2 : decode cX10_select 2 = .ok (.iload_n 2, 1) := by decide +kernel
theorem dX10_select_3 : decode cX10_select 3 = .ok (.iload_n 3, 1) := by decide +kernel
theorem dX10_select_4 : decode cX10_select 4 = .ok (.iload 4, 2) := by decide +kernel
theorem dX10_select_6 : decode cX10_select 6 = .ok (.iload 5, 2) := by decide +kernel
theorem dX10_select_8 : decode cX10_select 8 = .ok (.invokevirtual 86, 3) := by decide +kernel
theorem dX10_select_11 : decode cX10_select 11 = .ok (.aload_n 0, 1) := by decide +kernel
theorem dX10_select_12 : decode cX10_select 12 = .ok (.lconst 0, 1) := by decide +kernel
theorem dX10_select_13 : decode cX10_select 13 = .ok (.invokevirtual 90, 3) := by decide +kernel
theorem dX10_select_16 : decode cX10_select 16 = .ok (.aload_n 0, 1) := by decide +kernel
theorem dX10_select_17 : decode cX10_select 17 = .ok (.invokevirtual 94, 3) := by decide +kernel
theorem dX10_select_20 : decode cX10_select 20 = .ok (.pop, 1) := by decide +kernel
theorem dX10_select_21 : decode cX10_select 21 = .ok (.aload_n 0, 1) := by decide +kernel
theorem dX10_select_22 : decode cX10_select 22 = .ok (.invokevirtual 82, 3) := by decide +kernel
theorem dX10_select_25 : decode cX10_select 25 = .ok (.ireturn, 1) := by decide +kernel
theorem dX10_selectSubsets_0 : decode cX10_selectSubsets 0 = .ok (.iload_n 1, 1) := by decide +kernel
theorem dX10_selectSubsets_1 : decode cX10_selectSubsets 1 = .ok (.i2l, 1) := by decide +kernel
theorem dX10_selectSubsets_2 : decode cX10_selectSubsets 2 = .ok (.lconst 0, 1) := by decide +kernel
theorem dX10_selectSubsets_3 : decode cX10_selectSubsets 3 = .ok (.ldc2_w 98, 3) := by decide +kernel
theorem dX10_selectSubsets_6 : decode cX10_selectSubsets 6 = .ok (.invokestatic 100, 3) := by decide +kernel
theorem dX10_selectSubsets_9 : decode cX10_selectSubsets 9 = .ok (.ifCond .eq 38, 3) := by decide +kernel
theorem dX10_selectSubsets_12 : decode cX10_selectSubsets 12 = .ok (.iload_n 2, 1) := by decide +kernel
theorem dX10_selectSubsets_13 : decode cX10_selectSubsets 13 = .ok (.i2l, 1) := by decide +kernel
theorem dX10_selectSubsets_14 : decode cX10_selectSubsets 14 = .ok (.lconst 0, 1) := by decide +kernel
theorem dX10_selectSubsets_15 : decode cX10_selectSubsets 15 = .ok (.iload_n 1, 1) := by decide +kernel
theorem dX10_selectSubsets_16 : decode cX10_selectSubsets 16 = .ok (.i2l, 1) := by decide +kernel
theorem dX10_selectSubsets_17 : decode cX10_selectSubsets 17 = .ok (.invokestatic 100, 3) := by decide +kernel
theorem dX10_selectSubsets_20 : decode cX10_selectSubsets 20 = .ok (.ifCond .eq 27, 3) := by decide +kernel
theorem dX10_selectSubsets_23 : decode cX10_selectSubsets 23 = .ok (.iload_n 3, 1) := by decide +kernel
theorem dX10_selectSubsets_24 : decode cX10_selectSubsets 24 = .ok (.i2l, 1) := by decide +kernel
theorem dX10_selectSubsets_25 : decode cX10_selectSubsets 25 = .ok (.lconst 0, 1) := by decide +kernel
theorem dX10_selectSubsets_26 : decode cX10_selectSubsets 26 = .ok (.ldc2_w 104, 3) := by decide +kernel
theorem dX10_selectSubsets_29 : decode cX10_selectSubsets 29 = .ok (.invokestatic 100, 3) := by decide +kernel
theorem dX10_selectSubsets_32 : decode cX10_selectSubsets 32 = .ok (.ifCond .eq 15, 3) := by decide +kernel
theorem dX10_selectSubsets_35 : decode cX10_selectSubsets 35 = .ok (.aload_n 0, 1) := by decide +kernel
theorem dX10_selectSubsets_36 : decode cX10_selectSubsets 36 = .ok (.iconst 0, 1) := by decide +kernel
theorem dX10_selectSubsets_37 : decode cX10_selectSubsets 37 = .ok (.iload_n 1, 1) := by decide +kernel
theorem dX10_selectSubsets_38 : decode cX10_selectSubsets 38 = .ok (.iload_n 2, 1) := by decide +kernel
theorem dX10_selectSubsets_39 : decode cX10_selectSubsets 39 = .ok (.iload_n 3, 1) := by decide +kernel
theorem dX10_selectSubsets_40 : decode cX10_selectSubsets 40 = .ok (.iconst 0, 1) := by decide +kernel
theorem dX10_selectSubsets_41 : decode cX10_selectSubsets 41 = .ok (.invokevirtual 106, 3) := by decide +kernel
theorem dX10_selectSubsets_44 : decode cX10_selectSubsets 44 = .ok (.goto 4, 3) := by decide +kernel
theorem dX10_selectSubsets_47 : decode cX10_selectSubsets 47 = .ok (.iconst (-1), 1) := by decide +kernel
theorem dX10_selectSubsets_48 : decode cX10_selectSubsets 48 = .ok (.ireturn, 1) := by decide +kernel
theorem dX10_selectPermutations_0 : decode cX10_selectPermutations 0 = .ok (.iload_n 1, 1) := by decide +kernel
theorem dX10_selectPermutations_1 : decode cX10_selectPermutations 1 = .ok (.i2l, 1) := by decide +kernel
theorem dX10_selectPermutations_2 : decode cX10_selectPermutations 2 = .ok (.lconst 1, 1) := by decide +kernel
theorem dX10_selectPermutations_3 : decode cX10_selectPermutations 3 = .ok (.ldc2_w 110, 3) := by decide +kernel
theorem dX10_selectPermutations_6 : decode cX10_selectPermutations 6 = .ok (.invokestatic 100, 3) := by decide +kernel
theorem dX10_selectPermutations_9 : decode cX10_selectPermutations 9 = .ok (.ifCond .eq 25, 3) := by decide +kernel
theorem dX10_selectPermutations_12 : decode cX10_selectPermutations 12 = .ok (.iload_n 2, 1) := by decide +kernel
theorem dX10_selectPermutations_13 : decode cX10_selectPermutations 13 = .ok (.i2l, 1) := by decide +kernel
theorem dX10_selectPermutations_14 : decode cX10_selectPermutations 14 = .ok (.lconst 0, 1) := by decide +kernel
theorem dX10_selectPermutations_15 : decode cX10_selectPermutations 15 = .ok (.lconst 1, 1) := by decide +kernel
theorem dX10_selectPermutations_16 : decode cX10_selectPermutations 16 = .ok (.invokestatic 100, 3) := by decide +kernel
theorem dX10_selectPermutations_19 : decode cX10_selectPermutations 19 = .ok (.ifCond .eq 15, 3) := by decide +kernel
theorem dX10_selectPermutations_22 : decode cX10_selectPermutations 22 = .ok (.aload_n 0, 1) := by decide +kernel
theorem dX10_selectPermutations_23 : decode cX10_selectPermutations 23 = .ok (.iconst 1, 1) := by decide +kernel
theorem dX10_selectPermutations_24 : decode cX10_selectPermutations 24 = .ok (.iload_n 1, 1) := by decide +kernel
theorem dX10_selectPermutations_25 : decode cX10_selectPermutations 25 = .ok (.iload_n 2, 1) := by decide +kernel
theorem dX10_selectPermutations_26 : decode cX10_selectPermutations 26 = .ok (.iconst 0, 1) := by decide +kernel
theorem dX10_selectPermutations_27 : decode cX10_selectPermutations 27 = .ok (.iconst 0, 1) := by decide +kernel
theorem dX10_selectPermutations_28 : decode cX10_selectPermutations 28 = .ok (.invokevirtual 106, 3) := by decide +kernel
theorem dX10_selectPermutations_31 : decode cX10_selectPermutations 31 = .ok (.goto 4, 3) := by decide +kernel
theorem dX10_selectPermutations_34 : decode cX10_selectPermutations 34 = .ok (.iconst (-1), 1) := by decide +kernel
theorem dX10_selectPermutations_35 : decode cX10_selectPermutations 35 = .ok (.ireturn, 1) := by decide +kernel
theorem dX10_selectWords_0 : decode cX10_selectWords 0 = .ok (.iload_n 1, 1) := by decide +kernel
theorem dX10_selectWords_1 : decode cX10_selectWords 1 = .ok (.i2l, 1) := by decide +kernel
theorem dX10_selectWords_2 : decode cX10_selectWords 2 = .ok (.lconst 1, 1) := by decide +kernel
theorem dX10_selectWords_3 : decode cX10_selectWords 3 = .ok (.ldc2_w 110, 3) := by decide +kernel
theorem dX10_selectWords_6 : decode cX10_selectWords 6 = .ok (.invokestatic 100, 3) := by decide +kernel
theorem dX10_selectWords_9 : decode cX10_selectWords 9 = .ok (.ifCond .eq 27, 3) := by decide +kernel
theorem dX10_selectWords_12 : decode cX10_selectWords 12 = .ok (.iload_n 2, 1) := by decide +kernel
theorem dX10_selectWords_13 : decode cX10_selectWords 13 = .ok (.i2l, 1) := by decide +kernel
theorem dX10_selectWords_14 : decode cX10_selectWords 14 = .ok (.lconst 1, 1) := by decide +kernel
theorem dX10_selectWords_15 : decode cX10_selectWords 15 = .ok (.ldc2_w 104, 3) := by decide +kernel
theorem dX10_selectWords_18 : decode cX10_selectWords 18 = .ok (.invokestatic 100, 3) := by decide +kernel
theorem dX10_selectWords_21 : decode cX10_selectWords 21 = .ok (.ifCond .eq 15, 3) := by decide +kernel
theorem dX10_selectWords_24 : decode cX10_selectWords 24 = .ok (.aload_n 0, 1) := by decide +kernel
theorem dX10_selectWords_25 : decode cX10_selectWords 25 = .ok (.iconst 2, 1) := by decide +kernel
theorem dX10_selectWords_26 : decode cX10_selectWords 26 = .ok (.iload_n 1, 1) := by decide +kernel
theorem dX10_selectWords_27 : decode cX10_selectWords 27 = .ok (.iload_n 2, 1) := by decide +kernel
theorem dX10_selectWords_28 : decode cX10_selectWords 28 = .ok (.iconst 0, 1) := by decide +kernel
theorem dX10_selectWords_29 : decode cX10_selectWords 29 = .ok (.iconst 0, 1) := by decide +kernel
theorem dX10_selectWords_30 : decode cX10_selectWords 30 = .ok (.invokevirtual 106, 3) := by decide +kernel
theorem dX10_selectWords_33 : decode cX10_selectWords 33 = .ok (.goto 4, 3) := by decide +kernel
theorem dX10_selectWords_36 : decode cX10_selectWords 36 = .ok (.iconst (-1), 1) := by decide +kernel
theorem dX10_selectWords_37 : decode cX10_selectWords 37 = .ok (.ireturn, 1) := by decide +kernel
theorem dX10_selectTrees_0 : decode cX10_selectTrees 0 = .ok (.iload_n 1, 1) := by decide +kernel
theorem dX10_selectTrees_1 : decode cX10_selectTrees 1 = .ok (.i2l, 1) := by decide +kernel
theorem dX10_selectTrees_2 : decode cX10_selectTrees 2 = .ok (.lconst 1, 1) := by decide +kernel
theorem dX10_selectTrees_3 : decode cX10_selectTrees 3 = .ok (.ldc2_w 112, 3) := by decide +kernel
theorem dX10_selectTrees_6 : decode cX10_selectTrees 6 = .ok (.invokestatic 100, 3) := by decide +kernel
theorem dX10_selectTrees_9 : decode cX10_selectTrees 9 = .ok (.ifCond .eq 15, 3) := by decide +kernel
theorem dX10_selectTrees_12 : decode cX10_selectTrees 12 = .ok (.aload_n 0, 1) := by decide +kernel
theorem dX10_selectTrees_13 : decode cX10_selectTrees 13 = .ok (.iconst 3, 1) := by decide +kernel
theorem dX10_selectTrees_14 : decode cX10_selectTrees 14 = .ok (.iload_n 1, 1) := by decide +kernel
theorem dX10_selectTrees_15 : decode cX10_selectTrees 15 = .ok (.iconst 0, 1) := by decide +kernel
theorem dX10_selectTrees_16 : decode cX10_selectTrees 16 = .ok (.iconst 0, 1) := by decide +kernel
theorem dX10_selectTrees_17 : decode cX10_selectTrees 17 = .ok (.iconst 0, 1) := by decide +kernel
theorem dX10_selectTrees_18 : decode cX10_selectTrees 18 = .ok (.invokevirtual 106, 3) := by decide +kernel
theorem dX10_selectTrees_21 : decode cX10_selectTrees 21 = .ok (.goto 4, 3) := by decide +kernel
theorem dX10_selectTrees_24 : decode cX10_selectTrees 24 = .ok (.iconst (-1), 1) := by decide +kernel
theorem dX10_selectTrees_25 : decode cX10_selectTrees 25 = .ok (.ireturn, 1) := by decide +kernel
theorem dX10_selectPartitions_0 : decode cX10_selectPartitions 0 = .ok (.iload_n 1, 1) := by decide +kernel
theorem dX10_selectPartitions_1 : decode cX10_selectPartitions 1 = .ok (.i2l, 1) := by decide +kernel
theorem dX10_selectPartitions_2 : decode cX10_selectPartitions 2 = .ok (.lconst 1, 1) := by decide +kernel
theorem dX10_selectPartitions_3 : decode cX10_selectPartitions 3 = .ok (.ldc2_w 98, 3) := by decide +kernel
theorem dX10_selectPartitions_6 : decode cX10_selectPartitions 6 = .ok (.invokestatic 100, 3) := by decide +kernel
theorem dX10_selectPartitions_9 : decode cX10_selectPartitions 9 = .ok (.ifCond .eq 26, 3) := by decide +kernel
theorem dX10_selectPartitions_12 : decode cX10_selectPartitions 12 = .ok (.iload_n 2, 1) := by decide +kernel
theorem dX10_selectPartitions_13 : decode cX10_selectPartitions 13 = .ok (.i2l, 1) := by decide +kernel
theorem dX10_selectPartitions_14 : decode cX10_selectPartitions 14 = .ok (.lconst 1, 1) := by decide +kernel
theorem dX10_selectPartitions_15 : decode cX10_selectPartitions 15 = .ok (.iload_n 1, 1) := by decide +kernel
theorem dX10_selectPartitions_16 : decode cX10_selectPartitions 16 = .ok (.i2l, 1) := by decide +kernel
theorem dX10_selectPartitions_17 : decode cX10_selectPartitions 17 = .ok (.invokestatic 100, 3) := by decide +kernel
theorem dX10_selectPartitions_20 : decode cX10_selectPartitions 20 = .ok (.ifCond .eq 15, 3) := by decide +kernel
theorem dX10_selectPartitions_23 : decode cX10_selectPartitions 23 = .ok (.aload_n 0, 1) := by decide +kernel
theorem dX10_selectPartitions_24 : decode cX10_selectPartitions 24 = .ok (.iconst 4, 1) := by decide +kernel
theorem dX10_selectPartitions_25 : decode cX10_selectPartitions 25 = .ok (.iload_n 1, 1) := by decide +kernel
theorem dX10_selectPartitions_26 : decode cX10_selectPartitions 26 = .ok (.iload_n 2, 1) := by decide +kernel
theorem dX10_selectPartitions_27 : decode cX10_selectPartitions 27 = .ok (.iconst 0, 1) := by decide +kernel
theorem dX10_selectPartitions_28 : decode cX10_selectPartitions 28 = .ok (.iconst 0, 1) := by decide +kernel
theorem dX10_selectPartitions_29 : decode cX10_selectPartitions 29 = .ok (.invokevirtual 106, 3) := by decide +kernel
theorem dX10_selectPartitions_32 : decode cX10_selectPartitions 32 = .ok (.goto 4, 3) := by decide +kernel
theorem dX10_selectPartitions_35 : decode cX10_selectPartitions 35 = .ok (.iconst (-1), 1) := by decide +kernel
theorem dX10_selectPartitions_36 : decode cX10_selectPartitions 36 = .ok (.ireturn, 1) := by decide +kernel
theorem dX10_selectArrangements_0 : decode cX10_selectArrangements 0 = .ok (.iload_n 1, 1) := by decide +kernel
theorem dX10_selectArrangements_1 : decode cX10_selectArrangements 1 = .ok (.i2l, 1) := by decide +kernel
theorem dX10_selectArrangements_2 : decode cX10_selectArrangements 2 = .ok (.lconst 0, 1) := by decide +kernel
theorem dX10_selectArrangements_3 : decode cX10_selectArrangements 3 = .ok (.ldc2_w 110, 3) := by decide +kernel
theorem dX10_selectArrangements_6 : decode cX10_selectArrangements 6 = .ok (.invokestatic 100, 3) := by decide +kernel
theorem dX10_selectArrangements_9 : decode cX10_selectArrangements 9 = .ok (.ifCond .eq 44, 3) := by decide +kernel
theorem dX10_selectArrangements_12 : decode cX10_selectArrangements 12 = .ok (.iload_n 2, 1) := by decide +kernel
theorem dX10_selectArrangements_13 : decode cX10_selectArrangements 13 = .ok (.i2l, 1) := by decide +kernel
theorem dX10_selectArrangements_14 : decode cX10_selectArrangements 14 = .ok (.lconst 0, 1) := by decide +kernel
theorem dX10_selectArrangements_15 : decode cX10_selectArrangements 15 = .ok (.ldc2_w 110, 3) := by decide +kernel
theorem dX10_selectArrangements_18 : decode cX10_selectArrangements 18 = .ok (.invokestatic 100, 3) := by decide +kernel
theorem dX10_selectArrangements_21 : decode cX10_selectArrangements 21 = .ok (.ifCond .eq 32, 3) := by decide +kernel
theorem dX10_selectArrangements_24 : decode cX10_selectArrangements 24 = .ok (.iload_n 3, 1) := by decide +kernel
theorem dX10_selectArrangements_25 : decode cX10_selectArrangements 25 = .ok (.i2l, 1) := by decide +kernel
theorem dX10_selectArrangements_26 : decode cX10_selectArrangements 26 = .ok (.lconst 0, 1) := by decide +kernel
theorem dX10_selectArrangements_27 : decode cX10_selectArrangements 27 = .ok (.ldc2_w 110, 3) := by decide +kernel
theorem dX10_selectArrangements_30 : decode cX10_selectArrangements 30 = .ok (.invokestatic 100, 3) := by decide +kernel
theorem dX10_selectArrangements_33 : decode cX10_selectArrangements 33 = .ok (.ifCond .eq 20, 3) := by decide +kernel
theorem dX10_selectArrangements_36 : decode cX10_selectArrangements 36 = .ok (.iload 4, 2) := by decide +kernel
theorem dX10_selectArrangements_38 : decode cX10_selectArrangements 38 = .ok (.i2l, 1) := by decide +kernel
theorem dX10_selectArrangements_39 : decode cX10_selectArrangements 39 = .ok (.lconst 0, 1) := by decide +kernel
theorem dX10_selectArrangements_40 : decode cX10_selectArrangements 40 = .ok (.ldc2_w 110, 3) := by decide +kernel
theorem dX10_selectArrangements_43 : decode cX10_selectArrangements 43 = .ok (.invokestatic 100, 3) := by decide +kernel
theorem dX10_selectArrangements_46 : decode cX10_selectArrangements 46 = .ok (.ifCond .eq 7, 3) := by decide +kernel
theorem dX10_selectArrangements_49 : decode cX10_selectArrangements 49 = .ok (.iconst 1, 1) := by decide +kernel
theorem dX10_selectArrangements_50 : decode cX10_selectArrangements 50 = .ok (.goto 4, 3) := by decide +kernel
theorem dX10_selectArrangements_53 : decode cX10_selectArrangements 53 = .ok (.iconst 0, 1) := by decide +kernel
theorem dX10_selectArrangements_54 : decode cX10_selectArrangements 54 = .ok (.istore 5, 2) := by decide +kernel
theorem dX10_selectArrangements_56 : decode cX10_selectArrangements 56 = .ok (.iload 5, 2) := by decide +kernel
theorem dX10_selectArrangements_58 : decode cX10_selectArrangements 58 = .ok (.ifCond .eq 35, 3) := by decide +kernel
theorem dX10_selectArrangements_61 : decode cX10_selectArrangements 61 = .ok (.iload_n 1, 1) := by decide +kernel
theorem dX10_selectArrangements_62 : decode cX10_selectArrangements 62 = .ok (.iload_n 2, 1) := by decide +kernel
theorem dX10_selectArrangements_63 : decode cX10_selectArrangements 63 = .ok (.iadd, 1) := by decide +kernel
theorem dX10_selectArrangements_64 : decode cX10_selectArrangements 64 = .ok (.iload_n 3, 1) := by decide +kernel
theorem dX10_selectArrangements_65 : decode cX10_selectArrangements 65 = .ok (.iadd, 1) := by decide +kernel
theorem dX10_selectArrangements_66 : decode cX10_selectArrangements 66 = .ok (.iload 4, 2) := by decide +kernel
theorem dX10_selectArrangements_68 : decode cX10_selectArrangements 68 = .ok (.iadd, 1) := by decide +kernel
theorem dX10_selectArrangements_69 : decode cX10_selectArrangements 69 = .ok (.i2l, 1) := by decide +kernel
theorem dX10_selectArrangements_70 : decode cX10_selectArrangements 70 = .ok (.lconst 1, 1) := by decide +kernel
theorem dX10_selectArrangements_71 : decode cX10_selectArrangements 71 = .ok (.ldc2_w 110, 3) := by decide +kernel
theorem dX10_selectArrangements_74 : decode cX10_selectArrangements 74 = .ok (.invokestatic 100, 3) := by decide +kernel
theorem dX10_selectArrangements_77 : decode cX10_selectArrangements 77 = .ok (.ifCond .eq 16, 3) := by decide +kernel
theorem dX10_selectArrangements_80 : decode cX10_selectArrangements 80 = .ok (.aload_n 0, 1) := by decide +kernel
theorem dX10_selectArrangements_81 : decode cX10_selectArrangements 81 = .ok (.iconst 5, 1) := by decide +kernel
theorem dX10_selectArrangements_82 : decode cX10_selectArrangements 82 = .ok (.iload_n 1, 1) := by decide +kernel
theorem dX10_selectArrangements_83 : decode cX10_selectArrangements 83 = .ok (.iload_n 2, 1) := by decide +kernel
theorem dX10_selectArrangements_84 : decode cX10_selectArrangements 84 = .ok (.iload_n 3, 1) := by decide +kernel
theorem dX10_selectArrangements_85 : decode cX10_selectArrangements 85 = .ok (.iload 4, 2) := by decide +kernel
theorem dX10_selectArrangements_87 : decode cX10_selectArrangements 87 = .ok (.invokevirtual 106, 3) := by decide +kernel
theorem dX10_selectArrangements_90 : decode cX10_selectArrangements 90 = .ok (.goto 4, 3) := by decide +kernel
theorem dX10_selectArrangements_93 : decode cX10_selectArrangements 93 = .ok (.iconst (-1), 1) := by decide +kernel
theorem dX10_selectArrangements_94 : decode cX10_selectArrangements 94 = .ok (.ireturn, 1) := by decide +kernel
theorem dX10_family_0 : decode cX10_family 0 = .ok (.aload_n 0, 1) := by decide +kernel
theorem dX10_family_1 : decode cX10_family 1 = .ok (.getfield 74, 3) := by decide +kernel
theorem dX10_family_4 : decode cX10_family 4 = .ok (.ireturn, 1) := by decide +kernel
theorem dX10_parameter_0 : decode cX10_parameter 0 = .ok (.iload_n 1, 1) := by decide +kernel
theorem dX10_parameter_1 : decode cX10_parameter 1 = .ok (.i2l, 1) := by decide +kernel
theorem dX10_parameter_2 : decode cX10_parameter 2 = .ok (.lconst 0, 1) := by decide +kernel
theorem dX10_parameter_3 : decode cX10_parameter 3 = .ok (.ldc2_w 114, 3) := by decide +kernel
theorem dX10_parameter_6 : decode cX10_parameter 6 = .ok (.invokestatic 100, 3) := by decide +kernel
theorem dX10_parameter_9 : decode cX10_parameter 9 = .ok (.ifCond .eq 12, 3) := by decide +kernel
theorem dX10_parameter_12 : decode cX10_parameter 12 = .ok (.aload_n 0, 1) := by decide +kernel
theorem dX10_parameter_13 : decode cX10_parameter 13 = .ok (.getfield 25, 3) := by decide +kernel
theorem dX10_parameter_16 : decode cX10_parameter 16 = .ok (.iload_n 1, 1) := by decide +kernel
theorem dX10_parameter_17 : decode cX10_parameter 17 = .ok (.iaload, 1) := by decide +kernel
theorem dX10_parameter_18 : decode cX10_parameter 18 = .ok (.goto 4, 3) := by decide +kernel
theorem dX10_parameter_21 : decode cX10_parameter 21 = .ok (.iconst (-1), 1) := by decide +kernel
theorem dX10_parameter_22 : decode cX10_parameter 22 = .ok (.ireturn, 1) := by decide +kernel
theorem dX10_length_0 : decode cX10_length 0 = .ok (.aload_n 0, 1) := by decide +kernel
theorem dX10_length_1 : decode cX10_length 1 = .ok (.invokevirtual 82, 3) := by decide +kernel
theorem dX10_length_4 : decode cX10_length 4 = .ok (.ireturn, 1) := by decide +kernel
theorem dX10_count_0 : decode cX10_count 0 = .ok (.aload_n 0, 1) := by decide +kernel
theorem dX10_count_1 : decode cX10_count 1 = .ok (.invokevirtual 116, 3) := by decide +kernel
theorem dX10_count_4 : decode cX10_count 4 = .ok (.lreturn, 1) := by decide +kernel
theorem dX10_put_0 : decode cX10_put 0 = .ok (.iload_n 1, 1) := by decide +kernel
theorem dX10_put_1 : decode cX10_put 1 = .ok (.i2l, 1) := by decide +kernel
theorem dX10_put_2 : decode cX10_put 2 = .ok (.lconst 0, 1) := by decide +kernel
theorem dX10_put_3 : decode cX10_put 3 = .ok (.ldc2_w 120, 3) := by decide +kernel
theorem dX10_put_6 : decode cX10_put 6 = .ok (.invokestatic 100, 3) := by decide +kernel
theorem dX10_put_9 : decode cX10_put 9 = .ok (.ifCond .eq 17, 3) := by decide +kernel
theorem dX10_put_12 : decode cX10_put 12 = .ok (.iload_n 2, 1) := by decide +kernel
theorem dX10_put_13 : decode cX10_put 13 = .ok (.i2l, 1) := by decide +kernel
theorem dX10_put_14 : decode cX10_put 14 = .ok (.ldc2_w 122, 3) := by decide +kernel
theorem dX10_put_17 : decode cX10_put 17 = .ok (.ldc2_w 124, 3) := by decide +kernel
theorem dX10_put_20 : decode cX10_put 20 = .ok (.invokestatic 100, 3) := by decide +kernel
theorem dX10_put_23 : decode cX10_put 23 = .ok (.ifCond .ne 7, 3) := by decide +kernel
theorem dX10_put_26 : decode cX10_put 26 = .ok (.sipush (-1001), 3) := by decide +kernel
theorem dX10_put_29 : decode cX10_put 29 = .ok (.ireturn, 1) := by decide +kernel
theorem dX10_put_30 : decode cX10_put 30 = .ok (.aload_n 0, 1) := by decide +kernel
theorem dX10_put_31 : decode cX10_put 31 = .ok (.getfield 29, 3) := by decide +kernel
theorem dX10_put_34 : decode cX10_put 34 = .ok (.iload_n 1, 1) := by decide +kernel
theorem dX10_put_35 : decode cX10_put 35 = .ok (.iaload, 1) := by decide +kernel
theorem dX10_put_36 : decode cX10_put 36 = .ok (.istore_n 3, 1) := by decide +kernel
theorem dX10_put_37 : decode cX10_put 37 = .ok (.aload_n 0, 1) := by decide +kernel
theorem dX10_put_38 : decode cX10_put 38 = .ok (.getfield 29, 3) := by decide +kernel
theorem dX10_put_41 : decode cX10_put 41 = .ok (.iload_n 1, 1) := by decide +kernel
theorem dX10_put_42 : decode cX10_put 42 = .ok (.iload_n 2, 1) := by decide +kernel
theorem dX10_put_43 : decode cX10_put 43 = .ok (.iastore, 1) := by decide +kernel
theorem dX10_put_44 : decode cX10_put 44 = .ok (.iload_n 3, 1) := by decide +kernel
theorem dX10_put_45 : decode cX10_put 45 = .ok (.ireturn, 1) := by decide +kernel
theorem dX10_get_0 : decode cX10_get 0 = .ok (.iload_n 1, 1) := by decide +kernel
theorem dX10_get_1 : decode cX10_get 1 = .ok (.i2l, 1) := by decide +kernel
theorem dX10_get_2 : decode cX10_get 2 = .ok (.lconst 0, 1) := by decide +kernel
theorem dX10_get_3 : decode cX10_get 3 = .ok (.ldc2_w 120, 3) := by decide +kernel
theorem dX10_get_6 : decode cX10_get 6 = .ok (.invokestatic 100, 3) := by decide +kernel
theorem dX10_get_9 : decode cX10_get 9 = .ok (.ifCond .eq 12, 3) := by decide +kernel
theorem dX10_get_12 : decode cX10_get 12 = .ok (.aload_n 0, 1) := by decide +kernel
theorem dX10_get_13 : decode cX10_get 13 = .ok (.getfield 29, 3) := by decide +kernel
theorem dX10_get_16 : decode cX10_get 16 = .ok (.iload_n 1, 1) := by decide +kernel
theorem dX10_get_17 : decode cX10_get 17 = .ok (.iaload, 1) := by decide +kernel
theorem dX10_get_18 : decode cX10_get 18 = .ok (.goto 6, 3) := by decide +kernel
theorem dX10_get_21 : decode cX10_get 21 = .ok (.sipush (-1001), 3) := by decide +kernel
theorem dX10_get_24 : decode cX10_get 24 = .ok (.ireturn, 1) := by decide +kernel
theorem dX10_isSubset_0 : decode cX10_isSubset 0 = .ok (.iconst (-1), 1) := by decide +kernel
theorem dX10_isSubset_1 : decode cX10_isSubset 1 = .ok (.istore_n 1, 1) := by decide +kernel
theorem dX10_isSubset_2 : decode cX10_isSubset 2 = .ok (.iconst 0, 1) := by decide +kernel
theorem dX10_isSubset_3 : decode cX10_isSubset 3 = .ok (.istore_n 2, 1) := by decide +kernel
theorem dX10_isSubset_4 : decode cX10_isSubset 4 = .ok (.iload_n 2, 1) := by decide +kernel
theorem dX10_isSubset_5 : decode cX10_isSubset 5 = .ok (.aload_n 0, 1) := by decide +kernel
theorem dX10_isSubset_6 : decode cX10_isSubset 6 = .ok (.getfield 25, 3) := by decide +kernel
theorem dX10_isSubset_9 : decode cX10_isSubset 9 = .ok (.iconst 1, 1) := by decide +kernel
theorem dX10_isSubset_10 : decode cX10_isSubset 10 = .ok (.iaload, 1) := by decide +kernel
theorem dX10_isSubset_11 : decode cX10_isSubset 11 = .ok (.if_icmp .ge 44, 3) := by decide +kernel
theorem dX10_isSubset_14 : decode cX10_isSubset 14 = .ok (.aload_n 0, 1) := by decide +kernel
theorem dX10_isSubset_15 : decode cX10_isSubset 15 = .ok (.getfield 29, 3) := by decide +kernel
theorem dX10_isSubset_18 : decode cX10_isSubset 18 = .ok (.iload_n 2, 1) := by decide +kernel
theorem dX10_isSubset_19 : decode cX10_isSubset 19 = .ok (.iaload, 1) := by decide +kernel
theorem dX10_isSubset_20 : decode cX10_isSubset 20 = .ok (.i2l, 1) := by decide +kernel
theorem dX10_isSubset_21 : decode cX10_isSubset 21 = .ok (.iload_n 1, 1) := by decide +kernel
theorem dX10_isSubset_22 : decode cX10_isSubset 22 = .ok (.i2l, 1) := by decide +kernel
theorem dX10_isSubset_23 : decode cX10_isSubset 23 = .ok (.lconst 1, 1) := by decide +kernel
theorem dX10_isSubset_24 : decode cX10_isSubset 24 = .ok (.ladd, 1) := by decide +kernel
theorem dX10_isSubset_25 : decode cX10_isSubset 25 = .ok (.aload_n 0, 1) := by decide +kernel
theorem dX10_isSubset_26 : decode cX10_isSubset 26 = .ok (.getfield 25, 3) := by decide +kernel
theorem dX10_isSubset_29 : decode cX10_isSubset 29 = .ok (.iconst 0, 1) := by decide +kernel
theorem dX10_isSubset_30 : decode cX10_isSubset 30 = .ok (.iaload, 1) := by decide +kernel
theorem dX10_isSubset_31 : decode cX10_isSubset 31 = .ok (.i2l, 1) := by decide +kernel
theorem dX10_isSubset_32 : decode cX10_isSubset 32 = .ok (.lconst 1, 1) := by decide +kernel
theorem dX10_isSubset_33 : decode cX10_isSubset 33 = .ok (.lsub, 1) := by decide +kernel
theorem dX10_isSubset_34 : decode cX10_isSubset 34 = .ok (.invokestatic 100, 3) := by decide +kernel
theorem dX10_isSubset_37 : decode cX10_isSubset 37 = .ok (.ifCond .ne 5, 3) := by decide +kernel
theorem dX10_isSubset_40 : decode cX10_isSubset 40 = .ok (.iconst 0, 1) := by decide +kernel
theorem dX10_isSubset_41 : decode cX10_isSubset 41 = .ok (.ireturn, 1) := by decide +kernel
theorem dX10_isSubset_42 : decode cX10_isSubset 42 = .ok (.aload_n 0, 1) := by decide +kernel
theorem dX10_isSubset_43 : decode cX10_isSubset 43 = .ok (.getfield 29, 3) := by decide +kernel
theorem dX10_isSubset_46 : decode cX10_isSubset 46 = .ok (.iload_n 2, 1) := by decide +kernel
theorem dX10_isSubset_47 : decode cX10_isSubset 47 = .ok (.iaload, 1) := by decide +kernel
theorem dX10_isSubset_48 : decode cX10_isSubset 48 = .ok (.istore_n 1, 1) := by decide +kernel
theorem dX10_isSubset_49 : decode cX10_isSubset 49 = .ok (.iinc 2 1, 3) := by decide +kernel
theorem dX10_isSubset_52 : decode cX10_isSubset 52 = .ok (.goto (-48), 3) := by decide +kernel
theorem dX10_isSubset_55 : decode cX10_isSubset 55 = .ok (.iconst 1, 1) := by decide +kernel
theorem dX10_isSubset_56 : decode cX10_isSubset 56 = .ok (.ireturn, 1) := by decide +kernel
theorem dX10_isPermutation_0 : decode cX10_isPermutation 0 = .ok (.iconst 0, 1) := by decide +kernel
theorem dX10_isPermutation_1 : decode cX10_isPermutation 1 = .ok (.istore_n 1, 1) := by decide +kernel
theorem dX10_isPermutation_2 : decode cX10_isPermutation 2 = .ok (.iconst 0, 1) := by decide +kernel
theorem dX10_isPermutation_3 : decode cX10_isPermutation 3 = .ok (.istore_n 2, 1) := by decide +kernel
theorem dX10_isPermutation_4 : decode cX10_isPermutation 4 = .ok (.iload_n 2, 1) := by decide +kernel
theorem dX10_isPermutation_5 : decode cX10_isPermutation 5 = .ok (.aload_n 0, 1) := by decide +kernel
theorem dX10_isPermutation_6 : decode cX10_isPermutation 6 = .ok (.getfield 25, 3) := by decide +kernel
theorem dX10_isPermutation_9 : decode cX10_isPermutation 9 = .ok (.iconst 0, 1) := by decide +kernel
theorem dX10_isPermutation_10 : decode cX10_isPermutation 10 = .ok (.iaload, 1) := by decide +kernel
theorem dX10_isPermutation_11 : decode cX10_isPermutation 11 = .ok (.if_icmp .ge 59, 3) := by decide +kernel
theorem dX10_isPermutation_14 : decode cX10_isPermutation 14 = .ok (.aload_n 0, 1) := by decide +kernel
theorem dX10_isPermutation_15 : decode cX10_isPermutation 15 = .ok (.getfield 29, 3) := by decide +kernel
theorem dX10_isPermutation_18 : decode cX10_isPermutation 18 = .ok (.iload_n 2, 1) := by decide +kernel
theorem dX10_isPermutation_19 : decode cX10_isPermutation 19 = .ok (.iaload, 1) := by decide +kernel
theorem dX10_isPermutation_20 : decode cX10_isPermutation 20 = .ok (.i2l, 1) := by decide +kernel
theorem dX10_isPermutation_21 : decode cX10_isPermutation 21 = .ok (.lconst 0, 1) := by decide +kernel
theorem dX10_isPermutation_22 : decode cX10_isPermutation 22 = .ok (.aload_n 0, 1) := by decide +kernel
theorem dX10_isPermutation_23 : decode cX10_isPermutation 23 = .ok (.getfield 25, 3) := by decide +kernel
theorem dX10_isPermutation_26 : decode cX10_isPermutation 26 = .ok (.iconst 0, 1) := by decide +kernel
theorem dX10_isPermutation_27 : decode cX10_isPermutation 27 = .ok (.iaload, 1) := by decide +kernel
theorem dX10_isPermutation_28 : decode cX10_isPermutation 28 = .ok (.i2l, 1) := by decide +kernel
theorem dX10_isPermutation_29 : decode cX10_isPermutation 29 = .ok (.lconst 1, 1) := by decide +kernel
theorem dX10_isPermutation_30 : decode cX10_isPermutation 30 = .ok (.lsub, 1) := by decide +kernel
theorem dX10_isPermutation_31 : decode cX10_isPermutation 31 = .ok (.invokestatic 100, 3) := by decide +kernel
theorem dX10_isPermutation_34 : decode cX10_isPermutation 34 = .ok (.ifCond .eq 17, 3) := by decide +kernel
theorem dX10_isPermutation_37 : decode cX10_isPermutation 37 = .ok (.iload_n 1, 1) := by decide +kernel
theorem dX10_isPermutation_38 : decode cX10_isPermutation 38 = .ok (.aload_n 0, 1) := by decide +kernel
theorem dX10_isPermutation_39 : decode cX10_isPermutation 39 = .ok (.getfield 29, 3) := by decide +kernel
theorem dX10_isPermutation_42 : decode cX10_isPermutation 42 = .ok (.iload_n 2, 1) := by decide +kernel
theorem dX10_isPermutation_43 : decode cX10_isPermutation 43 = .ok (.iaload, 1) := by decide +kernel
theorem dX10_isPermutation_44 : decode cX10_isPermutation 44 = .ok (.ishr, 1) := by decide +kernel
theorem dX10_isPermutation_45 : decode cX10_isPermutation 45 = .ok (.iconst 1, 1) := by decide +kernel
theorem dX10_isPermutation_46 : decode cX10_isPermutation 46 = .ok (.iand, 1) := by decide +kernel
theorem dX10_isPermutation_47 : decode cX10_isPermutation 47 = .ok (.iconst 1, 1) := by decide +kernel
theorem dX10_isPermutation_48 : decode cX10_isPermutation 48 = .ok (.if_icmp .ne 5, 3) := by decide +kernel
theorem dX10_isPermutation_51 : decode cX10_isPermutation 51 = .ok (.iconst 0, 1) := by decide +kernel
theorem dX10_isPermutation_52 : decode cX10_isPermutation 52 = .ok (.ireturn, 1) := by decide +kernel
theorem dX10_isPermutation_53 : decode cX10_isPermutation 53 = .ok (.iload_n 1, 1) := by decide +kernel
theorem dX10_isPermutation_54 : decode cX10_isPermutation 54 = .ok (.iconst 1, 1) := by decide +kernel
theorem dX10_isPermutation_55 : decode cX10_isPermutation 55 = .ok (.aload_n 0, 1) := by decide +kernel
theorem dX10_isPermutation_56 : decode cX10_isPermutation 56 = .ok (.getfield 29, 3) := by decide +kernel
theorem dX10_isPermutation_59 : decode cX10_isPermutation 59 = .ok (.iload_n 2, 1) := by decide +kernel
theorem dX10_isPermutation_60 : decode cX10_isPermutation 60 = .ok (.iaload, 1) := by decide +kernel
theorem dX10_isPermutation_61 : decode cX10_isPermutation 61 = .ok (.ishl, 1) := by decide +kernel
theorem dX10_isPermutation_62 : decode cX10_isPermutation 62 = .ok (.ior, 1) := by decide +kernel
theorem dX10_isPermutation_63 : decode cX10_isPermutation 63 = .ok (.istore_n 1, 1) := by decide +kernel
theorem dX10_isPermutation_64 : decode cX10_isPermutation 64 = .ok (.iinc 2 1, 3) := by decide +kernel
theorem dX10_isPermutation_67 : decode cX10_isPermutation 67 = .ok (.goto (-63), 3) := by decide +kernel
theorem dX10_isPermutation_70 : decode cX10_isPermutation 70 = .ok (.iconst 1, 1) := by decide +kernel
theorem dX10_isPermutation_71 : decode cX10_isPermutation 71 = .ok (.ireturn, 1) := by decide +kernel
theorem dX10_isWord_0 : decode cX10_isWord 0 = .ok (.iconst 0, 1) := by decide +kernel
theorem dX10_isWord_1 : decode cX10_isWord 1 = .ok (.istore_n 1, 1) := by decide +kernel
theorem dX10_isWord_2 : decode cX10_isWord 2 = .ok (.iconst 0, 1) := by decide +kernel
theorem dX10_isWord_3 : decode cX10_isWord 3 = .ok (.istore_n 2, 1) := by decide +kernel
theorem dX10_isWord_4 : decode cX10_isWord 4 = .ok (.iload_n 2, 1) := by decide +kernel
theorem dX10_isWord_5 : decode cX10_isWord 5 = .ok (.iconst 2, 1) := by decide +kernel
theorem dX10_isWord_6 : decode cX10_isWord 6 = .ok (.aload_n 0, 1) := by decide +kernel
theorem dX10_isWord_7 : decode cX10_isWord 7 = .ok (.getfield 25, 3) := by decide +kernel
theorem dX10_isWord_10 : decode cX10_isWord 10 = .ok (.iconst 0, 1) := by decide +kernel
theorem dX10_isWord_11 : decode cX10_isWord 11 = .ok (.iaload, 1) := by decide +kernel
theorem dX10_isWord_12 : decode cX10_isWord 12 = .ok (.imul, 1) := by decide +kernel
theorem dX10_isWord_13 : decode cX10_isWord 13 = .ok (.if_icmp .ge 82, 3) := by decide +kernel
theorem dX10_isWord_16 : decode cX10_isWord 16 = .ok (.aload_n 0, 1) := by decide +kernel
theorem dX10_isWord_17 : decode cX10_isWord 17 = .ok (.getfield 29, 3) := by decide +kernel
theorem dX10_isWord_20 : decode cX10_isWord 20 = .ok (.iload_n 2, 1) := by decide +kernel
theorem dX10_isWord_21 : decode cX10_isWord 21 = .ok (.iaload, 1) := by decide +kernel
theorem dX10_isWord_22 : decode cX10_isWord 22 = .ok (.istore_n 3, 1) := by decide +kernel
theorem dX10_isWord_23 : decode cX10_isWord 23 = .ok (.iload_n 3, 1) := by decide +kernel
theorem dX10_isWord_24 : decode cX10_isWord 24 = .ok (.i2l, 1) := by decide +kernel
theorem dX10_isWord_25 : decode cX10_isWord 25 = .ok (.lconst 0, 1) := by decide +kernel
theorem dX10_isWord_26 : decode cX10_isWord 26 = .ok (.ldc2_w 104, 3) := by decide +kernel
theorem dX10_isWord_29 : decode cX10_isWord 29 = .ok (.aload_n 0, 1) := by decide +kernel
theorem dX10_isWord_30 : decode cX10_isWord 30 = .ok (.getfield 25, 3) := by decide +kernel
theorem dX10_isWord_33 : decode cX10_isWord 33 = .ok (.iconst 1, 1) := by decide +kernel
theorem dX10_isWord_34 : decode cX10_isWord 34 = .ok (.iaload, 1) := by decide +kernel
theorem dX10_isWord_35 : decode cX10_isWord 35 = .ok (.i2l, 1) := by decide +kernel
theorem dX10_isWord_36 : decode cX10_isWord 36 = .ok (.lmul, 1) := by decide +kernel
theorem dX10_isWord_37 : decode cX10_isWord 37 = .ok (.lconst 1, 1) := by decide +kernel
theorem dX10_isWord_38 : decode cX10_isWord 38 = .ok (.lsub, 1) := by decide +kernel
theorem dX10_isWord_39 : decode cX10_isWord 39 = .ok (.invokestatic 100, 3) := by decide +kernel
theorem dX10_isWord_42 : decode cX10_isWord 42 = .ok (.ifCond .ne 5, 3) := by decide +kernel
theorem dX10_isWord_45 : decode cX10_isWord 45 = .ok (.iconst 0, 1) := by decide +kernel
theorem dX10_isWord_46 : decode cX10_isWord 46 = .ok (.ireturn, 1) := by decide +kernel
theorem dX10_isWord_47 : decode cX10_isWord 47 = .ok (.iload_n 3, 1) := by decide +kernel
theorem dX10_isWord_48 : decode cX10_isWord 48 = .ok (.iconst 2, 1) := by decide +kernel
theorem dX10_isWord_49 : decode cX10_isWord 49 = .ok (.irem, 1) := by decide +kernel
theorem dX10_isWord_50 : decode cX10_isWord 50 = .ok (.ifCond .ne 16, 3) := by decide +kernel
theorem dX10_isWord_53 : decode cX10_isWord 53 = .ok (.aload_n 0, 1) := by decide +kernel
theorem dX10_isWord_54 : decode cX10_isWord 54 = .ok (.getfield 35, 3) := by decide +kernel
theorem dX10_isWord_57 : decode cX10_isWord 57 = .ok (.iload_n 1, 1) := by decide +kernel
theorem dX10_isWord_58 : decode cX10_isWord 58 = .ok (.iload_n 3, 1) := by decide +kernel
theorem dX10_isWord_59 : decode cX10_isWord 59 = .ok (.iastore, 1) := by decide +kernel
theorem dX10_isWord_60 : decode cX10_isWord 60 = .ok (.iinc 1 1, 3) := by decide +kernel
theorem dX10_isWord_63 : decode cX10_isWord 63 = .ok (.goto 26, 3) := by decide +kernel
theorem dX10_isWord_66 : decode cX10_isWord 66 = .ok (.iload_n 1, 1) := by decide +kernel
theorem dX10_isWord_67 : decode cX10_isWord 67 = .ok (.ifCond .eq 17, 3) := by decide +kernel
theorem dX10_isWord_70 : decode cX10_isWord 70 = .ok (.aload_n 0, 1) := by decide +kernel
theorem dX10_isWord_71 : decode cX10_isWord 71 = .ok (.getfield 35, 3) := by decide +kernel
theorem dX10_isWord_74 : decode cX10_isWord 74 = .ok (.iload_n 1, 1) := by decide +kernel
theorem dX10_isWord_75 : decode cX10_isWord 75 = .ok (.iconst 1, 1) := by decide +kernel
theorem dX10_isWord_76 : decode cX10_isWord 76 = .ok (.isub, 1) := by decide +kernel
theorem dX10_isWord_77 : decode cX10_isWord 77 = .ok (.iaload, 1) := by decide +kernel
theorem dX10_isWord_78 : decode cX10_isWord 78 = .ok (.iload_n 3, 1) := by decide +kernel
theorem dX10_isWord_79 : decode cX10_isWord 79 = .ok (.iconst 1, 1) := by decide +kernel
theorem dX10_isWord_80 : decode cX10_isWord 80 = .ok (.isub, 1) := by decide +kernel
theorem dX10_isWord_81 : decode cX10_isWord 81 = .ok (.if_icmp .eq 5, 3) := by decide +kernel
theorem dX10_isWord_84 : decode cX10_isWord 84 = .ok (.iconst 0, 1) := by decide +kernel
theorem dX10_isWord_85 : decode cX10_isWord 85 = .ok (.ireturn, 1) := by decide +kernel
theorem dX10_isWord_86 : decode cX10_isWord 86 = .ok (.iinc 1 (-1), 3) := by decide +kernel
theorem dX10_isWord_89 : decode cX10_isWord 89 = .ok (.iinc 2 1, 3) := by decide +kernel
theorem dX10_isWord_92 : decode cX10_isWord 92 = .ok (.goto (-88), 3) := by decide +kernel
theorem dX10_isWord_95 : decode cX10_isWord 95 = .ok (.iload_n 1, 1) := by decide +kernel
theorem dX10_isWord_96 : decode cX10_isWord 96 = .ok (.ifCond .ne 7, 3) := by decide +kernel
theorem dX10_isWord_99 : decode cX10_isWord 99 = .ok (.iconst 1, 1) := by decide +kernel
theorem dX10_isWord_100 : decode cX10_isWord 100 = .ok (.goto 4, 3) := by decide +kernel
theorem dX10_isWord_103 : decode cX10_isWord 103 = .ok (.iconst 0, 1) := by decide +kernel
theorem dX10_isWord_104 : decode cX10_isWord 104 = .ok (.ireturn, 1) := by decide +kernel
theorem dX10_isTree_0 : decode cX10_isTree 0 = .ok (.iconst 1, 1) := by decide +kernel
theorem dX10_isTree_1 : decode cX10_isTree 1 = .ok (.istore_n 1, 1) := by decide +kernel
theorem dX10_isTree_2 : decode cX10_isTree 2 = .ok (.aload_n 0, 1) := by decide +kernel
theorem dX10_isTree_3 : decode cX10_isTree 3 = .ok (.getfield 35, 3) := by decide +kernel
theorem dX10_isTree_6 : decode cX10_isTree 6 = .ok (.iconst 0, 1) := by decide +kernel
theorem dX10_isTree_7 : decode cX10_isTree 7 = .ok (.aload_n 0, 1) := by decide +kernel
theorem dX10_isTree_8 : decode cX10_isTree 8 = .ok (.getfield 25, 3) := by decide +kernel
theorem dX10_isTree_11 : decode cX10_isTree 11 = .ok (.iconst 0, 1) := by decide +kernel
theorem dX10_isTree_12 : decode cX10_isTree 12 = .ok (.iaload, 1) := by decide +kernel
theorem dX10_isTree_13 : decode cX10_isTree 13 = .ok (.iastore, 1) := by decide +kernel
theorem dX10_isTree_14 : decode cX10_isTree 14 = .ok (.iconst 0, 1) := by decide +kernel
theorem dX10_isTree_15 : decode cX10_isTree 15 = .ok (.istore_n 2, 1) := by decide +kernel
theorem dX10_isTree_16 : decode cX10_isTree 16 = .ok (.iload_n 2, 1) := by decide +kernel
theorem dX10_isTree_17 : decode cX10_isTree 17 = .ok (.aload_n 0, 1) := by decide +kernel
theorem dX10_isTree_18 : decode cX10_isTree 18 = .ok (.getfield 25, 3) := by decide +kernel
theorem dX10_isTree_21 : decode cX10_isTree 21 = .ok (.iconst 0, 1) := by decide +kernel
theorem dX10_isTree_22 : decode cX10_isTree 22 = .ok (.iaload, 1) := by decide +kernel
theorem dX10_isTree_23 : decode cX10_isTree 23 = .ok (.if_icmp .ge 83, 3) := by decide +kernel
theorem dX10_isTree_26 : decode cX10_isTree 26 = .ok (.iinc 1 (-1), 3) := by decide +kernel
theorem dX10_isTree_29 : decode cX10_isTree 29 = .ok (.aload_n 0, 1) := by decide +kernel
theorem dX10_isTree_30 : decode cX10_isTree 30 = .ok (.getfield 35, 3) := by decide +kernel
theorem dX10_isTree_33 : decode cX10_isTree 33 = .ok (.iload_n 1, 1) := by decide +kernel
theorem dX10_isTree_34 : decode cX10_isTree 34 = .ok (.iaload, 1) := by decide +kernel
theorem dX10_isTree_35 : decode cX10_isTree 35 = .ok (.istore_n 3, 1) := by decide +kernel
theorem dX10_isTree_36 : decode cX10_isTree 36 = .ok (.aload_n 0, 1) := by decide +kernel
theorem dX10_isTree_37 : decode cX10_isTree 37 = .ok (.getfield 29, 3) := by decide +kernel
theorem dX10_isTree_40 : decode cX10_isTree 40 = .ok (.iload_n 2, 1) := by decide +kernel
theorem dX10_isTree_41 : decode cX10_isTree 41 = .ok (.iaload, 1) := by decide +kernel
theorem dX10_isTree_42 : decode cX10_isTree 42 = .ok (.istore 4, 2) := by decide +kernel
theorem dX10_isTree_44 : decode cX10_isTree 44 = .ok (.iload 4, 2) := by decide +kernel
theorem dX10_isTree_46 : decode cX10_isTree 46 = .ok (.i2l, 1) := by decide +kernel
theorem dX10_isTree_47 : decode cX10_isTree 47 = .ok (.lconst 0, 1) := by decide +kernel
theorem dX10_isTree_48 : decode cX10_isTree 48 = .ok (.iload_n 3, 1) := by decide +kernel
theorem dX10_isTree_49 : decode cX10_isTree 49 = .ok (.i2l, 1) := by decide +kernel
theorem dX10_isTree_50 : decode cX10_isTree 50 = .ok (.lconst 1, 1) := by decide +kernel
theorem dX10_isTree_51 : decode cX10_isTree 51 = .ok (.lsub, 1) := by decide +kernel
theorem dX10_isTree_52 : decode cX10_isTree 52 = .ok (.invokestatic 100, 3) := by decide +kernel
theorem dX10_isTree_55 : decode cX10_isTree 55 = .ok (.ifCond .ne 5, 3) := by decide +kernel
theorem dX10_isTree_58 : decode cX10_isTree 58 = .ok (.iconst 0, 1) := by decide +kernel
theorem dX10_isTree_59 : decode cX10_isTree 59 = .ok (.ireturn, 1) := by decide +kernel
theorem dX10_isTree_60 : decode cX10_isTree 60 = .ok (.iload_n 3, 1) := by decide +kernel
theorem dX10_isTree_61 : decode cX10_isTree 61 = .ok (.iconst 1, 1) := by decide +kernel
theorem dX10_isTree_62 : decode cX10_isTree 62 = .ok (.isub, 1) := by decide +kernel
theorem dX10_isTree_63 : decode cX10_isTree 63 = .ok (.iload 4, 2) := by decide +kernel
theorem dX10_isTree_65 : decode cX10_isTree 65 = .ok (.isub, 1) := by decide +kernel
theorem dX10_isTree_66 : decode cX10_isTree 66 = .ok (.ifCond .le 18, 3) := by decide +kernel
theorem dX10_isTree_69 : decode cX10_isTree 69 = .ok (.aload_n 0, 1) := by decide +kernel
theorem dX10_isTree_70 : decode cX10_isTree 70 = .ok (.getfield 35, 3) := by decide +kernel
theorem dX10_isTree_73 : decode cX10_isTree 73 = .ok (.iload_n 1, 1) := by decide +kernel
theorem dX10_isTree_74 : decode cX10_isTree 74 = .ok (.iload_n 3, 1) := by decide +kernel
theorem dX10_isTree_75 : decode cX10_isTree 75 = .ok (.iconst 1, 1) := by decide +kernel
theorem dX10_isTree_76 : decode cX10_isTree 76 = .ok (.isub, 1) := by decide +kernel
theorem dX10_isTree_77 : decode cX10_isTree 77 = .ok (.iload 4, 2) := by decide +kernel
theorem dX10_isTree_79 : decode cX10_isTree 79 = .ok (.isub, 1) := by decide +kernel
theorem dX10_isTree_80 : decode cX10_isTree 80 = .ok (.iastore, 1) := by decide +kernel
theorem dX10_isTree_81 : decode cX10_isTree 81 = .ok (.iinc 1 1, 3) := by decide +kernel
theorem dX10_isTree_84 : decode cX10_isTree 84 = .ok (.iload 4, 2) := by decide +kernel
theorem dX10_isTree_86 : decode cX10_isTree 86 = .ok (.ifCond .le 14, 3) := by decide +kernel
theorem dX10_isTree_89 : decode cX10_isTree 89 = .ok (.aload_n 0, 1) := by decide +kernel
theorem dX10_isTree_90 : decode cX10_isTree 90 = .ok (.getfield 35, 3) := by decide +kernel
theorem dX10_isTree_93 : decode cX10_isTree 93 = .ok (.iload_n 1, 1) := by decide +kernel
theorem dX10_isTree_94 : decode cX10_isTree 94 = .ok (.iload 4, 2) := by decide +kernel
theorem dX10_isTree_96 : decode cX10_isTree 96 = .ok (.iastore, 1) := by decide +kernel
theorem dX10_isTree_97 : decode cX10_isTree 97 = .ok (.iinc 1 1, 3) := by decide +kernel
theorem dX10_isTree_100 : decode cX10_isTree 100 = .ok (.iinc 2 1, 3) := by decide +kernel
theorem dX10_isTree_103 : decode cX10_isTree 103 = .ok (.goto (-87), 3) := by decide +kernel
theorem dX10_isTree_106 : decode cX10_isTree 106 = .ok (.iconst 1, 1) := by decide +kernel
theorem dX10_isTree_107 : decode cX10_isTree 107 = .ok (.ireturn, 1) := by decide +kernel
theorem dX10_isPartition_0 : decode cX10_isPartition 0 = .ok (.aload_n 0, 1) := by decide +kernel
theorem dX10_isPartition_1 : decode cX10_isPartition 1 = .ok (.getfield 25, 3) := by decide +kernel
theorem dX10_isPartition_4 : decode cX10_isPartition 4 = .ok (.iconst 1, 1) := by decide +kernel
theorem dX10_isPartition_5 : decode cX10_isPartition 5 = .ok (.iaload, 1) := by decide +kernel
theorem dX10_isPartition_6 : decode cX10_isPartition 6 = .ok (.istore_n 1, 1) := by decide +kernel
theorem dX10_isPartition_7 : decode cX10_isPartition 7 = .ok (.iconst 0, 1) := by decide +kernel
theorem dX10_isPartition_8 : decode cX10_isPartition 8 = .ok (.istore_n 2, 1) := by decide +kernel
theorem dX10_isPartition_9 : decode cX10_isPartition 9 = .ok (.iconst 0, 1) := by decide +kernel
theorem dX10_isPartition_10 : decode cX10_isPartition 10 = .ok (.istore_n 3, 1) := by decide +kernel
theorem dX10_isPartition_11 : decode cX10_isPartition 11 = .ok (.iload_n 3, 1) := by decide +kernel
theorem dX10_isPartition_12 : decode cX10_isPartition 12 = .ok (.aload_n 0, 1) := by decide +kernel
theorem dX10_isPartition_13 : decode cX10_isPartition 13 = .ok (.getfield 25, 3) := by decide +kernel
theorem dX10_isPartition_16 : decode cX10_isPartition 16 = .ok (.iconst 0, 1) := by decide +kernel
theorem dX10_isPartition_17 : decode cX10_isPartition 17 = .ok (.iaload, 1) := by decide +kernel
theorem dX10_isPartition_18 : decode cX10_isPartition 18 = .ok (.if_icmp .ge 38, 3) := by decide +kernel
theorem dX10_isPartition_21 : decode cX10_isPartition 21 = .ok (.aload_n 0, 1) := by decide +kernel
theorem dX10_isPartition_22 : decode cX10_isPartition 22 = .ok (.getfield 29, 3) := by decide +kernel
theorem dX10_isPartition_25 : decode cX10_isPartition 25 = .ok (.iload_n 3, 1) := by decide +kernel
theorem dX10_isPartition_26 : decode cX10_isPartition 26 = .ok (.iaload, 1) := by decide +kernel
theorem dX10_isPartition_27 : decode cX10_isPartition 27 = .ok (.i2l, 1) := by decide +kernel
theorem dX10_isPartition_28 : decode cX10_isPartition 28 = .ok (.lconst 0, 1) := by decide +kernel
theorem dX10_isPartition_29 : decode cX10_isPartition 29 = .ok (.iload_n 1, 1) := by decide +kernel
theorem dX10_isPartition_30 : decode cX10_isPartition 30 = .ok (.i2l, 1) := by decide +kernel
theorem dX10_isPartition_31 : decode cX10_isPartition 31 = .ok (.invokestatic 100, 3) := by decide +kernel
theorem dX10_isPartition_34 : decode cX10_isPartition 34 = .ok (.ifCond .ne 5, 3) := by decide +kernel
theorem dX10_isPartition_37 : decode cX10_isPartition 37 = .ok (.iconst 0, 1) := by decide +kernel
theorem dX10_isPartition_38 : decode cX10_isPartition 38 = .ok (.ireturn, 1) := by decide +kernel
theorem dX10_isPartition_39 : decode cX10_isPartition 39 = .ok (.aload_n 0, 1) := by decide +kernel
theorem dX10_isPartition_40 : decode cX10_isPartition 40 = .ok (.getfield 29, 3) := by decide +kernel
theorem dX10_isPartition_43 : decode cX10_isPartition 43 = .ok (.iload_n 3, 1) := by decide +kernel
theorem dX10_isPartition_44 : decode cX10_isPartition 44 = .ok (.iaload, 1) := by decide +kernel
theorem dX10_isPartition_45 : decode cX10_isPartition 45 = .ok (.istore_n 1, 1) := by decide +kernel
theorem dX10_isPartition_46 : decode cX10_isPartition 46 = .ok (.iload_n 2, 1) := by decide +kernel
theorem dX10_isPartition_47 : decode cX10_isPartition 47 = .ok (.iload_n 1, 1) := by decide +kernel
theorem dX10_isPartition_48 : decode cX10_isPartition 48 = .ok (.iadd, 1) := by decide +kernel
theorem dX10_isPartition_49 : decode cX10_isPartition 49 = .ok (.istore_n 2, 1) := by decide +kernel
theorem dX10_isPartition_50 : decode cX10_isPartition 50 = .ok (.iinc 3 1, 3) := by decide +kernel
theorem dX10_isPartition_53 : decode cX10_isPartition 53 = .ok (.goto (-42), 3) := by decide +kernel
theorem dX10_isPartition_56 : decode cX10_isPartition 56 = .ok (.iload_n 2, 1) := by decide +kernel
theorem dX10_isPartition_57 : decode cX10_isPartition 57 = .ok (.aload_n 0, 1) := by decide +kernel
theorem dX10_isPartition_58 : decode cX10_isPartition 58 = .ok (.getfield 25, 3) := by decide +kernel
theorem dX10_isPartition_61 : decode cX10_isPartition 61 = .ok (.iconst 0, 1) := by decide +kernel
theorem dX10_isPartition_62 : decode cX10_isPartition 62 = .ok (.iaload, 1) := by decide +kernel
theorem dX10_isPartition_63 : decode cX10_isPartition 63 = .ok (.if_icmp .ne 7, 3) := by decide +kernel
theorem dX10_isPartition_66 : decode cX10_isPartition 66 = .ok (.iconst 1, 1) := by decide +kernel
theorem dX10_isPartition_67 : decode cX10_isPartition 67 = .ok (.goto 4, 3) := by decide +kernel
theorem dX10_isPartition_70 : decode cX10_isPartition 70 = .ok (.iconst 0, 1) := by decide +kernel
theorem dX10_isPartition_71 : decode cX10_isPartition 71 = .ok (.ireturn, 1) := by decide +kernel
theorem dX10_manyIn_0 : decode cX10_manyIn 0 = .ok (.iconst 0, 1) := by decide +kernel
theorem dX10_manyIn_1 : decode cX10_manyIn 1 = .ok (.istore_n 2, 1) := by decide +kernel
theorem dX10_manyIn_2 : decode cX10_manyIn 2 = .ok (.iconst 0, 1) := by decide +kernel
theorem dX10_manyIn_3 : decode cX10_manyIn 3 = .ok (.istore_n 3, 1) := by decide +kernel
theorem dX10_manyIn_4 : decode cX10_manyIn 4 = .ok (.iload_n 3, 1) := by decide +kernel
theorem dX10_manyIn_5 : decode cX10_manyIn 5 = .ok (.aload_n 0, 1) := by decide +kernel
theorem dX10_manyIn_6 : decode cX10_manyIn 6 = .ok (.invokevirtual 82, 3) := by decide +kernel
theorem dX10_manyIn_9 : decode cX10_manyIn 9 = .ok (.if_icmp .ge 27, 3) := by decide +kernel
theorem dX10_manyIn_12 : decode cX10_manyIn 12 = .ok (.iload_n 2, 1) := by decide +kernel
theorem dX10_manyIn_13 : decode cX10_manyIn 13 = .ok (.aload_n 0, 1) := by decide +kernel
theorem dX10_manyIn_14 : decode cX10_manyIn 14 = .ok (.getfield 29, 3) := by decide +kernel
theorem dX10_manyIn_17 : decode cX10_manyIn 17 = .ok (.iload_n 3, 1) := by decide +kernel
theorem dX10_manyIn_18 : decode cX10_manyIn 18 = .ok (.iaload, 1) := by decide +kernel
theorem dX10_manyIn_19 : decode cX10_manyIn 19 = .ok (.iload_n 1, 1) := by decide +kernel
theorem dX10_manyIn_20 : decode cX10_manyIn 20 = .ok (.if_icmp .ne 7, 3) := by decide +kernel
theorem dX10_manyIn_23 : decode cX10_manyIn 23 = .ok (.iconst 1, 1) := by decide +kernel
theorem dX10_manyIn_24 : decode cX10_manyIn 24 = .ok (.goto 4, 3) := by decide +kernel
theorem dX10_manyIn_27 : decode cX10_manyIn 27 = .ok (.iconst 0, 1) := by decide +kernel
theorem dX10_manyIn_28 : decode cX10_manyIn 28 = .ok (.iadd, 1) := by decide +kernel
theorem dX10_manyIn_29 : decode cX10_manyIn 29 = .ok (.istore_n 2, 1) := by decide +kernel
theorem dX10_manyIn_30 : decode cX10_manyIn 30 = .ok (.iinc 3 1, 3) := by decide +kernel
theorem dX10_manyIn_33 : decode cX10_manyIn 33 = .ok (.goto (-29), 3) := by decide +kernel
theorem dX10_manyIn_36 : decode cX10_manyIn 36 = .ok (.iload_n 2, 1) := by decide +kernel
theorem dX10_manyIn_37 : decode cX10_manyIn 37 = .ok (.ireturn, 1) := by decide +kernel
theorem dX10_isGood_0 : decode cX10_isGood 0 = .ok (.aload_n 0, 1) := by decide +kernel
theorem dX10_isGood_1 : decode cX10_isGood 1 = .ok (.getfield 74, 3) := by decide +kernel
theorem dX10_isGood_4 : decode cX10_isGood 4 = .ok (.tableswitch 61 0 4 #[36, 41, 46, 51, 56], 36) := by decide +kernel
theorem dX10_isGood_40 : decode cX10_isGood 40 = .ok (.aload_n 0, 1) := by decide +kernel
theorem dX10_isGood_41 : decode cX10_isGood 41 = .ok (.invokevirtual 126, 3) := by decide +kernel
theorem dX10_isGood_44 : decode cX10_isGood 44 = .ok (.ireturn, 1) := by decide +kernel
theorem dX10_isGood_45 : decode cX10_isGood 45 = .ok (.aload_n 0, 1) := by decide +kernel
theorem dX10_isGood_46 : decode cX10_isGood 46 = .ok (.invokevirtual 129, 3) := by decide +kernel
theorem dX10_isGood_49 : decode cX10_isGood 49 = .ok (.ireturn, 1) := by decide +kernel
theorem dX10_isGood_50 : decode cX10_isGood 50 = .ok (.aload_n 0, 1) := by decide +kernel
theorem dX10_isGood_51 : decode cX10_isGood 51 = .ok (.invokevirtual 132, 3) := by decide +kernel
theorem dX10_isGood_54 : decode cX10_isGood 54 = .ok (.ireturn, 1) := by decide +kernel
theorem dX10_isGood_55 : decode cX10_isGood 55 = .ok (.aload_n 0, 1) := by decide +kernel
theorem dX10_isGood_56 : decode cX10_isGood 56 = .ok (.invokevirtual 135, 3) := by decide +kernel
theorem dX10_isGood_59 : decode cX10_isGood 59 = .ok (.ireturn, 1) := by decide +kernel
theorem dX10_isGood_60 : decode cX10_isGood 60 = .ok (.aload_n 0, 1) := by decide +kernel
theorem dX10_isGood_61 : decode cX10_isGood 61 = .ok (.invokevirtual 138, 3) := by decide +kernel
theorem dX10_isGood_64 : decode cX10_isGood 64 = .ok (.ireturn, 1) := by decide +kernel
theorem dX10_isGood_65 : decode cX10_isGood 65 = .ok (.aload_n 0, 1) := by decide +kernel
theorem dX10_isGood_66 : decode cX10_isGood 66 = .ok (.iconst 0, 1) := by decide +kernel
theorem dX10_isGood_67 : decode cX10_isGood 67 = .ok (.invokevirtual 141, 3) := by decide +kernel
theorem dX10_isGood_70 : decode cX10_isGood 70 = .ok (.aload_n 0, 1) := by decide +kernel
theorem dX10_isGood_71 : decode cX10_isGood 71 = .ok (.getfield 25, 3) := by decide +kernel
theorem dX10_isGood_74 : decode cX10_isGood 74 = .ok (.iconst 0, 1) := by decide +kernel
theorem dX10_isGood_75 : decode cX10_isGood 75 = .ok (.iaload, 1) := by decide +kernel
theorem dX10_isGood_76 : decode cX10_isGood 76 = .ok (.if_icmp .ne 49, 3) := by decide +kernel
theorem dX10_isGood_79 : decode cX10_isGood 79 = .ok (.aload_n 0, 1) := by decide +kernel
theorem dX10_isGood_80 : decode cX10_isGood 80 = .ok (.iconst 1, 1) := by decide +kernel
theorem dX10_isGood_81 : decode cX10_isGood 81 = .ok (.invokevirtual 141, 3) := by decide +kernel
theorem dX10_isGood_84 : decode cX10_isGood 84 = .ok (.aload_n 0, 1) := by decide +kernel
theorem dX10_isGood_85 : decode cX10_isGood 85 = .ok (.getfield 25, 3) := by decide +kernel
theorem dX10_isGood_88 : decode cX10_isGood 88 = .ok (.iconst 1, 1) := by decide +kernel
theorem dX10_isGood_89 : decode cX10_isGood 89 = .ok (.iaload, 1) := by decide +kernel
theorem dX10_isGood_90 : decode cX10_isGood 90 = .ok (.if_icmp .ne 35, 3) := by decide +kernel
theorem dX10_isGood_93 : decode cX10_isGood 93 = .ok (.aload_n 0, 1) := by decide +kernel
theorem dX10_isGood_94 : decode cX10_isGood 94 = .ok (.iconst 2, 1) := by decide +kernel
theorem dX10_isGood_95 : decode cX10_isGood 95 = .ok (.invokevirtual 141, 3) := by decide +kernel
theorem dX10_isGood_98 : decode cX10_isGood 98 = .ok (.aload_n 0, 1) := by decide +kernel
theorem dX10_isGood_99 : decode cX10_isGood 99 = .ok (.getfield 25, 3) := by decide +kernel
theorem dX10_isGood_102 : decode cX10_isGood 102 = .ok (.iconst 2, 1) := by decide +kernel
theorem dX10_isGood_103 : decode cX10_isGood 103 = .ok (.iaload, 1) := by decide +kernel
theorem dX10_isGood_104 : decode cX10_isGood 104 = .ok (.if_icmp .ne 21, 3) := by decide +kernel
theorem dX10_isGood_107 : decode cX10_isGood 107 = .ok (.aload_n 0, 1) := by decide +kernel
theorem dX10_isGood_108 : decode cX10_isGood 108 = .ok (.iconst 3, 1) := by decide +kernel
theorem dX10_isGood_109 : decode cX10_isGood 109 = .ok (.invokevirtual 141, 3) := by decide +kernel
theorem dX10_isGood_112 : decode cX10_isGood 112 = .ok (.aload_n 0, 1) := by decide +kernel
theorem dX10_isGood_113 : decode cX10_isGood 113 = .ok (.getfield 25, 3) := by decide +kernel
theorem dX10_isGood_116 : decode cX10_isGood 116 = .ok (.iconst 3, 1) := by decide +kernel
theorem dX10_isGood_117 : decode cX10_isGood 117 = .ok (.iaload, 1) := by decide +kernel
theorem dX10_isGood_118 : decode cX10_isGood 118 = .ok (.if_icmp .ne 7, 3) := by decide +kernel
theorem dX10_isGood_121 : decode cX10_isGood 121 = .ok (.iconst 1, 1) := by decide +kernel
theorem dX10_isGood_122 : decode cX10_isGood 122 = .ok (.goto 4, 3) := by decide +kernel
theorem dX10_isGood_125 : decode cX10_isGood 125 = .ok (.iconst 0, 1) := by decide +kernel
theorem dX10_isGood_126 : decode cX10_isGood 126 = .ok (.ireturn, 1) := by decide +kernel
theorem dX10_isObject_0 : decode cX10_isObject 0 = .ok (.aload_n 0, 1) := by decide +kernel
theorem dX10_isObject_1 : decode cX10_isObject 1 = .ok (.invokevirtual 145, 3) := by decide +kernel
theorem dX10_isObject_4 : decode cX10_isObject 4 = .ok (.ifCond .eq 7, 3) := by decide +kernel
theorem dX10_isObject_7 : decode cX10_isObject 7 = .ok (.iconst 1, 1) := by decide +kernel
theorem dX10_isObject_8 : decode cX10_isObject 8 = .ok (.goto 4, 3) := by decide +kernel
theorem dX10_isObject_11 : decode cX10_isObject 11 = .ok (.iconst 0, 1) := by decide +kernel
theorem dX10_isObject_12 : decode cX10_isObject 12 = .ok (.ireturn, 1) := by decide +kernel
theorem dX10_subsetRank_0 : decode cX10_subsetRank 0 = .ok (.aload_n 0, 1) := by decide +kernel
theorem dX10_subsetRank_1 : decode cX10_subsetRank 1 = .ok (.getfield 25, 3) := by decide +kernel
theorem dX10_subsetRank_4 : decode cX10_subsetRank 4 = .ok (.iconst 0, 1) := by decide +kernel
theorem dX10_subsetRank_5 : decode cX10_subsetRank 5 = .ok (.iaload, 1) := by decide +kernel
theorem dX10_subsetRank_6 : decode cX10_subsetRank 6 = .ok (.istore_n 1, 1) := by decide +kernel
theorem dX10_subsetRank_7 : decode cX10_subsetRank 7 = .ok (.aload_n 0, 1) := by decide +kernel
theorem dX10_subsetRank_8 : decode cX10_subsetRank 8 = .ok (.getfield 25, 3) := by decide +kernel
theorem dX10_subsetRank_11 : decode cX10_subsetRank 11 = .ok (.iconst 1, 1) := by decide +kernel
theorem dX10_subsetRank_12 : decode cX10_subsetRank 12 = .ok (.iaload, 1) := by decide +kernel
theorem dX10_subsetRank_13 : decode cX10_subsetRank 13 = .ok (.istore_n 2, 1) := by decide +kernel
theorem dX10_subsetRank_14 : decode cX10_subsetRank 14 = .ok (.lconst 0, 1) := by decide +kernel
theorem dX10_subsetRank_15 : decode cX10_subsetRank 15 = .ok (.lstore_n 3, 1) := by decide +kernel
theorem dX10_subsetRank_16 : decode cX10_subsetRank 16 = .ok (.iconst 0, 1) := by decide +kernel
theorem dX10_subsetRank_17 : decode cX10_subsetRank 17 = .ok (.istore 5, 2) := by decide +kernel
theorem dX10_subsetRank_19 : decode cX10_subsetRank 19 = .ok (.iconst 0, 1) := by decide +kernel
theorem dX10_subsetRank_20 : decode cX10_subsetRank 20 = .ok (.istore 6, 2) := by decide +kernel
theorem dX10_subsetRank_22 : decode cX10_subsetRank 22 = .ok (.iload 6, 2) := by decide +kernel
theorem dX10_subsetRank_24 : decode cX10_subsetRank 24 = .ok (.iload_n 2, 1) := by decide +kernel
theorem dX10_subsetRank_25 : decode cX10_subsetRank 25 = .ok (.if_icmp .ge 114, 3) := by decide +kernel
theorem dX10_subsetRank_28 : decode cX10_subsetRank 28 = .ok (.aload_n 0, 1) := by decide +kernel
theorem dX10_subsetRank_29 : decode cX10_subsetRank 29 = .ok (.getfield 29, 3) := by decide +kernel
theorem dX10_subsetRank_32 : decode cX10_subsetRank 32 = .ok (.iload 6, 2) := by decide +kernel
theorem dX10_subsetRank_34 : decode cX10_subsetRank 34 = .ok (.iaload, 1) := by decide +kernel
theorem dX10_subsetRank_35 : decode cX10_subsetRank 35 = .ok (.istore 7, 2) := by decide +kernel
theorem dX10_subsetRank_37 : decode cX10_subsetRank 37 = .ok (.aload_n 0, 1) := by decide +kernel
theorem dX10_subsetRank_38 : decode cX10_subsetRank 38 = .ok (.getfield 25, 3) := by decide +kernel
theorem dX10_subsetRank_41 : decode cX10_subsetRank 41 = .ok (.iconst 2, 1) := by decide +kernel
theorem dX10_subsetRank_42 : decode cX10_subsetRank 42 = .ok (.iaload, 1) := by decide +kernel
theorem dX10_subsetRank_43 : decode cX10_subsetRank 43 = .ok (.ifCond .ne 48, 3) := by decide +kernel
theorem dX10_subsetRank_46 : decode cX10_subsetRank 46 = .ok (.iload 5, 2) := by decide +kernel
theorem dX10_subsetRank_48 : decode cX10_subsetRank 48 = .ok (.istore 8, 2) := by decide +kernel
theorem dX10_subsetRank_50 : decode cX10_subsetRank 50 = .ok (.iload 8, 2) := by decide +kernel
theorem dX10_subsetRank_52 : decode cX10_subsetRank 52 = .ok (.iload 7, 2) := by decide +kernel
theorem dX10_subsetRank_54 : decode cX10_subsetRank 54 = .ok (.if_icmp .ge 28, 3) := by decide +kernel
theorem dX10_subsetRank_57 : decode cX10_subsetRank 57 = .ok (.lload_n 3, 1) := by decide +kernel
theorem dX10_subsetRank_58 : decode cX10_subsetRank 58 = .ok (.aload_n 0, 1) := by decide +kernel
theorem dX10_subsetRank_59 : decode cX10_subsetRank 59 = .ok (.iload_n 1, 1) := by decide +kernel
theorem dX10_subsetRank_60 : decode cX10_subsetRank 60 = .ok (.iconst 1, 1) := by decide +kernel
theorem dX10_subsetRank_61 : decode cX10_subsetRank 61 = .ok (.isub, 1) := by decide +kernel
theorem dX10_subsetRank_62 : decode cX10_subsetRank 62 = .ok (.iload 8, 2) := by decide +kernel
theorem dX10_subsetRank_64 : decode cX10_subsetRank 64 = .ok (.isub, 1) := by decide +kernel
theorem dX10_subsetRank_65 : decode cX10_subsetRank 65 = .ok (.iload_n 2, 1) := by decide +kernel
theorem dX10_subsetRank_66 : decode cX10_subsetRank 66 = .ok (.iconst 1, 1) := by decide +kernel
theorem dX10_subsetRank_67 : decode cX10_subsetRank 67 = .ok (.isub, 1) := by decide +kernel
theorem dX10_subsetRank_68 : decode cX10_subsetRank 68 = .ok (.iload 6, 2) := by decide +kernel
theorem dX10_subsetRank_70 : decode cX10_subsetRank 70 = .ok (.isub, 1) := by decide +kernel
theorem dX10_subsetRank_71 : decode cX10_subsetRank 71 = .ok (.invokevirtual 62, 3) := by decide +kernel
theorem dX10_subsetRank_74 : decode cX10_subsetRank 74 = .ok (.ladd, 1) := by decide +kernel
theorem dX10_subsetRank_75 : decode cX10_subsetRank 75 = .ok (.lstore_n 3, 1) := by decide +kernel
theorem dX10_subsetRank_76 : decode cX10_subsetRank 76 = .ok (.iinc 8 1, 3) := by decide +kernel
theorem dX10_subsetRank_79 : decode cX10_subsetRank 79 = .ok (.goto (-29), 3) := by decide +kernel
theorem dX10_subsetRank_82 : decode cX10_subsetRank 82 = .ok (.iload 7, 2) := by decide +kernel
theorem dX10_subsetRank_84 : decode cX10_subsetRank 84 = .ok (.iconst 1, 1) := by decide +kernel
theorem dX10_subsetRank_85 : decode cX10_subsetRank 85 = .ok (.iadd, 1) := by decide +kernel
theorem dX10_subsetRank_86 : decode cX10_subsetRank 86 = .ok (.istore 5, 2) := by decide +kernel
theorem dX10_subsetRank_88 : decode cX10_subsetRank 88 = .ok (.goto 45, 3) := by decide +kernel
theorem dX10_subsetRank_91 : decode cX10_subsetRank 91 = .ok (.aload_n 0, 1) := by decide +kernel
theorem dX10_subsetRank_92 : decode cX10_subsetRank 92 = .ok (.getfield 25, 3) := by decide +kernel
theorem dX10_subsetRank_95 : decode cX10_subsetRank 95 = .ok (.iconst 2, 1) := by decide +kernel
theorem dX10_subsetRank_96 : decode cX10_subsetRank 96 = .ok (.iaload, 1) := by decide +kernel
theorem dX10_subsetRank_97 : decode cX10_subsetRank 97 = .ok (.iconst 1, 1) := by decide +kernel
theorem dX10_subsetRank_98 : decode cX10_subsetRank 98 = .ok (.if_icmp .ne 18, 3) := by decide +kernel
theorem dX10_subsetRank_101 : decode cX10_subsetRank 101 = .ok (.lload_n 3, 1) := by decide +kernel
theorem dX10_subsetRank_102 : decode cX10_subsetRank 102 = .ok (.aload_n 0, 1) := by decide +kernel
theorem dX10_subsetRank_103 : decode cX10_subsetRank 103 = .ok (.iload 7, 2) := by decide +kernel
theorem dX10_subsetRank_105 : decode cX10_subsetRank 105 = .ok (.iload 6, 2) := by decide +kernel
theorem dX10_subsetRank_107 : decode cX10_subsetRank 107 = .ok (.iconst 1, 1) := by decide +kernel
theorem dX10_subsetRank_108 : decode cX10_subsetRank 108 = .ok (.iadd, 1) := by decide +kernel
theorem dX10_subsetRank_109 : decode cX10_subsetRank 109 = .ok (.invokevirtual 62, 3) := by decide +kernel
theorem dX10_subsetRank_112 : decode cX10_subsetRank 112 = .ok (.ladd, 1) := by decide +kernel
theorem dX10_subsetRank_113 : decode cX10_subsetRank 113 = .ok (.goto 19, 3) := by decide +kernel
theorem dX10_subsetRank_116 : decode cX10_subsetRank 116 = .ok (.aload_n 0, 1) := by decide +kernel
theorem dX10_subsetRank_117 : decode cX10_subsetRank 117 = .ok (.iload 7, 2) := by decide +kernel
theorem dX10_subsetRank_119 : decode cX10_subsetRank 119 = .ok (.iconst 1, 1) := by decide +kernel
theorem dX10_subsetRank_120 : decode cX10_subsetRank 120 = .ok (.iadd, 1) := by decide +kernel
theorem dX10_subsetRank_121 : decode cX10_subsetRank 121 = .ok (.iload 6, 2) := by decide +kernel
theorem dX10_subsetRank_123 : decode cX10_subsetRank 123 = .ok (.iconst 1, 1) := by decide +kernel
theorem dX10_subsetRank_124 : decode cX10_subsetRank 124 = .ok (.iadd, 1) := by decide +kernel
theorem dX10_subsetRank_125 : decode cX10_subsetRank 125 = .ok (.invokevirtual 62, 3) := by decide +kernel
theorem dX10_subsetRank_128 : decode cX10_subsetRank 128 = .ok (.lconst 1, 1) := by decide +kernel
theorem dX10_subsetRank_129 : decode cX10_subsetRank 129 = .ok (.lsub, 1) := by decide +kernel
theorem dX10_subsetRank_130 : decode cX10_subsetRank 130 = .ok (.lload_n 3, 1) := by decide +kernel
theorem dX10_subsetRank_131 : decode cX10_subsetRank 131 = .ok (.lsub, 1) := by decide +kernel
theorem dX10_subsetRank_132 : decode cX10_subsetRank 132 = .ok (.lstore_n 3, 1) := by decide +kernel
theorem dX10_subsetRank_133 : decode cX10_subsetRank 133 = .ok (.iinc 6 1, 3) := by decide +kernel
theorem dX10_subsetRank_136 : decode cX10_subsetRank 136 = .ok (.goto (-114), 3) := by decide +kernel
theorem dX10_subsetRank_139 : decode cX10_subsetRank 139 = .ok (.lload_n 3, 1) := by decide +kernel
theorem dX10_subsetRank_140 : decode cX10_subsetRank 140 = .ok (.lreturn, 1) := by decide +kernel
theorem dX10_lessBehind_0 : decode cX10_lessBehind 0 = .ok (.iconst 0, 1) := by decide +kernel
theorem dX10_lessBehind_1 : decode cX10_lessBehind 1 = .ok (.istore_n 2, 1) := by decide +kernel
theorem dX10_lessBehind_2 : decode cX10_lessBehind 2 = .ok (.iload_n 1, 1) := by decide +kernel
theorem dX10_lessBehind_3 : decode cX10_lessBehind 3 = .ok (.iconst 1, 1) := by decide +kernel
theorem dX10_lessBehind_4 : decode cX10_lessBehind 4 = .ok (.iadd, 1) := by decide +kernel
theorem dX10_lessBehind_5 : decode cX10_lessBehind 5 = .ok (.istore_n 3, 1) := by decide +kernel
theorem dX10_lessBehind_6 : decode cX10_lessBehind 6 = .ok (.iload_n 3, 1) := by decide +kernel
theorem dX10_lessBehind_7 : decode cX10_lessBehind 7 = .ok (.aload_n 0, 1) := by decide +kernel
theorem dX10_lessBehind_8 : decode cX10_lessBehind 8 = .ok (.getfield 25, 3) := by decide +kernel
theorem dX10_lessBehind_11 : decode cX10_lessBehind 11 = .ok (.iconst 0, 1) := by decide +kernel
theorem dX10_lessBehind_12 : decode cX10_lessBehind 12 = .ok (.iaload, 1) := by decide +kernel
theorem dX10_lessBehind_13 : decode cX10_lessBehind 13 = .ok (.if_icmp .ge 32, 3) := by decide +kernel
theorem dX10_lessBehind_16 : decode cX10_lessBehind 16 = .ok (.iload_n 2, 1) := by decide +kernel
theorem dX10_lessBehind_17 : decode cX10_lessBehind 17 = .ok (.aload_n 0, 1) := by decide +kernel
theorem dX10_lessBehind_18 : decode cX10_lessBehind 18 = .ok (.getfield 29, 3) := by decide +kernel
theorem dX10_lessBehind_21 : decode cX10_lessBehind 21 = .ok (.iload_n 3, 1) := by decide +kernel
theorem dX10_lessBehind_22 : decode cX10_lessBehind 22 = .ok (.iaload, 1) := by decide +kernel
theorem dX10_lessBehind_23 : decode cX10_lessBehind 23 = .ok (.aload_n 0, 1) := by decide +kernel
theorem dX10_lessBehind_24 : decode cX10_lessBehind 24 = .ok (.getfield 29, 3) := by decide +kernel
theorem dX10_lessBehind_27 : decode cX10_lessBehind 27 = .ok (.iload_n 1, 1) := by decide +kernel
theorem dX10_lessBehind_28 : decode cX10_lessBehind 28 = .ok (.iaload, 1) := by decide +kernel
theorem dX10_lessBehind_29 : decode cX10_lessBehind 29 = .ok (.if_icmp .ge 7, 3) := by decide +kernel
theorem dX10_lessBehind_32 : decode cX10_lessBehind 32 = .ok (.iconst 1, 1) := by decide +kernel
theorem dX10_lessBehind_33 : decode cX10_lessBehind 33 = .ok (.goto 4, 3) := by decide +kernel
theorem dX10_lessBehind_36 : decode cX10_lessBehind 36 = .ok (.iconst 0, 1) := by decide +kernel
theorem dX10_lessBehind_37 : decode cX10_lessBehind 37 = .ok (.iadd, 1) := by decide +kernel
theorem dX10_lessBehind_38 : decode cX10_lessBehind 38 = .ok (.istore_n 2, 1) := by decide +kernel
theorem dX10_lessBehind_39 : decode cX10_lessBehind 39 = .ok (.iinc 3 1, 3) := by decide +kernel
theorem dX10_lessBehind_42 : decode cX10_lessBehind 42 = .ok (.goto (-36), 3) := by decide +kernel
theorem dX10_lessBehind_45 : decode cX10_lessBehind 45 = .ok (.iload_n 2, 1) := by decide +kernel
theorem dX10_lessBehind_46 : decode cX10_lessBehind 46 = .ok (.ireturn, 1) := by decide +kernel
theorem dX10_placeAmong_0 : decode cX10_placeAmong 0 = .ok (.iconst 0, 1) := by decide +kernel
theorem dX10_placeAmong_1 : decode cX10_placeAmong 1 = .ok (.istore_n 2, 1) := by decide +kernel
theorem dX10_placeAmong_2 : decode cX10_placeAmong 2 = .ok (.iconst 0, 1) := by decide +kernel
theorem dX10_placeAmong_3 : decode cX10_placeAmong 3 = .ok (.istore_n 3, 1) := by decide +kernel
theorem dX10_placeAmong_4 : decode cX10_placeAmong 4 = .ok (.aload_n 0, 1) := by decide +kernel
theorem dX10_placeAmong_5 : decode cX10_placeAmong 5 = .ok (.getfield 29, 3) := by decide +kernel
theorem dX10_placeAmong_8 : decode cX10_placeAmong 8 = .ok (.iload_n 3, 1) := by decide +kernel
theorem dX10_placeAmong_9 : decode cX10_placeAmong 9 = .ok (.iaload, 1) := by decide +kernel
theorem dX10_placeAmong_10 : decode cX10_placeAmong 10 = .ok (.iload_n 1, 1) := by decide +kernel
theorem dX10_placeAmong_11 : decode cX10_placeAmong 11 = .ok (.if_icmp .eq 27, 3) := by decide +kernel
theorem dX10_placeAmong_14 : decode cX10_placeAmong 14 = .ok (.iload_n 2, 1) := by decide +kernel
theorem dX10_placeAmong_15 : decode cX10_placeAmong 15 = .ok (.aload_n 0, 1) := by decide +kernel
theorem dX10_placeAmong_16 : decode cX10_placeAmong 16 = .ok (.getfield 29, 3) := by decide +kernel
theorem dX10_placeAmong_19 : decode cX10_placeAmong 19 = .ok (.iload_n 3, 1) := by decide +kernel
theorem dX10_placeAmong_20 : decode cX10_placeAmong 20 = .ok (.iaload, 1) := by decide +kernel
theorem dX10_placeAmong_21 : decode cX10_placeAmong 21 = .ok (.iload_n 1, 1) := by decide +kernel
theorem dX10_placeAmong_22 : decode cX10_placeAmong 22 = .ok (.if_icmp .ge 7, 3) := by decide +kernel
theorem dX10_placeAmong_25 : decode cX10_placeAmong 25 = .ok (.iconst 1, 1) := by decide +kernel
theorem dX10_placeAmong_26 : decode cX10_placeAmong 26 = .ok (.goto 4, 3) := by decide +kernel
theorem dX10_placeAmong_29 : decode cX10_placeAmong 29 = .ok (.iconst 0, 1) := by decide +kernel
theorem dX10_placeAmong_30 : decode cX10_placeAmong 30 = .ok (.iadd, 1) := by decide +kernel
theorem dX10_placeAmong_31 : decode cX10_placeAmong 31 = .ok (.istore_n 2, 1) := by decide +kernel
theorem dX10_placeAmong_32 : decode cX10_placeAmong 32 = .ok (.iinc 3 1, 3) := by decide +kernel
theorem dX10_placeAmong_35 : decode cX10_placeAmong 35 = .ok (.goto (-31), 3) := by decide +kernel
theorem dX10_placeAmong_38 : decode cX10_placeAmong 38 = .ok (.iload_n 2, 1) := by decide +kernel
theorem dX10_placeAmong_39 : decode cX10_placeAmong 39 = .ok (.ireturn, 1) := by decide +kernel
theorem dX10_permutationRank_0 : decode cX10_permutationRank 0 = .ok (.lconst 0, 1) := by decide +kernel
theorem dX10_permutationRank_1 : decode cX10_permutationRank 1 = .ok (.lstore_n 1, 1) := by decide +kernel
theorem dX10_permutationRank_2 : decode cX10_permutationRank 2 = .ok (.iconst 1, 1) := by decide +kernel
theorem dX10_permutationRank_3 : decode cX10_permutationRank 3 = .ok (.istore_n 3, 1) := by decide +kernel
theorem dX10_permutationRank_4 : decode cX10_permutationRank 4 = .ok (.iload_n 3, 1) := by decide +kernel
theorem dX10_permutationRank_5 : decode cX10_permutationRank 5 = .ok (.aload_n 0, 1) := by decide +kernel
theorem dX10_permutationRank_6 : decode cX10_permutationRank 6 = .ok (.getfield 25, 3) := by decide +kernel
theorem dX10_permutationRank_9 : decode cX10_permutationRank 9 = .ok (.iconst 0, 1) := by decide +kernel
theorem dX10_permutationRank_10 : decode cX10_permutationRank 10 = .ok (.iaload, 1) := by decide +kernel
theorem dX10_permutationRank_11 : decode cX10_permutationRank 11 = .ok (.if_icmp .ge 54, 3) := by decide +kernel
theorem dX10_permutationRank_14 : decode cX10_permutationRank 14 = .ok (.aload_n 0, 1) := by decide +kernel
theorem dX10_permutationRank_15 : decode cX10_permutationRank 15 = .ok (.getfield 25, 3) := by decide +kernel
theorem dX10_permutationRank_18 : decode cX10_permutationRank 18 = .ok (.iconst 1, 1) := by decide +kernel
theorem dX10_permutationRank_19 : decode cX10_permutationRank 19 = .ok (.iaload, 1) := by decide +kernel
theorem dX10_permutationRank_20 : decode cX10_permutationRank 20 = .ok (.iconst 1, 1) := by decide +kernel
theorem dX10_permutationRank_21 : decode cX10_permutationRank 21 = .ok (.if_icmp .ne 44, 3) := by decide +kernel
theorem dX10_permutationRank_24 : decode cX10_permutationRank 24 = .ok (.aload_n 0, 1) := by decide +kernel
theorem dX10_permutationRank_25 : decode cX10_permutationRank 25 = .ok (.iload_n 3, 1) := by decide +kernel
theorem dX10_permutationRank_26 : decode cX10_permutationRank 26 = .ok (.invokevirtual 148, 3) := by decide +kernel
theorem dX10_permutationRank_29 : decode cX10_permutationRank 29 = .ok (.istore 4, 2) := by decide +kernel
theorem dX10_permutationRank_31 : decode cX10_permutationRank 31 = .ok (.iload_n 3, 1) := by decide +kernel
theorem dX10_permutationRank_32 : decode cX10_permutationRank 32 = .ok (.iconst 1, 1) := by decide +kernel
theorem dX10_permutationRank_33 : decode cX10_permutationRank 33 = .ok (.iadd, 1) := by decide +kernel
theorem dX10_permutationRank_34 : decode cX10_permutationRank 34 = .ok (.i2l, 1) := by decide +kernel
theorem dX10_permutationRank_35 : decode cX10_permutationRank 35 = .ok (.lload_n 1, 1) := by decide +kernel
theorem dX10_permutationRank_36 : decode cX10_permutationRank 36 = .ok (.lmul, 1) := by decide +kernel
theorem dX10_permutationRank_37 : decode cX10_permutationRank 37 = .ok (.lload_n 1, 1) := by decide +kernel
theorem dX10_permutationRank_38 : decode cX10_permutationRank 38 = .ok (.ldc2_w 104, 3) := by decide +kernel
theorem dX10_permutationRank_41 : decode cX10_permutationRank 41 = .ok (.lrem, 1) := by decide +kernel
theorem dX10_permutationRank_42 : decode cX10_permutationRank 42 = .ok (.lconst 0, 1) := by decide +kernel
theorem dX10_permutationRank_43 : decode cX10_permutationRank 43 = .ok (.lcmp, 1) := by decide +kernel
theorem dX10_permutationRank_44 : decode cX10_permutationRank 44 = .ok (.ifCond .ne 10, 3) := by decide +kernel
theorem dX10_permutationRank_47 : decode cX10_permutationRank 47 = .ok (.iload_n 3, 1) := by decide +kernel
theorem dX10_permutationRank_48 : decode cX10_permutationRank 48 = .ok (.iload 4, 2) := by decide +kernel
theorem dX10_permutationRank_50 : decode cX10_permutationRank 50 = .ok (.isub, 1) := by decide +kernel
theorem dX10_permutationRank_51 : decode cX10_permutationRank 51 = .ok (.goto 5, 3) := by decide +kernel
theorem dX10_permutationRank_54 : decode cX10_permutationRank 54 = .ok (.iload 4, 2) := by decide +kernel
theorem dX10_permutationRank_56 : decode cX10_permutationRank 56 = .ok (.i2l, 1) := by decide +kernel
theorem dX10_permutationRank_57 : decode cX10_permutationRank 57 = .ok (.ladd, 1) := by decide +kernel
theorem dX10_permutationRank_58 : decode cX10_permutationRank 58 = .ok (.lstore_n 1, 1) := by decide +kernel
theorem dX10_permutationRank_59 : decode cX10_permutationRank 59 = .ok (.iinc 3 1, 3) := by decide +kernel
theorem dX10_permutationRank_62 : decode cX10_permutationRank 62 = .ok (.goto (-58), 3) := by decide +kernel
theorem dX10_permutationRank_65 : decode cX10_permutationRank 65 = .ok (.iconst 0, 1) := by decide +kernel
theorem dX10_permutationRank_66 : decode cX10_permutationRank 66 = .ok (.istore_n 3, 1) := by decide +kernel
theorem dX10_permutationRank_67 : decode cX10_permutationRank 67 = .ok (.iload_n 3, 1) := by decide +kernel
theorem dX10_permutationRank_68 : decode cX10_permutationRank 68 = .ok (.aload_n 0, 1) := by decide +kernel
theorem dX10_permutationRank_69 : decode cX10_permutationRank 69 = .ok (.getfield 25, 3) := by decide +kernel
theorem dX10_permutationRank_72 : decode cX10_permutationRank 72 = .ok (.iconst 0, 1) := by decide +kernel
theorem dX10_permutationRank_73 : decode cX10_permutationRank 73 = .ok (.iaload, 1) := by decide +kernel
theorem dX10_permutationRank_74 : decode cX10_permutationRank 74 = .ok (.if_icmp .ge 43, 3) := by decide +kernel
theorem dX10_permutationRank_77 : decode cX10_permutationRank 77 = .ok (.aload_n 0, 1) := by decide +kernel
theorem dX10_permutationRank_78 : decode cX10_permutationRank 78 = .ok (.getfield 25, 3) := by decide +kernel
theorem dX10_permutationRank_81 : decode cX10_permutationRank 81 = .ok (.iconst 1, 1) := by decide +kernel
theorem dX10_permutationRank_82 : decode cX10_permutationRank 82 = .ok (.iaload, 1) := by decide +kernel
theorem dX10_permutationRank_83 : decode cX10_permutationRank 83 = .ok (.ifCond .ne 34, 3) := by decide +kernel
theorem dX10_permutationRank_86 : decode cX10_permutationRank 86 = .ok (.lload_n 1, 1) := by decide +kernel
theorem dX10_permutationRank_87 : decode cX10_permutationRank 87 = .ok (.aload_n 0, 1) := by decide +kernel
theorem dX10_permutationRank_88 : decode cX10_permutationRank 88 = .ok (.iload_n 3, 1) := by decide +kernel
theorem dX10_permutationRank_89 : decode cX10_permutationRank 89 = .ok (.invokevirtual 151, 3) := by decide +kernel
theorem dX10_permutationRank_92 : decode cX10_permutationRank 92 = .ok (.i2l, 1) := by decide +kernel
theorem dX10_permutationRank_93 : decode cX10_permutationRank 93 = .ok (.aload_n 0, 1) := by decide +kernel
theorem dX10_permutationRank_94 : decode cX10_permutationRank 94 = .ok (.getfield 13, 3) := by decide +kernel
theorem dX10_permutationRank_97 : decode cX10_permutationRank 97 = .ok (.aload_n 0, 1) := by decide +kernel
theorem dX10_permutationRank_98 : decode cX10_permutationRank 98 = .ok (.getfield 25, 3) := by decide +kernel
theorem dX10_permutationRank_101 : decode cX10_permutationRank 101 = .ok (.iconst 0, 1) := by decide +kernel
theorem dX10_permutationRank_102 : decode cX10_permutationRank 102 = .ok (.iaload, 1) := by decide +kernel
theorem dX10_permutationRank_103 : decode cX10_permutationRank 103 = .ok (.iconst 1, 1) := by decide +kernel
theorem dX10_permutationRank_104 : decode cX10_permutationRank 104 = .ok (.isub, 1) := by decide +kernel
theorem dX10_permutationRank_105 : decode cX10_permutationRank 105 = .ok (.iload_n 3, 1) := by decide +kernel
theorem dX10_permutationRank_106 : decode cX10_permutationRank 106 = .ok (.isub, 1) := by decide +kernel
theorem dX10_permutationRank_107 : decode cX10_permutationRank 107 = .ok (.laload, 1) := by decide +kernel
theorem dX10_permutationRank_108 : decode cX10_permutationRank 108 = .ok (.lmul, 1) := by decide +kernel
theorem dX10_permutationRank_109 : decode cX10_permutationRank 109 = .ok (.ladd, 1) := by decide +kernel
theorem dX10_permutationRank_110 : decode cX10_permutationRank 110 = .ok (.lstore_n 1, 1) := by decide +kernel
theorem dX10_permutationRank_111 : decode cX10_permutationRank 111 = .ok (.iinc 3 1, 3) := by decide +kernel
theorem dX10_permutationRank_114 : decode cX10_permutationRank 114 = .ok (.goto (-47), 3) := by decide +kernel
theorem dX10_permutationRank_117 : decode cX10_permutationRank 117 = .ok (.lload_n 1, 1) := by decide +kernel
theorem dX10_permutationRank_118 : decode cX10_permutationRank 118 = .ok (.lreturn, 1) := by decide +kernel
theorem dX10_wordRank_0 : decode cX10_wordRank 0 = .ok (.lconst 0, 1) := by decide +kernel
theorem dX10_wordRank_1 : decode cX10_wordRank 1 = .ok (.lstore_n 1, 1) := by decide +kernel
theorem dX10_wordRank_2 : decode cX10_wordRank 2 = .ok (.iconst 0, 1) := by decide +kernel
theorem dX10_wordRank_3 : decode cX10_wordRank 3 = .ok (.istore_n 3, 1) := by decide +kernel
theorem dX10_wordRank_4 : decode cX10_wordRank 4 = .ok (.iconst 0, 1) := by decide +kernel
theorem dX10_wordRank_5 : decode cX10_wordRank 5 = .ok (.istore 4, 2) := by decide +kernel
theorem dX10_wordRank_7 : decode cX10_wordRank 7 = .ok (.iload 4, 2) := by decide +kernel
theorem dX10_wordRank_9 : decode cX10_wordRank 9 = .ok (.iconst 2, 1) := by decide +kernel
theorem dX10_wordRank_10 : decode cX10_wordRank 10 = .ok (.aload_n 0, 1) := by decide +kernel
theorem dX10_wordRank_11 : decode cX10_wordRank 11 = .ok (.getfield 25, 3) := by decide +kernel
theorem dX10_wordRank_14 : decode cX10_wordRank 14 = .ok (.iconst 0, 1) := by decide +kernel
theorem dX10_wordRank_15 : decode cX10_wordRank 15 = .ok (.iaload, 1) := by decide +kernel
theorem dX10_wordRank_16 : decode cX10_wordRank 16 = .ok (.imul, 1) := by decide +kernel
theorem dX10_wordRank_17 : decode cX10_wordRank 17 = .ok (.if_icmp .ge 165, 3) := by decide +kernel
theorem dX10_wordRank_20 : decode cX10_wordRank 20 = .ok (.iconst 2, 1) := by decide +kernel
theorem dX10_wordRank_21 : decode cX10_wordRank 21 = .ok (.aload_n 0, 1) := by decide +kernel
theorem dX10_wordRank_22 : decode cX10_wordRank 22 = .ok (.getfield 25, 3) := by decide +kernel
theorem dX10_wordRank_25 : decode cX10_wordRank 25 = .ok (.iconst 0, 1) := by decide +kernel
theorem dX10_wordRank_26 : decode cX10_wordRank 26 = .ok (.iaload, 1) := by decide +kernel
theorem dX10_wordRank_27 : decode cX10_wordRank 27 = .ok (.imul, 1) := by decide +kernel
theorem dX10_wordRank_28 : decode cX10_wordRank 28 = .ok (.iconst 1, 1) := by decide +kernel
theorem dX10_wordRank_29 : decode cX10_wordRank 29 = .ok (.isub, 1) := by decide +kernel
theorem dX10_wordRank_30 : decode cX10_wordRank 30 = .ok (.iload 4, 2) := by decide +kernel
theorem dX10_wordRank_32 : decode cX10_wordRank 32 = .ok (.isub, 1) := by decide +kernel
theorem dX10_wordRank_33 : decode cX10_wordRank 33 = .ok (.istore 5, 2) := by decide +kernel
theorem dX10_wordRank_35 : decode cX10_wordRank 35 = .ok (.iconst 0, 1) := by decide +kernel
theorem dX10_wordRank_36 : decode cX10_wordRank 36 = .ok (.istore 6, 2) := by decide +kernel
theorem dX10_wordRank_38 : decode cX10_wordRank 38 = .ok (.iload 6, 2) := by decide +kernel
theorem dX10_wordRank_40 : decode cX10_wordRank 40 = .ok (.aload_n 0, 1) := by decide +kernel
theorem dX10_wordRank_41 : decode cX10_wordRank 41 = .ok (.getfield 29, 3) := by decide +kernel
theorem dX10_wordRank_44 : decode cX10_wordRank 44 = .ok (.iload 4, 2) := by decide +kernel
theorem dX10_wordRank_46 : decode cX10_wordRank 46 = .ok (.iaload, 1) := by decide +kernel
theorem dX10_wordRank_47 : decode cX10_wordRank 47 = .ok (.if_icmp .ge 95, 3) := by decide +kernel
theorem dX10_wordRank_50 : decode cX10_wordRank 50 = .ok (.iload 6, 2) := by decide +kernel
theorem dX10_wordRank_52 : decode cX10_wordRank 52 = .ok (.iconst 2, 1) := by decide +kernel
theorem dX10_wordRank_53 : decode cX10_wordRank 53 = .ok (.irem, 1) := by decide +kernel
theorem dX10_wordRank_54 : decode cX10_wordRank 54 = .ok (.iconst 1, 1) := by decide +kernel
theorem dX10_wordRank_55 : decode cX10_wordRank 55 = .ok (.if_icmp .ne 26, 3) := by decide +kernel
theorem dX10_wordRank_58 : decode cX10_wordRank 58 = .ok (.iload_n 3, 1) := by decide +kernel
theorem dX10_wordRank_59 : decode cX10_wordRank 59 = .ok (.ifCond .le 22, 3) := by decide +kernel
theorem dX10_wordRank_62 : decode cX10_wordRank 62 = .ok (.aload_n 0, 1) := by decide +kernel
theorem dX10_wordRank_63 : decode cX10_wordRank 63 = .ok (.getfield 35, 3) := by decide +kernel
theorem dX10_wordRank_66 : decode cX10_wordRank 66 = .ok (.iload_n 3, 1) := by decide +kernel
theorem dX10_wordRank_67 : decode cX10_wordRank 67 = .ok (.iconst 1, 1) := by decide +kernel
theorem dX10_wordRank_68 : decode cX10_wordRank 68 = .ok (.isub, 1) := by decide +kernel
theorem dX10_wordRank_69 : decode cX10_wordRank 69 = .ok (.iaload, 1) := by decide +kernel
theorem dX10_wordRank_70 : decode cX10_wordRank 70 = .ok (.iload 6, 2) := by decide +kernel
theorem dX10_wordRank_72 : decode cX10_wordRank 72 = .ok (.iconst 1, 1) := by decide +kernel
theorem dX10_wordRank_73 : decode cX10_wordRank 73 = .ok (.isub, 1) := by decide +kernel
theorem dX10_wordRank_74 : decode cX10_wordRank 74 = .ok (.if_icmp .ne 7, 3) := by decide +kernel
theorem dX10_wordRank_77 : decode cX10_wordRank 77 = .ok (.iconst 1, 1) := by decide +kernel
theorem dX10_wordRank_78 : decode cX10_wordRank 78 = .ok (.goto 4, 3) := by decide +kernel
theorem dX10_wordRank_81 : decode cX10_wordRank 81 = .ok (.iconst 0, 1) := by decide +kernel
theorem dX10_wordRank_82 : decode cX10_wordRank 82 = .ok (.istore 7, 2) := by decide +kernel
theorem dX10_wordRank_84 : decode cX10_wordRank 84 = .ok (.lload_n 1, 1) := by decide +kernel
theorem dX10_wordRank_85 : decode cX10_wordRank 85 = .ok (.iload 6, 2) := by decide +kernel
theorem dX10_wordRank_87 : decode cX10_wordRank 87 = .ok (.iconst 2, 1) := by decide +kernel
theorem dX10_wordRank_88 : decode cX10_wordRank 88 = .ok (.irem, 1) := by decide +kernel
theorem dX10_wordRank_89 : decode cX10_wordRank 89 = .ok (.ifCond .ne 21, 3) := by decide +kernel
theorem dX10_wordRank_92 : decode cX10_wordRank 92 = .ok (.aload_n 0, 1) := by decide +kernel
theorem dX10_wordRank_93 : decode cX10_wordRank 93 = .ok (.iload 5, 2) := by decide +kernel
theorem dX10_wordRank_95 : decode cX10_wordRank 95 = .ok (.iload_n 3, 1) := by decide +kernel
theorem dX10_wordRank_96 : decode cX10_wordRank 96 = .ok (.iconst 1, 1) := by decide +kernel
theorem dX10_wordRank_97 : decode cX10_wordRank 97 = .ok (.iadd, 1) := by decide +kernel
theorem dX10_wordRank_98 : decode cX10_wordRank 98 = .ok (.aload_n 0, 1) := by decide +kernel
theorem dX10_wordRank_99 : decode cX10_wordRank 99 = .ok (.getfield 25, 3) := by decide +kernel
theorem dX10_wordRank_102 : decode cX10_wordRank 102 = .ok (.iconst 1, 1) := by decide +kernel
theorem dX10_wordRank_103 : decode cX10_wordRank 103 = .ok (.iaload, 1) := by decide +kernel
theorem dX10_wordRank_104 : decode cX10_wordRank 104 = .ok (.invokevirtual 66, 3) := by decide +kernel
theorem dX10_wordRank_107 : decode cX10_wordRank 107 = .ok (.goto 27, 3) := by decide +kernel
theorem dX10_wordRank_110 : decode cX10_wordRank 110 = .ok (.iload 7, 2) := by decide +kernel
theorem dX10_wordRank_112 : decode cX10_wordRank 112 = .ok (.ifCond .eq 21, 3) := by decide +kernel
theorem dX10_wordRank_115 : decode cX10_wordRank 115 = .ok (.aload_n 0, 1) := by decide +kernel
theorem dX10_wordRank_116 : decode cX10_wordRank 116 = .ok (.iload 5, 2) := by decide +kernel
theorem dX10_wordRank_118 : decode cX10_wordRank 118 = .ok (.iload_n 3, 1) := by decide +kernel
theorem dX10_wordRank_119 : decode cX10_wordRank 119 = .ok (.iconst 1, 1) := by decide +kernel
theorem dX10_wordRank_120 : decode cX10_wordRank 120 = .ok (.isub, 1) := by decide +kernel
theorem dX10_wordRank_121 : decode cX10_wordRank 121 = .ok (.aload_n 0, 1) := by decide +kernel
theorem dX10_wordRank_122 : decode cX10_wordRank 122 = .ok (.getfield 25, 3) := by decide +kernel
theorem dX10_wordRank_125 : decode cX10_wordRank 125 = .ok (.iconst 1, 1) := by decide +kernel
theorem dX10_wordRank_126 : decode cX10_wordRank 126 = .ok (.iaload, 1) := by decide +kernel
theorem dX10_wordRank_127 : decode cX10_wordRank 127 = .ok (.invokevirtual 66, 3) := by decide +kernel
theorem dX10_wordRank_130 : decode cX10_wordRank 130 = .ok (.goto 4, 3) := by decide +kernel
theorem dX10_wordRank_133 : decode cX10_wordRank 133 = .ok (.lconst 0, 1) := by decide +kernel
theorem dX10_wordRank_134 : decode cX10_wordRank 134 = .ok (.ladd, 1) := by decide +kernel
theorem dX10_wordRank_135 : decode cX10_wordRank 135 = .ok (.lstore_n 1, 1) := by decide +kernel
theorem dX10_wordRank_136 : decode cX10_wordRank 136 = .ok (.iinc 6 1, 3) := by decide +kernel
theorem dX10_wordRank_139 : decode cX10_wordRank 139 = .ok (.goto (-101), 3) := by decide +kernel
theorem dX10_wordRank_142 : decode cX10_wordRank 142 = .ok (.aload_n 0, 1) := by decide +kernel
theorem dX10_wordRank_143 : decode cX10_wordRank 143 = .ok (.getfield 29, 3) := by decide +kernel
theorem dX10_wordRank_146 : decode cX10_wordRank 146 = .ok (.iload 4, 2) := by decide +kernel
theorem dX10_wordRank_148 : decode cX10_wordRank 148 = .ok (.iaload, 1) := by decide +kernel
theorem dX10_wordRank_149 : decode cX10_wordRank 149 = .ok (.iconst 2, 1) := by decide +kernel
theorem dX10_wordRank_150 : decode cX10_wordRank 150 = .ok (.irem, 1) := by decide +kernel
theorem dX10_wordRank_151 : decode cX10_wordRank 151 = .ok (.ifCond .ne 22, 3) := by decide +kernel
theorem dX10_wordRank_154 : decode cX10_wordRank 154 = .ok (.aload_n 0, 1) := by decide +kernel
theorem dX10_wordRank_155 : decode cX10_wordRank 155 = .ok (.getfield 35, 3) := by decide +kernel
theorem dX10_wordRank_158 : decode cX10_wordRank 158 = .ok (.iload_n 3, 1) := by decide +kernel
theorem dX10_wordRank_159 : decode cX10_wordRank 159 = .ok (.aload_n 0, 1) := by decide +kernel
theorem dX10_wordRank_160 : decode cX10_wordRank 160 = .ok (.getfield 29, 3) := by decide +kernel
theorem dX10_wordRank_163 : decode cX10_wordRank 163 = .ok (.iload 4, 2) := by decide +kernel
theorem dX10_wordRank_165 : decode cX10_wordRank 165 = .ok (.iaload, 1) := by decide +kernel
theorem dX10_wordRank_166 : decode cX10_wordRank 166 = .ok (.iastore, 1) := by decide +kernel
theorem dX10_wordRank_167 : decode cX10_wordRank 167 = .ok (.iinc 3 1, 3) := by decide +kernel
theorem dX10_wordRank_170 : decode cX10_wordRank 170 = .ok (.goto 6, 3) := by decide +kernel
theorem dX10_wordRank_173 : decode cX10_wordRank 173 = .ok (.iinc 3 (-1), 3) := by decide +kernel
theorem dX10_wordRank_176 : decode cX10_wordRank 176 = .ok (.iinc 4 1, 3) := by decide +kernel
theorem dX10_wordRank_179 : decode cX10_wordRank 179 = .ok (.goto (-172), 3) := by decide +kernel
theorem dX10_wordRank_182 : decode cX10_wordRank 182 = .ok (.lload_n 1, 1) := by decide +kernel
theorem dX10_wordRank_183 : decode cX10_wordRank 183 = .ok (.lreturn, 1) := by decide +kernel
theorem dX10_treeRank_0 : decode cX10_treeRank 0 = .ok (.lconst 0, 1) := by decide +kernel
theorem dX10_treeRank_1 : decode cX10_treeRank 1 = .ok (.lstore_n 1, 1) := by decide +kernel
theorem dX10_treeRank_2 : decode cX10_treeRank 2 = .ok (.iconst 1, 1) := by decide +kernel
theorem dX10_treeRank_3 : decode cX10_treeRank 3 = .ok (.istore_n 3, 1) := by decide +kernel
theorem dX10_treeRank_4 : decode cX10_treeRank 4 = .ok (.aload_n 0, 1) := by decide +kernel
theorem dX10_treeRank_5 : decode cX10_treeRank 5 = .ok (.getfield 35, 3) := by decide +kernel
theorem dX10_treeRank_8 : decode cX10_treeRank 8 = .ok (.iconst 0, 1) := by decide +kernel
theorem dX10_treeRank_9 : decode cX10_treeRank 9 = .ok (.aload_n 0, 1) := by decide +kernel
theorem dX10_treeRank_10 : decode cX10_treeRank 10 = .ok (.getfield 25, 3) := by decide +kernel
theorem dX10_treeRank_13 : decode cX10_treeRank 13 = .ok (.iconst 0, 1) := by decide +kernel
theorem dX10_treeRank_14 : decode cX10_treeRank 14 = .ok (.iaload, 1) := by decide +kernel
theorem dX10_treeRank_15 : decode cX10_treeRank 15 = .ok (.iastore, 1) := by decide +kernel
theorem dX10_treeRank_16 : decode cX10_treeRank 16 = .ok (.aload_n 0, 1) := by decide +kernel
theorem dX10_treeRank_17 : decode cX10_treeRank 17 = .ok (.getfield 41, 3) := by decide +kernel
theorem dX10_treeRank_20 : decode cX10_treeRank 20 = .ok (.iconst 0, 1) := by decide +kernel
theorem dX10_treeRank_21 : decode cX10_treeRank 21 = .ok (.lconst 1, 1) := by decide +kernel
theorem dX10_treeRank_22 : decode cX10_treeRank 22 = .ok (.lastore, 1) := by decide +kernel
theorem dX10_treeRank_23 : decode cX10_treeRank 23 = .ok (.iconst 0, 1) := by decide +kernel
theorem dX10_treeRank_24 : decode cX10_treeRank 24 = .ok (.istore 4, 2) := by decide +kernel
theorem dX10_treeRank_26 : decode cX10_treeRank 26 = .ok (.iload 4, 2) := by decide +kernel
theorem dX10_treeRank_28 : decode cX10_treeRank 28 = .ok (.aload_n 0, 1) := by decide +kernel
theorem dX10_treeRank_29 : decode cX10_treeRank 29 = .ok (.getfield 25, 3) := by decide +kernel
theorem dX10_treeRank_32 : decode cX10_treeRank 32 = .ok (.iconst 0, 1) := by decide +kernel
theorem dX10_treeRank_33 : decode cX10_treeRank 33 = .ok (.iaload, 1) := by decide +kernel
theorem dX10_treeRank_34 : decode cX10_treeRank 34 = .ok (.if_icmp .ge 142, 3) := by decide +kernel
theorem dX10_treeRank_37 : decode cX10_treeRank 37 = .ok (.iinc 3 (-1), 3) := by decide +kernel
theorem dX10_treeRank_40 : decode cX10_treeRank 40 = .ok (.aload_n 0, 1) := by decide +kernel
theorem dX10_treeRank_41 : decode cX10_treeRank 41 = .ok (.getfield 35, 3) := by decide +kernel
theorem dX10_treeRank_44 : decode cX10_treeRank 44 = .ok (.iload_n 3, 1) := by decide +kernel
theorem dX10_treeRank_45 : decode cX10_treeRank 45 = .ok (.iaload, 1) := by decide +kernel
theorem dX10_treeRank_46 : decode cX10_treeRank 46 = .ok (.istore 5, 2) := by decide +kernel
theorem dX10_treeRank_48 : decode cX10_treeRank 48 = .ok (.aload_n 0, 1) := by decide +kernel
theorem dX10_treeRank_49 : decode cX10_treeRank 49 = .ok (.getfield 41, 3) := by decide +kernel
theorem dX10_treeRank_52 : decode cX10_treeRank 52 = .ok (.iload_n 3, 1) := by decide +kernel
theorem dX10_treeRank_53 : decode cX10_treeRank 53 = .ok (.laload, 1) := by decide +kernel
theorem dX10_treeRank_54 : decode cX10_treeRank 54 = .ok (.lstore 6, 2) := by decide +kernel
theorem dX10_treeRank_56 : decode cX10_treeRank 56 = .ok (.aload_n 0, 1) := by decide +kernel
theorem dX10_treeRank_57 : decode cX10_treeRank 57 = .ok (.getfield 29, 3) := by decide +kernel
theorem dX10_treeRank_60 : decode cX10_treeRank 60 = .ok (.iload 4, 2) := by decide +kernel
theorem dX10_treeRank_62 : decode cX10_treeRank 62 = .ok (.iaload, 1) := by decide +kernel
theorem dX10_treeRank_63 : decode cX10_treeRank 63 = .ok (.istore 8, 2) := by decide +kernel
theorem dX10_treeRank_65 : decode cX10_treeRank 65 = .ok (.iconst 0, 1) := by decide +kernel
theorem dX10_treeRank_66 : decode cX10_treeRank 66 = .ok (.istore 9, 2) := by decide +kernel
theorem dX10_treeRank_68 : decode cX10_treeRank 68 = .ok (.iload 9, 2) := by decide +kernel
theorem dX10_treeRank_70 : decode cX10_treeRank 70 = .ok (.iload 8, 2) := by decide +kernel
theorem dX10_treeRank_72 : decode cX10_treeRank 72 = .ok (.if_icmp .ge 35, 3) := by decide +kernel
theorem dX10_treeRank_75 : decode cX10_treeRank 75 = .ok (.lload_n 1, 1) := by decide +kernel
theorem dX10_treeRank_76 : decode cX10_treeRank 76 = .ok (.lload 6, 2) := by decide +kernel
theorem dX10_treeRank_78 : decode cX10_treeRank 78 = .ok (.aload_n 0, 1) := by decide +kernel
theorem dX10_treeRank_79 : decode cX10_treeRank 79 = .ok (.getfield 16, 3) := by decide +kernel
theorem dX10_treeRank_82 : decode cX10_treeRank 82 = .ok (.iload 9, 2) := by decide +kernel
theorem dX10_treeRank_84 : decode cX10_treeRank 84 = .ok (.laload, 1) := by decide +kernel
theorem dX10_treeRank_85 : decode cX10_treeRank 85 = .ok (.lmul, 1) := by decide +kernel
theorem dX10_treeRank_86 : decode cX10_treeRank 86 = .ok (.aload_n 0, 1) := by decide +kernel
theorem dX10_treeRank_87 : decode cX10_treeRank 87 = .ok (.getfield 16, 3) := by decide +kernel
theorem dX10_treeRank_90 : decode cX10_treeRank 90 = .ok (.iload 5, 2) := by decide +kernel
theorem dX10_treeRank_92 : decode cX10_treeRank 92 = .ok (.iconst 1, 1) := by decide +kernel
theorem dX10_treeRank_93 : decode cX10_treeRank 93 = .ok (.isub, 1) := by decide +kernel
theorem dX10_treeRank_94 : decode cX10_treeRank 94 = .ok (.iload 9, 2) := by decide +kernel
theorem dX10_treeRank_96 : decode cX10_treeRank 96 = .ok (.isub, 1) := by decide +kernel
theorem dX10_treeRank_97 : decode cX10_treeRank 97 = .ok (.laload, 1) := by decide +kernel
theorem dX10_treeRank_98 : decode cX10_treeRank 98 = .ok (.lmul, 1) := by decide +kernel
theorem dX10_treeRank_99 : decode cX10_treeRank 99 = .ok (.ladd, 1) := by decide +kernel
theorem dX10_treeRank_100 : decode cX10_treeRank 100 = .ok (.lstore_n 1, 1) := by decide +kernel
theorem dX10_treeRank_101 : decode cX10_treeRank 101 = .ok (.iinc 9 1, 3) := by decide +kernel
theorem dX10_treeRank_104 : decode cX10_treeRank 104 = .ok (.goto (-36), 3) := by decide +kernel
theorem dX10_treeRank_107 : decode cX10_treeRank 107 = .ok (.iload 5, 2) := by decide +kernel
theorem dX10_treeRank_109 : decode cX10_treeRank 109 = .ok (.iconst 1, 1) := by decide +kernel
theorem dX10_treeRank_110 : decode cX10_treeRank 110 = .ok (.isub, 1) := by decide +kernel
theorem dX10_treeRank_111 : decode cX10_treeRank 111 = .ok (.iload 8, 2) := by decide +kernel
theorem dX10_treeRank_113 : decode cX10_treeRank 113 = .ok (.isub, 1) := by decide +kernel
theorem dX10_treeRank_114 : decode cX10_treeRank 114 = .ok (.ifCond .le 19, 3) := by decide +kernel
theorem dX10_treeRank_117 : decode cX10_treeRank 117 = .ok (.aload_n 0, 1) := by decide +kernel
theorem dX10_treeRank_118 : decode cX10_treeRank 118 = .ok (.getfield 35, 3) := by decide +kernel
theorem dX10_treeRank_121 : decode cX10_treeRank 121 = .ok (.iload_n 3, 1) := by decide +kernel
theorem dX10_treeRank_122 : decode cX10_treeRank 122 = .ok (.iload 5, 2) := by decide +kernel
theorem dX10_treeRank_124 : decode cX10_treeRank 124 = .ok (.iconst 1, 1) := by decide +kernel
theorem dX10_treeRank_125 : decode cX10_treeRank 125 = .ok (.isub, 1) := by decide +kernel
theorem dX10_treeRank_126 : decode cX10_treeRank 126 = .ok (.iload 8, 2) := by decide +kernel
theorem dX10_treeRank_128 : decode cX10_treeRank 128 = .ok (.isub, 1) := by decide +kernel
theorem dX10_treeRank_129 : decode cX10_treeRank 129 = .ok (.iastore, 1) := by decide +kernel
theorem dX10_treeRank_130 : decode cX10_treeRank 130 = .ok (.iinc 3 1, 3) := by decide +kernel
theorem dX10_treeRank_133 : decode cX10_treeRank 133 = .ok (.iload 8, 2) := by decide +kernel
theorem dX10_treeRank_135 : decode cX10_treeRank 135 = .ok (.ifCond .le 35, 3) := by decide +kernel
theorem dX10_treeRank_138 : decode cX10_treeRank 138 = .ok (.aload_n 0, 1) := by decide +kernel
theorem dX10_treeRank_139 : decode cX10_treeRank 139 = .ok (.getfield 35, 3) := by decide +kernel
theorem dX10_treeRank_142 : decode cX10_treeRank 142 = .ok (.iload_n 3, 1) := by decide +kernel
theorem dX10_treeRank_143 : decode cX10_treeRank 143 = .ok (.iload 8, 2) := by decide +kernel
theorem dX10_treeRank_145 : decode cX10_treeRank 145 = .ok (.iastore, 1) := by decide +kernel
theorem dX10_treeRank_146 : decode cX10_treeRank 146 = .ok (.aload_n 0, 1) := by decide +kernel
theorem dX10_treeRank_147 : decode cX10_treeRank 147 = .ok (.getfield 41, 3) := by decide +kernel
theorem dX10_treeRank_150 : decode cX10_treeRank 150 = .ok (.iload_n 3, 1) := by decide +kernel
theorem dX10_treeRank_151 : decode cX10_treeRank 151 = .ok (.lload 6, 2) := by decide +kernel
theorem dX10_treeRank_153 : decode cX10_treeRank 153 = .ok (.aload_n 0, 1) := by decide +kernel
theorem dX10_treeRank_154 : decode cX10_treeRank 154 = .ok (.getfield 16, 3) := by decide +kernel
theorem dX10_treeRank_157 : decode cX10_treeRank 157 = .ok (.iload 5, 2) := by decide +kernel
theorem dX10_treeRank_159 : decode cX10_treeRank 159 = .ok (.iconst 1, 1) := by decide +kernel
theorem dX10_treeRank_160 : decode cX10_treeRank 160 = .ok (.isub, 1) := by decide +kernel
theorem dX10_treeRank_161 : decode cX10_treeRank 161 = .ok (.iload 8, 2) := by decide +kernel
theorem dX10_treeRank_163 : decode cX10_treeRank 163 = .ok (.isub, 1) := by decide +kernel
theorem dX10_treeRank_164 : decode cX10_treeRank 164 = .ok (.laload, 1) := by decide +kernel
theorem dX10_treeRank_165 : decode cX10_treeRank 165 = .ok (.lmul, 1) := by decide +kernel
theorem dX10_treeRank_166 : decode cX10_treeRank 166 = .ok (.lastore, 1) := by decide +kernel
theorem dX10_treeRank_167 : decode cX10_treeRank 167 = .ok (.iinc 3 1, 3) := by decide +kernel
theorem dX10_treeRank_170 : decode cX10_treeRank 170 = .ok (.iinc 4 1, 3) := by decide +kernel
theorem dX10_treeRank_173 : decode cX10_treeRank 173 = .ok (.goto (-147), 3) := by decide +kernel
theorem dX10_treeRank_176 : decode cX10_treeRank 176 = .ok (.lload_n 1, 1) := by decide +kernel
theorem dX10_treeRank_177 : decode cX10_treeRank 177 = .ok (.lreturn, 1) := by decide +kernel
theorem dX10_partitionRank_0 : decode cX10_partitionRank 0 = .ok (.lconst 0, 1) := by decide +kernel
theorem dX10_partitionRank_1 : decode cX10_partitionRank 1 = .ok (.lstore_n 1, 1) := by decide +kernel
theorem dX10_partitionRank_2 : decode cX10_partitionRank 2 = .ok (.aload_n 0, 1) := by decide +kernel
theorem dX10_partitionRank_3 : decode cX10_partitionRank 3 = .ok (.getfield 25, 3) := by decide +kernel
theorem dX10_partitionRank_6 : decode cX10_partitionRank 6 = .ok (.iconst 0, 1) := by decide +kernel
theorem dX10_partitionRank_7 : decode cX10_partitionRank 7 = .ok (.iaload, 1) := by decide +kernel
theorem dX10_partitionRank_8 : decode cX10_partitionRank 8 = .ok (.istore_n 3, 1) := by decide +kernel
theorem dX10_partitionRank_9 : decode cX10_partitionRank 9 = .ok (.iconst 0, 1) := by decide +kernel
theorem dX10_partitionRank_10 : decode cX10_partitionRank 10 = .ok (.istore 4, 2) := by decide +kernel
theorem dX10_partitionRank_12 : decode cX10_partitionRank 12 = .ok (.iload 4, 2) := by decide +kernel
theorem dX10_partitionRank_14 : decode cX10_partitionRank 14 = .ok (.aload_n 0, 1) := by decide +kernel
theorem dX10_partitionRank_15 : decode cX10_partitionRank 15 = .ok (.getfield 25, 3) := by decide +kernel
theorem dX10_partitionRank_18 : decode cX10_partitionRank 18 = .ok (.iconst 0, 1) := by decide +kernel
theorem dX10_partitionRank_19 : decode cX10_partitionRank 19 = .ok (.iaload, 1) := by decide +kernel
theorem dX10_partitionRank_20 : decode cX10_partitionRank 20 = .ok (.if_icmp .ge 58, 3) := by decide +kernel
theorem dX10_partitionRank_23 : decode cX10_partitionRank 23 = .ok (.iconst 0, 1) := by decide +kernel
theorem dX10_partitionRank_24 : decode cX10_partitionRank 24 = .ok (.istore 5, 2) := by decide +kernel
theorem dX10_partitionRank_26 : decode cX10_partitionRank 26 = .ok (.iload 5, 2) := by decide +kernel
theorem dX10_partitionRank_28 : decode cX10_partitionRank 28 = .ok (.aload_n 0, 1) := by decide +kernel
theorem dX10_partitionRank_29 : decode cX10_partitionRank 29 = .ok (.getfield 29, 3) := by decide +kernel
theorem dX10_partitionRank_32 : decode cX10_partitionRank 32 = .ok (.iload 4, 2) := by decide +kernel
theorem dX10_partitionRank_34 : decode cX10_partitionRank 34 = .ok (.iaload, 1) := by decide +kernel
theorem dX10_partitionRank_35 : decode cX10_partitionRank 35 = .ok (.if_icmp .ge 27, 3) := by decide +kernel
theorem dX10_partitionRank_38 : decode cX10_partitionRank 38 = .ok (.lload_n 1, 1) := by decide +kernel
theorem dX10_partitionRank_39 : decode cX10_partitionRank 39 = .ok (.aload_n 0, 1) := by decide +kernel
theorem dX10_partitionRank_40 : decode cX10_partitionRank 40 = .ok (.getfield 19, 3) := by decide +kernel
theorem dX10_partitionRank_43 : decode cX10_partitionRank 43 = .ok (.bipush 61, 2) := by decide +kernel
theorem dX10_partitionRank_45 : decode cX10_partitionRank 45 = .ok (.iload 5, 2) := by decide +kernel
theorem dX10_partitionRank_47 : decode cX10_partitionRank 47 = .ok (.imul, 1) := by decide +kernel
theorem dX10_partitionRank_48 : decode cX10_partitionRank 48 = .ok (.iload_n 3, 1) := by decide +kernel
theorem dX10_partitionRank_49 : decode cX10_partitionRank 49 = .ok (.iadd, 1) := by decide +kernel
theorem dX10_partitionRank_50 : decode cX10_partitionRank 50 = .ok (.iload 5, 2) := by decide +kernel
theorem dX10_partitionRank_52 : decode cX10_partitionRank 52 = .ok (.isub, 1) := by decide +kernel
theorem dX10_partitionRank_53 : decode cX10_partitionRank 53 = .ok (.laload, 1) := by decide +kernel
theorem dX10_partitionRank_54 : decode cX10_partitionRank 54 = .ok (.ladd, 1) := by decide +kernel
theorem dX10_partitionRank_55 : decode cX10_partitionRank 55 = .ok (.lstore_n 1, 1) := by decide +kernel
theorem dX10_partitionRank_56 : decode cX10_partitionRank 56 = .ok (.iinc 5 1, 3) := by decide +kernel
theorem dX10_partitionRank_59 : decode cX10_partitionRank 59 = .ok (.goto (-33), 3) := by decide +kernel
theorem dX10_partitionRank_62 : decode cX10_partitionRank 62 = .ok (.iload_n 3, 1) := by decide +kernel
theorem dX10_partitionRank_63 : decode cX10_partitionRank 63 = .ok (.aload_n 0, 1) := by decide +kernel
theorem dX10_partitionRank_64 : decode cX10_partitionRank 64 = .ok (.getfield 29, 3) := by decide +kernel
theorem dX10_partitionRank_67 : decode cX10_partitionRank 67 = .ok (.iload 4, 2) := by decide +kernel
theorem dX10_partitionRank_69 : decode cX10_partitionRank 69 = .ok (.iaload, 1) := by decide +kernel
theorem dX10_partitionRank_70 : decode cX10_partitionRank 70 = .ok (.isub, 1) := by decide +kernel
theorem dX10_partitionRank_71 : decode cX10_partitionRank 71 = .ok (.istore_n 3, 1) := by decide +kernel
theorem dX10_partitionRank_72 : decode cX10_partitionRank 72 = .ok (.iinc 4 1, 3) := by decide +kernel
theorem dX10_partitionRank_75 : decode cX10_partitionRank 75 = .ok (.goto (-63), 3) := by decide +kernel
theorem dX10_partitionRank_78 : decode cX10_partitionRank 78 = .ok (.lload_n 1, 1) := by decide +kernel
theorem dX10_partitionRank_79 : decode cX10_partitionRank 79 = .ok (.lreturn, 1) := by decide +kernel
theorem dX10_waysWithout_0 : decode cX10_waysWithout 0 = .ok (.aload_n 0, 1) := by decide +kernel
theorem dX10_waysWithout_1 : decode cX10_waysWithout 1 = .ok (.getfield 44, 3) := by decide +kernel
theorem dX10_waysWithout_4 : decode cX10_waysWithout 4 = .ok (.iload_n 1, 1) := by decide +kernel
theorem dX10_waysWithout_5 : decode cX10_waysWithout 5 = .ok (.iaload, 1) := by decide +kernel
theorem dX10_waysWithout_6 : decode cX10_waysWithout 6 = .ok (.ifCond .ne 5, 3) := by decide +kernel
theorem dX10_waysWithout_9 : decode cX10_waysWithout 9 = .ok (.lconst 0, 1) := by decide +kernel
theorem dX10_waysWithout_10 : decode cX10_waysWithout 10 = .ok (.lreturn, 1) := by decide +kernel
theorem dX10_waysWithout_11 : decode cX10_waysWithout 11 = .ok (.aload_n 0, 1) := by decide +kernel
theorem dX10_waysWithout_12 : decode cX10_waysWithout 12 = .ok (.getfield 44, 3) := by decide +kernel
theorem dX10_waysWithout_15 : decode cX10_waysWithout 15 = .ok (.iload_n 1, 1) := by decide +kernel
theorem dX10_waysWithout_16 : decode cX10_waysWithout 16 = .ok (.dup2, 1) := by decide +kernel
theorem dX10_waysWithout_17 : decode cX10_waysWithout 17 = .ok (.iaload, 1) := by decide +kernel
theorem dX10_waysWithout_18 : decode cX10_waysWithout 18 = .ok (.iconst 1, 1) := by decide +kernel
theorem dX10_waysWithout_19 : decode cX10_waysWithout 19 = .ok (.isub, 1) := by decide +kernel
theorem dX10_waysWithout_20 : decode cX10_waysWithout 20 = .ok (.iastore, 1) := by decide +kernel
theorem dX10_waysWithout_21 : decode cX10_waysWithout 21 = .ok (.aload_n 0, 1) := by decide +kernel
theorem dX10_waysWithout_22 : decode cX10_waysWithout 22 = .ok (.aload_n 0, 1) := by decide +kernel
theorem dX10_waysWithout_23 : decode cX10_waysWithout 23 = .ok (.getfield 44, 3) := by decide +kernel
theorem dX10_waysWithout_26 : decode cX10_waysWithout 26 = .ok (.iconst 0, 1) := by decide +kernel
theorem dX10_waysWithout_27 : decode cX10_waysWithout 27 = .ok (.iaload, 1) := by decide +kernel
theorem dX10_waysWithout_28 : decode cX10_waysWithout 28 = .ok (.aload_n 0, 1) := by decide +kernel
theorem dX10_waysWithout_29 : decode cX10_waysWithout 29 = .ok (.getfield 44, 3) := by decide +kernel
theorem dX10_waysWithout_32 : decode cX10_waysWithout 32 = .ok (.iconst 1, 1) := by decide +kernel
theorem dX10_waysWithout_33 : decode cX10_waysWithout 33 = .ok (.iaload, 1) := by decide +kernel
theorem dX10_waysWithout_34 : decode cX10_waysWithout 34 = .ok (.aload_n 0, 1) := by decide +kernel
theorem dX10_waysWithout_35 : decode cX10_waysWithout 35 = .ok (.getfield 44, 3) := by decide +kernel
theorem dX10_waysWithout_38 : decode cX10_waysWithout 38 = .ok (.iconst 2, 1) := by decide +kernel
theorem dX10_waysWithout_39 : decode cX10_waysWithout 39 = .ok (.iaload, 1) := by decide +kernel
theorem dX10_waysWithout_40 : decode cX10_waysWithout 40 = .ok (.aload_n 0, 1) := by decide +kernel
theorem dX10_waysWithout_41 : decode cX10_waysWithout 41 = .ok (.getfield 44, 3) := by decide +kernel
theorem dX10_waysWithout_44 : decode cX10_waysWithout 44 = .ok (.iconst 3, 1) := by decide +kernel
theorem dX10_waysWithout_45 : decode cX10_waysWithout 45 = .ok (.iaload, 1) := by decide +kernel
theorem dX10_waysWithout_46 : decode cX10_waysWithout 46 = .ok (.invokevirtual 70, 3) := by decide +kernel
theorem dX10_waysWithout_49 : decode cX10_waysWithout 49 = .ok (.lstore_n 2, 1) := by decide +kernel
theorem dX10_waysWithout_50 : decode cX10_waysWithout 50 = .ok (.aload_n 0, 1) := by decide +kernel
theorem dX10_waysWithout_51 : decode cX10_waysWithout 51 = .ok (.getfield 44, 3) := by decide +kernel
theorem dX10_waysWithout_54 : decode cX10_waysWithout 54 = .ok (.iload_n 1, 1) := by decide +kernel
theorem dX10_waysWithout_55 : decode cX10_waysWithout 55 = .ok (.dup2, 1) := by decide +kernel
theorem dX10_waysWithout_56 : decode cX10_waysWithout 56 = .ok (.iaload, 1) := by decide +kernel
theorem dX10_waysWithout_57 : decode cX10_waysWithout 57 = .ok (.iconst 1, 1) := by decide +kernel
theorem dX10_waysWithout_58 : decode cX10_waysWithout 58 = .ok (.iadd, 1) := by decide +kernel
theorem dX10_waysWithout_59 : decode cX10_waysWithout 59 = .ok (.iastore, 1) := by decide +kernel
theorem dX10_waysWithout_60 : decode cX10_waysWithout 60 = .ok (.lload_n 2, 1) := by decide +kernel
theorem dX10_waysWithout_61 : decode cX10_waysWithout 61 = .ok (.lreturn, 1) := by decide +kernel
theorem dX10_leaveAll_0 : decode cX10_leaveAll 0 = .ok (.iconst 0, 1) := by decide +kernel
theorem dX10_leaveAll_1 : decode cX10_leaveAll 1 = .ok (.istore_n 1, 1) := by decide +kernel
theorem dX10_leaveAll_2 : decode cX10_leaveAll 2 = .ok (.iload_n 1, 1) := by decide +kernel
theorem dX10_leaveAll_3 : decode cX10_leaveAll 3 = .ok (.iconst 4, 1) := by decide +kernel
theorem dX10_leaveAll_4 : decode cX10_leaveAll 4 = .ok (.if_icmp .ge 21, 3) := by decide +kernel
theorem dX10_leaveAll_7 : decode cX10_leaveAll 7 = .ok (.aload_n 0, 1) := by decide +kernel
theorem dX10_leaveAll_8 : decode cX10_leaveAll 8 = .ok (.getfield 44, 3) := by decide +kernel
theorem dX10_leaveAll_11 : decode cX10_leaveAll 11 = .ok (.iload_n 1, 1) := by decide +kernel
theorem dX10_leaveAll_12 : decode cX10_leaveAll 12 = .ok (.aload_n 0, 1) := by decide +kernel
theorem dX10_leaveAll_13 : decode cX10_leaveAll 13 = .ok (.getfield 25, 3) := by decide +kernel
theorem dX10_leaveAll_16 : decode cX10_leaveAll 16 = .ok (.iload_n 1, 1) := by decide +kernel
theorem dX10_leaveAll_17 : decode cX10_leaveAll 17 = .ok (.iaload, 1) := by decide +kernel
theorem dX10_leaveAll_18 : decode cX10_leaveAll 18 = .ok (.iastore, 1) := by decide +kernel
theorem dX10_leaveAll_19 : decode cX10_leaveAll 19 = .ok (.iinc 1 1, 3) := by decide +kernel
theorem dX10_leaveAll_22 : decode cX10_leaveAll 22 = .ok (.goto (-20), 3) := by decide +kernel
theorem dX10_leaveAll_25 : decode cX10_leaveAll 25 = .ok (.return_, 1) := by decide +kernel
theorem dX10_arrangementRank_0 : decode cX10_arrangementRank 0 = .ok (.lconst 0, 1) := by decide +kernel
theorem dX10_arrangementRank_1 : decode cX10_arrangementRank 1 = .ok (.lstore_n 1, 1) := by decide +kernel
theorem dX10_arrangementRank_2 : decode cX10_arrangementRank 2 = .ok (.aload_n 0, 1) := by decide +kernel
theorem dX10_arrangementRank_3 : decode cX10_arrangementRank 3 = .ok (.invokevirtual 154, 3) := by decide +kernel
theorem dX10_arrangementRank_6 : decode cX10_arrangementRank 6 = .ok (.iconst 0, 1) := by decide +kernel
theorem dX10_arrangementRank_7 : decode cX10_arrangementRank 7 = .ok (.istore_n 3, 1) := by decide +kernel
theorem dX10_arrangementRank_8 : decode cX10_arrangementRank 8 = .ok (.iload_n 3, 1) := by decide +kernel
theorem dX10_arrangementRank_9 : decode cX10_arrangementRank 9 = .ok (.aload_n 0, 1) := by decide +kernel
theorem dX10_arrangementRank_10 : decode cX10_arrangementRank 10 = .ok (.invokevirtual 82, 3) := by decide +kernel
theorem dX10_arrangementRank_13 : decode cX10_arrangementRank 13 = .ok (.if_icmp .ge 53, 3) := by decide +kernel
theorem dX10_arrangementRank_16 : decode cX10_arrangementRank 16 = .ok (.iconst 0, 1) := by decide +kernel
theorem dX10_arrangementRank_17 : decode cX10_arrangementRank 17 = .ok (.istore 4, 2) := by decide +kernel
theorem dX10_arrangementRank_19 : decode cX10_arrangementRank 19 = .ok (.iload 4, 2) := by decide +kernel
theorem dX10_arrangementRank_21 : decode cX10_arrangementRank 21 = .ok (.aload_n 0, 1) := by decide +kernel
theorem dX10_arrangementRank_22 : decode cX10_arrangementRank 22 = .ok (.getfield 29, 3) := by decide +kernel
theorem dX10_arrangementRank_25 : decode cX10_arrangementRank 25 = .ok (.iload_n 3, 1) := by decide +kernel
theorem dX10_arrangementRank_26 : decode cX10_arrangementRank 26 = .ok (.iaload, 1) := by decide +kernel
theorem dX10_arrangementRank_27 : decode cX10_arrangementRank 27 = .ok (.if_icmp .ge 18, 3) := by decide +kernel
theorem dX10_arrangementRank_30 : decode cX10_arrangementRank 30 = .ok (.lload_n 1, 1) := by decide +kernel
theorem dX10_arrangementRank_31 : decode cX10_arrangementRank 31 = .ok (.aload_n 0, 1) := by decide +kernel
theorem dX10_arrangementRank_32 : decode cX10_arrangementRank 32 = .ok (.iload 4, 2) := by decide +kernel
theorem dX10_arrangementRank_34 : decode cX10_arrangementRank 34 = .ok (.invokevirtual 157, 3) := by decide +kernel
theorem dX10_arrangementRank_37 : decode cX10_arrangementRank 37 = .ok (.ladd, 1) := by decide +kernel
theorem dX10_arrangementRank_38 : decode cX10_arrangementRank 38 = .ok (.lstore_n 1, 1) := by decide +kernel
theorem dX10_arrangementRank_39 : decode cX10_arrangementRank 39 = .ok (.iinc 4 1, 3) := by decide +kernel
theorem dX10_arrangementRank_42 : decode cX10_arrangementRank 42 = .ok (.goto (-23), 3) := by decide +kernel
theorem dX10_arrangementRank_45 : decode cX10_arrangementRank 45 = .ok (.aload_n 0, 1) := by decide +kernel
theorem dX10_arrangementRank_46 : decode cX10_arrangementRank 46 = .ok (.getfield 44, 3) := by decide +kernel
theorem dX10_arrangementRank_49 : decode cX10_arrangementRank 49 = .ok (.aload_n 0, 1) := by decide +kernel
theorem dX10_arrangementRank_50 : decode cX10_arrangementRank 50 = .ok (.getfield 29, 3) := by decide +kernel
theorem dX10_arrangementRank_53 : decode cX10_arrangementRank 53 = .ok (.iload_n 3, 1) := by decide +kernel
theorem dX10_arrangementRank_54 : decode cX10_arrangementRank 54 = .ok (.iaload, 1) := by decide +kernel
theorem dX10_arrangementRank_55 : decode cX10_arrangementRank 55 = .ok (.dup2, 1) := by decide +kernel
theorem dX10_arrangementRank_56 : decode cX10_arrangementRank 56 = .ok (.iaload, 1) := by decide +kernel
theorem dX10_arrangementRank_57 : decode cX10_arrangementRank 57 = .ok (.iconst 1, 1) := by decide +kernel
theorem dX10_arrangementRank_58 : decode cX10_arrangementRank 58 = .ok (.isub, 1) := by decide +kernel
theorem dX10_arrangementRank_59 : decode cX10_arrangementRank 59 = .ok (.iastore, 1) := by decide +kernel
theorem dX10_arrangementRank_60 : decode cX10_arrangementRank 60 = .ok (.iinc 3 1, 3) := by decide +kernel
theorem dX10_arrangementRank_63 : decode cX10_arrangementRank 63 = .ok (.goto (-55), 3) := by decide +kernel
theorem dX10_arrangementRank_66 : decode cX10_arrangementRank 66 = .ok (.lload_n 1, 1) := by decide +kernel
theorem dX10_arrangementRank_67 : decode cX10_arrangementRank 67 = .ok (.lreturn, 1) := by decide +kernel
theorem dX10_rankNow_0 : decode cX10_rankNow 0 = .ok (.aload_n 0, 1) := by decide +kernel
theorem dX10_rankNow_1 : decode cX10_rankNow 1 = .ok (.getfield 74, 3) := by decide +kernel
theorem dX10_rankNow_4 : decode cX10_rankNow 4 = .ok (.tableswitch 61 0 4 #[36, 41, 46, 51, 56], 36) := by decide +kernel
theorem dX10_rankNow_40 : decode cX10_rankNow 40 = .ok (.aload_n 0, 1) := by decide +kernel
theorem dX10_rankNow_41 : decode cX10_rankNow 41 = .ok (.invokevirtual 161, 3) := by decide +kernel
theorem dX10_rankNow_44 : decode cX10_rankNow 44 = .ok (.lreturn, 1) := by decide +kernel
theorem dX10_rankNow_45 : decode cX10_rankNow 45 = .ok (.aload_n 0, 1) := by decide +kernel
theorem dX10_rankNow_46 : decode cX10_rankNow 46 = .ok (.invokevirtual 164, 3) := by decide +kernel
theorem dX10_rankNow_49 : decode cX10_rankNow 49 = .ok (.lreturn, 1) := by decide +kernel
theorem dX10_rankNow_50 : decode cX10_rankNow 50 = .ok (.aload_n 0, 1) := by decide +kernel
theorem dX10_rankNow_51 : decode cX10_rankNow 51 = .ok (.invokevirtual 167, 3) := by decide +kernel
theorem dX10_rankNow_54 : decode cX10_rankNow 54 = .ok (.lreturn, 1) := by decide +kernel
theorem dX10_rankNow_55 : decode cX10_rankNow 55 = .ok (.aload_n 0, 1) := by decide +kernel
theorem dX10_rankNow_56 : decode cX10_rankNow 56 = .ok (.invokevirtual 170, 3) := by decide +kernel
theorem dX10_rankNow_59 : decode cX10_rankNow 59 = .ok (.lreturn, 1) := by decide +kernel
theorem dX10_rankNow_60 : decode cX10_rankNow 60 = .ok (.aload_n 0, 1) := by decide +kernel
theorem dX10_rankNow_61 : decode cX10_rankNow 61 = .ok (.invokevirtual 173, 3) := by decide +kernel
theorem dX10_rankNow_64 : decode cX10_rankNow 64 = .ok (.lreturn, 1) := by decide +kernel
theorem dX10_rankNow_65 : decode cX10_rankNow 65 = .ok (.aload_n 0, 1) := by decide +kernel
theorem dX10_rankNow_66 : decode cX10_rankNow 66 = .ok (.invokevirtual 176, 3) := by decide +kernel
theorem dX10_rankNow_69 : decode cX10_rankNow 69 = .ok (.lreturn, 1) := by decide +kernel
theorem dX10_rank_0 : decode cX10_rank 0 = .ok (.aload_n 0, 1) := by decide +kernel
theorem dX10_rank_1 : decode cX10_rank 1 = .ok (.invokevirtual 145, 3) := by decide +kernel
theorem dX10_rank_4 : decode cX10_rank 4 = .ok (.ifCond .eq 10, 3) := by decide +kernel
theorem dX10_rank_7 : decode cX10_rank 7 = .ok (.aload_n 0, 1) := by decide +kernel
theorem dX10_rank_8 : decode cX10_rank 8 = .ok (.invokevirtual 179, 3) := by decide +kernel
theorem dX10_rank_11 : decode cX10_rank 11 = .ok (.goto 6, 3) := by decide +kernel
theorem dX10_rank_14 : decode cX10_rank 14 = .ok (.ldc2_w 182, 3) := by decide +kernel
theorem dX10_rank_17 : decode cX10_rank 17 = .ok (.lreturn, 1) := by decide +kernel
theorem dX10_makesSubset_0 : decode cX10_makesSubset 0 = .ok (.aload_n 0, 1) := by decide +kernel
theorem dX10_makesSubset_1 : decode cX10_makesSubset 1 = .ok (.getfield 25, 3) := by decide +kernel
theorem dX10_makesSubset_4 : decode cX10_makesSubset 4 = .ok (.iconst 0, 1) := by decide +kernel
theorem dX10_makesSubset_5 : decode cX10_makesSubset 5 = .ok (.iaload, 1) := by decide +kernel
theorem dX10_makesSubset_6 : decode cX10_makesSubset 6 = .ok (.istore_n 3, 1) := by decide +kernel
theorem dX10_makesSubset_7 : decode cX10_makesSubset 7 = .ok (.aload_n 0, 1) := by decide +kernel
theorem dX10_makesSubset_8 : decode cX10_makesSubset 8 = .ok (.getfield 25, 3) := by decide +kernel
theorem dX10_makesSubset_11 : decode cX10_makesSubset 11 = .ok (.iconst 1, 1) := by decide +kernel
theorem dX10_makesSubset_12 : decode cX10_makesSubset 12 = .ok (.iaload, 1) := by decide +kernel
theorem dX10_makesSubset_13 : decode cX10_makesSubset 13 = .ok (.istore 4, 2) := by decide +kernel
theorem dX10_makesSubset_15 : decode cX10_makesSubset 15 = .ok (.lload_n 1, 1) := by decide +kernel
theorem dX10_makesSubset_16 : decode cX10_makesSubset 16 = .ok (.lstore 5, 2) := by decide +kernel
theorem dX10_makesSubset_18 : decode cX10_makesSubset 18 = .ok (.aload_n 0, 1) := by decide +kernel
theorem dX10_makesSubset_19 : decode cX10_makesSubset 19 = .ok (.getfield 25, 3) := by decide +kernel
theorem dX10_makesSubset_22 : decode cX10_makesSubset 22 = .ok (.iconst 2, 1) := by decide +kernel
theorem dX10_makesSubset_23 : decode cX10_makesSubset 23 = .ok (.iaload, 1) := by decide +kernel
theorem dX10_makesSubset_24 : decode cX10_makesSubset 24 = .ok (.ifCond .ne 86, 3) := by decide +kernel
theorem dX10_makesSubset_27 : decode cX10_makesSubset 27 = .ok (.iconst 0, 1) := by decide +kernel
theorem dX10_makesSubset_28 : decode cX10_makesSubset 28 = .ok (.istore 7, 2) := by decide +kernel
theorem dX10_makesSubset_30 : decode cX10_makesSubset 30 = .ok (.iconst 0, 1) := by decide +kernel
theorem dX10_makesSubset_31 : decode cX10_makesSubset 31 = .ok (.istore 8, 2) := by decide +kernel
theorem dX10_makesSubset_33 : decode cX10_makesSubset 33 = .ok (.iload 8, 2) := by decide +kernel
theorem dX10_makesSubset_35 : decode cX10_makesSubset 35 = .ok (.iload 4, 2) := by decide +kernel
theorem dX10_makesSubset_37 : decode cX10_makesSubset 37 = .ok (.if_icmp .ge 72, 3) := by decide +kernel
theorem dX10_makesSubset_40 : decode cX10_makesSubset 40 = .ok (.lload 5, 2) := by decide +kernel
theorem dX10_makesSubset_42 : decode cX10_makesSubset 42 = .ok (.aload_n 0, 1) := by decide +kernel
theorem dX10_makesSubset_43 : decode cX10_makesSubset 43 = .ok (.iload_n 3, 1) := by decide +kernel
theorem dX10_makesSubset_44 : decode cX10_makesSubset 44 = .ok (.iconst 1, 1) := by decide +kernel
theorem dX10_makesSubset_45 : decode cX10_makesSubset 45 = .ok (.isub, 1) := by decide +kernel
theorem dX10_makesSubset_46 : decode cX10_makesSubset 46 = .ok (.iload 7, 2) := by decide +kernel
theorem dX10_makesSubset_48 : decode cX10_makesSubset 48 = .ok (.isub, 1) := by decide +kernel
theorem dX10_makesSubset_49 : decode cX10_makesSubset 49 = .ok (.iload 4, 2) := by decide +kernel
theorem dX10_makesSubset_51 : decode cX10_makesSubset 51 = .ok (.iconst 1, 1) := by decide +kernel
theorem dX10_makesSubset_52 : decode cX10_makesSubset 52 = .ok (.isub, 1) := by decide +kernel
theorem dX10_makesSubset_53 : decode cX10_makesSubset 53 = .ok (.iload 8, 2) := by decide +kernel
theorem dX10_makesSubset_55 : decode cX10_makesSubset 55 = .ok (.isub, 1) := by decide +kernel
theorem dX10_makesSubset_56 : decode cX10_makesSubset 56 = .ok (.invokevirtual 62, 3) := by decide +kernel
theorem dX10_makesSubset_59 : decode cX10_makesSubset 59 = .ok (.lcmp, 1) := by decide +kernel
theorem dX10_makesSubset_60 : decode cX10_makesSubset 60 = .ok (.ifCond .lt 31, 3) := by decide +kernel
theorem dX10_makesSubset_63 : decode cX10_makesSubset 63 = .ok (.lload 5, 2) := by decide +kernel
theorem dX10_makesSubset_65 : decode cX10_makesSubset 65 = .ok (.aload_n 0, 1) := by decide +kernel
theorem dX10_makesSubset_66 : decode cX10_makesSubset 66 = .ok (.iload_n 3, 1) := by decide +kernel
theorem dX10_makesSubset_67 : decode cX10_makesSubset 67 = .ok (.iconst 1, 1) := by decide +kernel
theorem dX10_makesSubset_68 : decode cX10_makesSubset 68 = .ok (.isub, 1) := by decide +kernel
theorem dX10_makesSubset_69 : decode cX10_makesSubset 69 = .ok (.iload 7, 2) := by decide +kernel
theorem dX10_makesSubset_71 : decode cX10_makesSubset 71 = .ok (.isub, 1) := by decide +kernel
theorem dX10_makesSubset_72 : decode cX10_makesSubset 72 = .ok (.iload 4, 2) := by decide +kernel
theorem dX10_makesSubset_74 : decode cX10_makesSubset 74 = .ok (.iconst 1, 1) := by decide +kernel
theorem dX10_makesSubset_75 : decode cX10_makesSubset 75 = .ok (.isub, 1) := by decide +kernel
theorem dX10_makesSubset_76 : decode cX10_makesSubset 76 = .ok (.iload 8, 2) := by decide +kernel
theorem dX10_makesSubset_78 : decode cX10_makesSubset 78 = .ok (.isub, 1) := by decide +kernel
theorem dX10_makesSubset_79 : decode cX10_makesSubset 79 = .ok (.invokevirtual 62, 3) := by decide +kernel
theorem dX10_makesSubset_82 : decode cX10_makesSubset 82 = .ok (.lsub, 1) := by decide +kernel
theorem dX10_makesSubset_83 : decode cX10_makesSubset 83 = .ok (.lstore 5, 2) := by decide +kernel
theorem dX10_makesSubset_85 : decode cX10_makesSubset 85 = .ok (.iinc 7 1, 3) := by decide +kernel
theorem dX10_makesSubset_88 : decode cX10_makesSubset 88 = .ok (.goto (-48), 3) := by decide +kernel
theorem dX10_makesSubset_91 : decode cX10_makesSubset 91 = .ok (.aload_n 0, 1) := by decide +kernel
theorem dX10_makesSubset_92 : decode cX10_makesSubset 92 = .ok (.getfield 32, 3) := by decide +kernel
theorem dX10_makesSubset_95 : decode cX10_makesSubset 95 = .ok (.iload 8, 2) := by decide +kernel
theorem dX10_makesSubset_97 : decode cX10_makesSubset 97 = .ok (.iload 7, 2) := by decide +kernel
theorem dX10_makesSubset_99 : decode cX10_makesSubset 99 = .ok (.iastore, 1) := by decide +kernel
theorem dX10_makesSubset_100 : decode cX10_makesSubset 100 = .ok (.iinc 7 1, 3) := by decide +kernel
theorem dX10_makesSubset_103 : decode cX10_makesSubset 103 = .ok (.iinc 8 1, 3) := by decide +kernel
theorem dX10_makesSubset_106 : decode cX10_makesSubset 106 = .ok (.goto (-73), 3) := by decide +kernel
theorem dX10_makesSubset_109 : decode cX10_makesSubset 109 = .ok (.return_, 1) := by decide +kernel
theorem dX10_makesSubset_110 : decode cX10_makesSubset 110 = .ok (.iload 4, 2) := by decide +kernel
theorem dX10_makesSubset_112 : decode cX10_makesSubset 112 = .ok (.istore 7, 2) := by decide +kernel
theorem dX10_makesSubset_114 : decode cX10_makesSubset 114 = .ok (.iload 7, 2) := by decide +kernel
theorem dX10_makesSubset_116 : decode cX10_makesSubset 116 = .ok (.ifCond .le 89, 3) := by decide +kernel
theorem dX10_makesSubset_119 : decode cX10_makesSubset 119 = .ok (.iload 7, 2) := by decide +kernel
theorem dX10_makesSubset_121 : decode cX10_makesSubset 121 = .ok (.iconst 1, 1) := by decide +kernel
theorem dX10_makesSubset_122 : decode cX10_makesSubset 122 = .ok (.isub, 1) := by decide +kernel
theorem dX10_makesSubset_123 : decode cX10_makesSubset 123 = .ok (.istore 8, 2) := by decide +kernel
theorem dX10_makesSubset_125 : decode cX10_makesSubset 125 = .ok (.aload_n 0, 1) := by decide +kernel
theorem dX10_makesSubset_126 : decode cX10_makesSubset 126 = .ok (.iload 8, 2) := by decide +kernel
theorem dX10_makesSubset_128 : decode cX10_makesSubset 128 = .ok (.iconst 1, 1) := by decide +kernel
theorem dX10_makesSubset_129 : decode cX10_makesSubset 129 = .ok (.iadd, 1) := by decide +kernel
theorem dX10_makesSubset_130 : decode cX10_makesSubset 130 = .ok (.iload 7, 2) := by decide +kernel
theorem dX10_makesSubset_132 : decode cX10_makesSubset 132 = .ok (.invokevirtual 62, 3) := by decide +kernel
theorem dX10_makesSubset_135 : decode cX10_makesSubset 135 = .ok (.lload 5, 2) := by decide +kernel
theorem dX10_makesSubset_137 : decode cX10_makesSubset 137 = .ok (.lcmp, 1) := by decide +kernel
theorem dX10_makesSubset_138 : decode cX10_makesSubset 138 = .ok (.ifCond .gt 9, 3) := by decide +kernel
theorem dX10_makesSubset_141 : decode cX10_makesSubset 141 = .ok (.iinc 8 1, 3) := by decide +kernel
theorem dX10_makesSubset_144 : decode cX10_makesSubset 144 = .ok (.goto (-19), 3) := by decide +kernel
theorem dX10_makesSubset_147 : decode cX10_makesSubset 147 = .ok (.aload_n 0, 1) := by decide +kernel
theorem dX10_makesSubset_148 : decode cX10_makesSubset 148 = .ok (.getfield 32, 3) := by decide +kernel
theorem dX10_makesSubset_151 : decode cX10_makesSubset 151 = .ok (.iload 7, 2) := by decide +kernel
theorem dX10_makesSubset_153 : decode cX10_makesSubset 153 = .ok (.iconst 1, 1) := by decide +kernel
theorem dX10_makesSubset_154 : decode cX10_makesSubset 154 = .ok (.isub, 1) := by decide +kernel
theorem dX10_makesSubset_155 : decode cX10_makesSubset 155 = .ok (.iload 8, 2) := by decide +kernel
theorem dX10_makesSubset_157 : decode cX10_makesSubset 157 = .ok (.iastore, 1) := by decide +kernel
theorem dX10_makesSubset_158 : decode cX10_makesSubset 158 = .ok (.aload_n 0, 1) := by decide +kernel
theorem dX10_makesSubset_159 : decode cX10_makesSubset 159 = .ok (.getfield 25, 3) := by decide +kernel
theorem dX10_makesSubset_162 : decode cX10_makesSubset 162 = .ok (.iconst 2, 1) := by decide +kernel
theorem dX10_makesSubset_163 : decode cX10_makesSubset 163 = .ok (.iaload, 1) := by decide +kernel
theorem dX10_makesSubset_164 : decode cX10_makesSubset 164 = .ok (.iconst 1, 1) := by decide +kernel
theorem dX10_makesSubset_165 : decode cX10_makesSubset 165 = .ok (.if_icmp .ne 17, 3) := by decide +kernel
theorem dX10_makesSubset_168 : decode cX10_makesSubset 168 = .ok (.lload 5, 2) := by decide +kernel
theorem dX10_makesSubset_170 : decode cX10_makesSubset 170 = .ok (.aload_n 0, 1) := by decide +kernel
theorem dX10_makesSubset_171 : decode cX10_makesSubset 171 = .ok (.iload 8, 2) := by decide +kernel
theorem dX10_makesSubset_173 : decode cX10_makesSubset 173 = .ok (.iload 7, 2) := by decide +kernel
theorem dX10_makesSubset_175 : decode cX10_makesSubset 175 = .ok (.invokevirtual 62, 3) := by decide +kernel
theorem dX10_makesSubset_178 : decode cX10_makesSubset 178 = .ok (.lsub, 1) := by decide +kernel
theorem dX10_makesSubset_179 : decode cX10_makesSubset 179 = .ok (.goto 18, 3) := by decide +kernel
theorem dX10_makesSubset_182 : decode cX10_makesSubset 182 = .ok (.aload_n 0, 1) := by decide +kernel
theorem dX10_makesSubset_183 : decode cX10_makesSubset 183 = .ok (.iload 8, 2) := by decide +kernel
theorem dX10_makesSubset_185 : decode cX10_makesSubset 185 = .ok (.iconst 1, 1) := by decide +kernel
theorem dX10_makesSubset_186 : decode cX10_makesSubset 186 = .ok (.iadd, 1) := by decide +kernel
theorem dX10_makesSubset_187 : decode cX10_makesSubset 187 = .ok (.iload 7, 2) := by decide +kernel
theorem dX10_makesSubset_189 : decode cX10_makesSubset 189 = .ok (.invokevirtual 62, 3) := by decide +kernel
theorem dX10_makesSubset_192 : decode cX10_makesSubset 192 = .ok (.lconst 1, 1) := by decide +kernel
theorem dX10_makesSubset_193 : decode cX10_makesSubset 193 = .ok (.lsub, 1) := by decide +kernel
theorem dX10_makesSubset_194 : decode cX10_makesSubset 194 = .ok (.lload 5, 2) := by decide +kernel
theorem dX10_makesSubset_196 : decode cX10_makesSubset 196 = .ok (.lsub, 1) := by decide +kernel
theorem dX10_makesSubset_197 : decode cX10_makesSubset 197 = .ok (.lstore 5, 2) := by decide +kernel
theorem dX10_makesSubset_199 : decode cX10_makesSubset 199 = .ok (.iinc 7 (-1), 3) := by decide +kernel
theorem dX10_makesSubset_202 : decode cX10_makesSubset 202 = .ok (.goto (-88), 3) := by decide +kernel
theorem dX10_makesSubset_205 : decode cX10_makesSubset 205 = .ok (.return_, 1) := by decide +kernel
theorem dX10_insert_0 : decode cX10_insert 0 = .ok (.iload_n 1, 1) := by decide +kernel
theorem dX10_insert_1 : decode cX10_insert 1 = .ok (.istore 4, 2) := by decide +kernel
theorem dX10_insert_3 : decode cX10_insert 3 = .ok (.iload 4, 2) := by decide +kernel
theorem dX10_insert_5 : decode cX10_insert 5 = .ok (.iload_n 2, 1) := by decide +kernel
theorem dX10_insert_6 : decode cX10_insert 6 = .ok (.if_icmp .le 25, 3) := by decide +kernel
theorem dX10_insert_9 : decode cX10_insert 9 = .ok (.aload_n 0, 1) := by decide +kernel
theorem dX10_insert_10 : decode cX10_insert 10 = .ok (.getfield 32, 3) := by decide +kernel
theorem dX10_insert_13 : decode cX10_insert 13 = .ok (.iload 4, 2) := by decide +kernel
theorem dX10_insert_15 : decode cX10_insert 15 = .ok (.aload_n 0, 1) := by decide +kernel
theorem dX10_insert_16 : decode cX10_insert 16 = .ok (.getfield 32, 3) := by decide +kernel
theorem dX10_insert_19 : decode cX10_insert 19 = .ok (.iload 4, 2) := by decide +kernel
theorem dX10_insert_21 : decode cX10_insert 21 = .ok (.iconst 1, 1) := by decide +kernel
theorem dX10_insert_22 : decode cX10_insert 22 = .ok (.isub, 1) := by decide +kernel
theorem dX10_insert_23 : decode cX10_insert 23 = .ok (.iaload, 1) := by decide +kernel
theorem dX10_insert_24 : decode cX10_insert 24 = .ok (.iastore, 1) := by decide +kernel
theorem dX10_insert_25 : decode cX10_insert 25 = .ok (.iinc 4 (-1), 3) := by decide +kernel
theorem dX10_insert_28 : decode cX10_insert 28 = .ok (.goto (-25), 3) := by decide +kernel
theorem dX10_insert_31 : decode cX10_insert 31 = .ok (.aload_n 0, 1) := by decide +kernel
theorem dX10_insert_32 : decode cX10_insert 32 = .ok (.getfield 32, 3) := by decide +kernel
theorem dX10_insert_35 : decode cX10_insert 35 = .ok (.iload_n 2, 1) := by decide +kernel
theorem dX10_insert_36 : decode cX10_insert 36 = .ok (.iload_n 3, 1) := by decide +kernel
theorem dX10_insert_37 : decode cX10_insert 37 = .ok (.iastore, 1) := by decide +kernel
theorem dX10_insert_38 : decode cX10_insert 38 = .ok (.return_, 1) := by decide +kernel
theorem dX10_makesPermutation_0 : decode cX10_makesPermutation 0 = .ok (.aload_n 0, 1) := by decide +kernel
theorem dX10_makesPermutation_1 : decode cX10_makesPermutation 1 = .ok (.getfield 25, 3) := by decide +kernel
theorem dX10_makesPermutation_4 : decode cX10_makesPermutation 4 = .ok (.iconst 0, 1) := by decide +kernel
theorem dX10_makesPermutation_5 : decode cX10_makesPermutation 5 = .ok (.iaload, 1) := by decide +kernel
theorem dX10_makesPermutation_6 : decode cX10_makesPermutation 6 = .ok (.istore_n 3, 1) := by decide +kernel
theorem dX10_makesPermutation_7 : decode cX10_makesPermutation 7 = .ok (.lload_n 1, 1) := by decide +kernel
theorem dX10_makesPermutation_8 : decode cX10_makesPermutation 8 = .ok (.lstore 4, 2) := by decide +kernel
theorem dX10_makesPermutation_10 : decode cX10_makesPermutation 10 = .ok (.aload_n 0, 1) := by decide +kernel
theorem dX10_makesPermutation_11 : decode cX10_makesPermutation 11 = .ok (.getfield 25, 3) := by decide +kernel
theorem dX10_makesPermutation_14 : decode cX10_makesPermutation 14 = .ok (.iconst 1, 1) := by decide +kernel
theorem dX10_makesPermutation_15 : decode cX10_makesPermutation 15 = .ok (.iaload, 1) := by decide +kernel
theorem dX10_makesPermutation_16 : decode cX10_makesPermutation 16 = .ok (.ifCond .ne 95, 3) := by decide +kernel
theorem dX10_makesPermutation_19 : decode cX10_makesPermutation 19 = .ok (.iload_n 3, 1) := by decide +kernel
theorem dX10_makesPermutation_20 : decode cX10_makesPermutation 20 = .ok (.iconst 1, 1) := by decide +kernel
theorem dX10_makesPermutation_21 : decode cX10_makesPermutation 21 = .ok (.isub, 1) := by decide +kernel
theorem dX10_makesPermutation_22 : decode cX10_makesPermutation 22 = .ok (.istore 6, 2) := by decide +kernel
theorem dX10_makesPermutation_24 : decode cX10_makesPermutation 24 = .ok (.iload 6, 2) := by decide +kernel
theorem dX10_makesPermutation_26 : decode cX10_makesPermutation 26 = .ok (.ifCond .lt 84, 3) := by decide +kernel
theorem dX10_makesPermutation_29 : decode cX10_makesPermutation 29 = .ok (.lload 4, 2) := by decide +kernel
theorem dX10_makesPermutation_31 : decode cX10_makesPermutation 31 = .ok (.iload_n 3, 1) := by decide +kernel
theorem dX10_makesPermutation_32 : decode cX10_makesPermutation 32 = .ok (.iload 6, 2) := by decide +kernel
theorem dX10_makesPermutation_34 : decode cX10_makesPermutation 34 = .ok (.isub, 1) := by decide +kernel
theorem dX10_makesPermutation_35 : decode cX10_makesPermutation 35 = .ok (.i2l, 1) := by decide +kernel
theorem dX10_makesPermutation_36 : decode cX10_makesPermutation 36 = .ok (.lrem, 1) := by decide +kernel
theorem dX10_makesPermutation_37 : decode cX10_makesPermutation 37 = .ok (.l2i, 1) := by decide +kernel
theorem dX10_makesPermutation_38 : decode cX10_makesPermutation 38 = .ok (.istore 7, 2) := by decide +kernel
theorem dX10_makesPermutation_40 : decode cX10_makesPermutation 40 = .ok (.lload 4, 2) := by decide +kernel
theorem dX10_makesPermutation_42 : decode cX10_makesPermutation 42 = .ok (.iload_n 3, 1) := by decide +kernel
theorem dX10_makesPermutation_43 : decode cX10_makesPermutation 43 = .ok (.iload 6, 2) := by decide +kernel
theorem dX10_makesPermutation_45 : decode cX10_makesPermutation 45 = .ok (.isub, 1) := by decide +kernel
theorem dX10_makesPermutation_46 : decode cX10_makesPermutation 46 = .ok (.i2l, 1) := by decide +kernel
theorem dX10_makesPermutation_47 : decode cX10_makesPermutation 47 = .ok (.ldiv, 1) := by decide +kernel
theorem dX10_makesPermutation_48 : decode cX10_makesPermutation 48 = .ok (.lstore 4, 2) := by decide +kernel
theorem dX10_makesPermutation_50 : decode cX10_makesPermutation 50 = .ok (.aload_n 0, 1) := by decide +kernel
theorem dX10_makesPermutation_51 : decode cX10_makesPermutation 51 = .ok (.getfield 32, 3) := by decide +kernel
theorem dX10_makesPermutation_54 : decode cX10_makesPermutation 54 = .ok (.iload 6, 2) := by decide +kernel
theorem dX10_makesPermutation_56 : decode cX10_makesPermutation 56 = .ok (.iload 7, 2) := by decide +kernel
theorem dX10_makesPermutation_58 : decode cX10_makesPermutation 58 = .ok (.iastore, 1) := by decide +kernel
theorem dX10_makesPermutation_59 : decode cX10_makesPermutation 59 = .ok (.iload 6, 2) := by decide +kernel
theorem dX10_makesPermutation_61 : decode cX10_makesPermutation 61 = .ok (.iconst 1, 1) := by decide +kernel
theorem dX10_makesPermutation_62 : decode cX10_makesPermutation 62 = .ok (.iadd, 1) := by decide +kernel
theorem dX10_makesPermutation_63 : decode cX10_makesPermutation 63 = .ok (.istore 8, 2) := by decide +kernel
theorem dX10_makesPermutation_65 : decode cX10_makesPermutation 65 = .ok (.iload 8, 2) := by decide +kernel
theorem dX10_makesPermutation_67 : decode cX10_makesPermutation 67 = .ok (.iload_n 3, 1) := by decide +kernel
theorem dX10_makesPermutation_68 : decode cX10_makesPermutation 68 = .ok (.if_icmp .ge 36, 3) := by decide +kernel
theorem dX10_makesPermutation_71 : decode cX10_makesPermutation 71 = .ok (.aload_n 0, 1) := by decide +kernel
theorem dX10_makesPermutation_72 : decode cX10_makesPermutation 72 = .ok (.getfield 32, 3) := by decide +kernel
theorem dX10_makesPermutation_75 : decode cX10_makesPermutation 75 = .ok (.iload 8, 2) := by decide +kernel
theorem dX10_makesPermutation_77 : decode cX10_makesPermutation 77 = .ok (.dup2, 1) := by decide +kernel
theorem dX10_makesPermutation_78 : decode cX10_makesPermutation 78 = .ok (.iaload, 1) := by decide +kernel
theorem dX10_makesPermutation_79 : decode cX10_makesPermutation 79 = .ok (.aload_n 0, 1) := by decide +kernel
theorem dX10_makesPermutation_80 : decode cX10_makesPermutation 80 = .ok (.getfield 32, 3) := by decide +kernel
theorem dX10_makesPermutation_83 : decode cX10_makesPermutation 83 = .ok (.iload 8, 2) := by decide +kernel
theorem dX10_makesPermutation_85 : decode cX10_makesPermutation 85 = .ok (.iaload, 1) := by decide +kernel
theorem dX10_makesPermutation_86 : decode cX10_makesPermutation 86 = .ok (.iload 7, 2) := by decide +kernel
theorem dX10_makesPermutation_88 : decode cX10_makesPermutation 88 = .ok (.if_icmp .lt 7, 3) := by decide +kernel
theorem dX10_makesPermutation_91 : decode cX10_makesPermutation 91 = .ok (.iconst 1, 1) := by decide +kernel
theorem dX10_makesPermutation_92 : decode cX10_makesPermutation 92 = .ok (.goto 4, 3) := by decide +kernel
theorem dX10_makesPermutation_95 : decode cX10_makesPermutation 95 = .ok (.iconst 0, 1) := by decide +kernel
theorem dX10_makesPermutation_96 : decode cX10_makesPermutation 96 = .ok (.iadd, 1) := by decide +kernel
theorem dX10_makesPermutation_97 : decode cX10_makesPermutation 97 = .ok (.iastore, 1) := by decide +kernel
theorem dX10_makesPermutation_98 : decode cX10_makesPermutation 98 = .ok (.iinc 8 1, 3) := by decide +kernel
theorem dX10_makesPermutation_101 : decode cX10_makesPermutation 101 = .ok (.goto (-36), 3) := by decide +kernel
theorem dX10_makesPermutation_104 : decode cX10_makesPermutation 104 = .ok (.iinc 6 (-1), 3) := by decide +kernel
theorem dX10_makesPermutation_107 : decode cX10_makesPermutation 107 = .ok (.goto (-83), 3) := by decide +kernel
theorem dX10_makesPermutation_110 : decode cX10_makesPermutation 110 = .ok (.return_, 1) := by decide +kernel
theorem dX10_makesPermutation_111 : decode cX10_makesPermutation 111 = .ok (.iload_n 3, 1) := by decide +kernel
theorem dX10_makesPermutation_112 : decode cX10_makesPermutation 112 = .ok (.iconst 1, 1) := by decide +kernel
theorem dX10_makesPermutation_113 : decode cX10_makesPermutation 113 = .ok (.isub, 1) := by decide +kernel
theorem dX10_makesPermutation_114 : decode cX10_makesPermutation 114 = .ok (.istore 6, 2) := by decide +kernel
theorem dX10_makesPermutation_116 : decode cX10_makesPermutation 116 = .ok (.iload 6, 2) := by decide +kernel
theorem dX10_makesPermutation_118 : decode cX10_makesPermutation 118 = .ok (.ifCond .le 28, 3) := by decide +kernel
theorem dX10_makesPermutation_121 : decode cX10_makesPermutation 121 = .ok (.aload_n 0, 1) := by decide +kernel
theorem dX10_makesPermutation_122 : decode cX10_makesPermutation 122 = .ok (.getfield 41, 3) := by decide +kernel
theorem dX10_makesPermutation_125 : decode cX10_makesPermutation 125 = .ok (.iload 6, 2) := by decide +kernel
theorem dX10_makesPermutation_127 : decode cX10_makesPermutation 127 = .ok (.lload 4, 2) := by decide +kernel
theorem dX10_makesPermutation_129 : decode cX10_makesPermutation 129 = .ok (.lastore, 1) := by decide +kernel
theorem dX10_makesPermutation_130 : decode cX10_makesPermutation 130 = .ok (.lload 4, 2) := by decide +kernel
theorem dX10_makesPermutation_132 : decode cX10_makesPermutation 132 = .ok (.iload 6, 2) := by decide +kernel
theorem dX10_makesPermutation_134 : decode cX10_makesPermutation 134 = .ok (.iconst 1, 1) := by decide +kernel
theorem dX10_makesPermutation_135 : decode cX10_makesPermutation 135 = .ok (.iadd, 1) := by decide +kernel
theorem dX10_makesPermutation_136 : decode cX10_makesPermutation 136 = .ok (.i2l, 1) := by decide +kernel
theorem dX10_makesPermutation_137 : decode cX10_makesPermutation 137 = .ok (.ldiv, 1) := by decide +kernel
theorem dX10_makesPermutation_138 : decode cX10_makesPermutation 138 = .ok (.lstore 4, 2) := by decide +kernel
theorem dX10_makesPermutation_140 : decode cX10_makesPermutation 140 = .ok (.iinc 6 (-1), 3) := by decide +kernel
theorem dX10_makesPermutation_143 : decode cX10_makesPermutation 143 = .ok (.goto (-27), 3) := by decide +kernel
theorem dX10_makesPermutation_146 : decode cX10_makesPermutation 146 = .ok (.aload_n 0, 1) := by decide +kernel
theorem dX10_makesPermutation_147 : decode cX10_makesPermutation 147 = .ok (.getfield 32, 3) := by decide +kernel
theorem dX10_makesPermutation_150 : decode cX10_makesPermutation 150 = .ok (.iconst 0, 1) := by decide +kernel
theorem dX10_makesPermutation_151 : decode cX10_makesPermutation 151 = .ok (.iconst 0, 1) := by decide +kernel
theorem dX10_makesPermutation_152 : decode cX10_makesPermutation 152 = .ok (.iastore, 1) := by decide +kernel
theorem dX10_makesPermutation_153 : decode cX10_makesPermutation 153 = .ok (.iconst 1, 1) := by decide +kernel
theorem dX10_makesPermutation_154 : decode cX10_makesPermutation 154 = .ok (.istore 6, 2) := by decide +kernel
theorem dX10_makesPermutation_156 : decode cX10_makesPermutation 156 = .ok (.iload 6, 2) := by decide +kernel
theorem dX10_makesPermutation_158 : decode cX10_makesPermutation 158 = .ok (.iload_n 3, 1) := by decide +kernel
theorem dX10_makesPermutation_159 : decode cX10_makesPermutation 159 = .ok (.if_icmp .ge 65, 3) := by decide +kernel
theorem dX10_makesPermutation_162 : decode cX10_makesPermutation 162 = .ok (.aload_n 0, 1) := by decide +kernel
theorem dX10_makesPermutation_163 : decode cX10_makesPermutation 163 = .ok (.getfield 41, 3) := by decide +kernel
theorem dX10_makesPermutation_166 : decode cX10_makesPermutation 166 = .ok (.iload 6, 2) := by decide +kernel
theorem dX10_makesPermutation_168 : decode cX10_makesPermutation 168 = .ok (.laload, 1) := by decide +kernel
theorem dX10_makesPermutation_169 : decode cX10_makesPermutation 169 = .ok (.iload 6, 2) := by decide +kernel
theorem dX10_makesPermutation_171 : decode cX10_makesPermutation 171 = .ok (.iconst 1, 1) := by decide +kernel
theorem dX10_makesPermutation_172 : decode cX10_makesPermutation 172 = .ok (.iadd, 1) := by decide +kernel
theorem dX10_makesPermutation_173 : decode cX10_makesPermutation 173 = .ok (.i2l, 1) := by decide +kernel
theorem dX10_makesPermutation_174 : decode cX10_makesPermutation 174 = .ok (.lrem, 1) := by decide +kernel
theorem dX10_makesPermutation_175 : decode cX10_makesPermutation 175 = .ok (.l2i, 1) := by decide +kernel
theorem dX10_makesPermutation_176 : decode cX10_makesPermutation 176 = .ok (.istore 7, 2) := by decide +kernel
theorem dX10_makesPermutation_178 : decode cX10_makesPermutation 178 = .ok (.aload_n 0, 1) := by decide +kernel
theorem dX10_makesPermutation_179 : decode cX10_makesPermutation 179 = .ok (.iload 6, 2) := by decide +kernel
theorem dX10_makesPermutation_181 : decode cX10_makesPermutation 181 = .ok (.aload_n 0, 1) := by decide +kernel
theorem dX10_makesPermutation_182 : decode cX10_makesPermutation 182 = .ok (.getfield 41, 3) := by decide +kernel
theorem dX10_makesPermutation_185 : decode cX10_makesPermutation 185 = .ok (.iload 6, 2) := by decide +kernel
theorem dX10_makesPermutation_187 : decode cX10_makesPermutation 187 = .ok (.laload, 1) := by decide +kernel
theorem dX10_makesPermutation_188 : decode cX10_makesPermutation 188 = .ok (.iload 6, 2) := by decide +kernel
theorem dX10_makesPermutation_190 : decode cX10_makesPermutation 190 = .ok (.iconst 1, 1) := by decide +kernel
theorem dX10_makesPermutation_191 : decode cX10_makesPermutation 191 = .ok (.iadd, 1) := by decide +kernel
theorem dX10_makesPermutation_192 : decode cX10_makesPermutation 192 = .ok (.i2l, 1) := by decide +kernel
theorem dX10_makesPermutation_193 : decode cX10_makesPermutation 193 = .ok (.ldiv, 1) := by decide +kernel
theorem dX10_makesPermutation_194 : decode cX10_makesPermutation 194 = .ok (.ldc2_w 104, 3) := by decide +kernel
theorem dX10_makesPermutation_197 : decode cX10_makesPermutation 197 = .ok (.lrem, 1) := by decide +kernel
theorem dX10_makesPermutation_198 : decode cX10_makesPermutation 198 = .ok (.lconst 0, 1) := by decide +kernel
theorem dX10_makesPermutation_199 : decode cX10_makesPermutation 199 = .ok (.lcmp, 1) := by decide +kernel
theorem dX10_makesPermutation_200 : decode cX10_makesPermutation 200 = .ok (.ifCond .ne 11, 3) := by decide +kernel
theorem dX10_makesPermutation_203 : decode cX10_makesPermutation 203 = .ok (.iload 6, 2) := by decide +kernel
theorem dX10_makesPermutation_205 : decode cX10_makesPermutation 205 = .ok (.iload 7, 2) := by decide +kernel
theorem dX10_makesPermutation_207 : decode cX10_makesPermutation 207 = .ok (.isub, 1) := by decide +kernel
theorem dX10_makesPermutation_208 : decode cX10_makesPermutation 208 = .ok (.goto 5, 3) := by decide +kernel
theorem dX10_makesPermutation_211 : decode cX10_makesPermutation 211 = .ok (.iload 7, 2) := by decide +kernel
theorem dX10_makesPermutation_213 : decode cX10_makesPermutation 213 = .ok (.iload 6, 2) := by decide +kernel
theorem dX10_makesPermutation_215 : decode cX10_makesPermutation 215 = .ok (.invokevirtual 184, 3) := by decide +kernel
theorem dX10_makesPermutation_218 : decode cX10_makesPermutation 218 = .ok (.iinc 6 1, 3) := by decide +kernel
theorem dX10_makesPermutation_221 : decode cX10_makesPermutation 221 = .ok (.goto (-65), 3) := by decide +kernel
theorem dX10_makesPermutation_224 : decode cX10_makesPermutation 224 = .ok (.return_, 1) := by decide +kernel
theorem dX10_makesWord_0 : decode cX10_makesWord 0 = .ok (.lload_n 1, 1) := by decide +kernel
theorem dX10_makesWord_1 : decode cX10_makesWord 1 = .ok (.lstore_n 3, 1) := by decide +kernel
theorem dX10_makesWord_2 : decode cX10_makesWord 2 = .ok (.iconst 0, 1) := by decide +kernel
theorem dX10_makesWord_3 : decode cX10_makesWord 3 = .ok (.istore 5, 2) := by decide +kernel
theorem dX10_makesWord_5 : decode cX10_makesWord 5 = .ok (.iconst 0, 1) := by decide +kernel
theorem dX10_makesWord_6 : decode cX10_makesWord 6 = .ok (.istore 6, 2) := by decide +kernel
theorem dX10_makesWord_8 : decode cX10_makesWord 8 = .ok (.iload 6, 2) := by decide +kernel
theorem dX10_makesWord_10 : decode cX10_makesWord 10 = .ok (.iconst 2, 1) := by decide +kernel
theorem dX10_makesWord_11 : decode cX10_makesWord 11 = .ok (.aload_n 0, 1) := by decide +kernel
theorem dX10_makesWord_12 : decode cX10_makesWord 12 = .ok (.getfield 25, 3) := by decide +kernel
theorem dX10_makesWord_15 : decode cX10_makesWord 15 = .ok (.iconst 0, 1) := by decide +kernel
theorem dX10_makesWord_16 : decode cX10_makesWord 16 = .ok (.iaload, 1) := by decide +kernel
theorem dX10_makesWord_17 : decode cX10_makesWord 17 = .ok (.imul, 1) := by decide +kernel
theorem dX10_makesWord_18 : decode cX10_makesWord 18 = .ok (.if_icmp .ge 186, 3) := by decide +kernel
theorem dX10_makesWord_21 : decode cX10_makesWord 21 = .ok (.iconst 2, 1) := by decide +kernel
theorem dX10_makesWord_22 : decode cX10_makesWord 22 = .ok (.aload_n 0, 1) := by decide +kernel
theorem dX10_makesWord_23 : decode cX10_makesWord 23 = .ok (.getfield 25, 3) := by decide +kernel
theorem dX10_makesWord_26 : decode cX10_makesWord 26 = .ok (.iconst 0, 1) := by decide +kernel
theorem dX10_makesWord_27 : decode cX10_makesWord 27 = .ok (.iaload, 1) := by decide +kernel
theorem dX10_makesWord_28 : decode cX10_makesWord 28 = .ok (.imul, 1) := by decide +kernel
theorem dX10_makesWord_29 : decode cX10_makesWord 29 = .ok (.iconst 1, 1) := by decide +kernel
theorem dX10_makesWord_30 : decode cX10_makesWord 30 = .ok (.isub, 1) := by decide +kernel
theorem dX10_makesWord_31 : decode cX10_makesWord 31 = .ok (.iload 6, 2) := by decide +kernel
theorem dX10_makesWord_33 : decode cX10_makesWord 33 = .ok (.isub, 1) := by decide +kernel
theorem dX10_makesWord_34 : decode cX10_makesWord 34 = .ok (.istore 7, 2) := by decide +kernel
theorem dX10_makesWord_36 : decode cX10_makesWord 36 = .ok (.iconst (-1), 1) := by decide +kernel
theorem dX10_makesWord_37 : decode cX10_makesWord 37 = .ok (.istore 8, 2) := by decide +kernel
theorem dX10_makesWord_39 : decode cX10_makesWord 39 = .ok (.lconst 0, 1) := by decide +kernel
theorem dX10_makesWord_40 : decode cX10_makesWord 40 = .ok (.lstore 9, 2) := by decide +kernel
theorem dX10_makesWord_42 : decode cX10_makesWord 42 = .ok (.iconst 1, 1) := by decide +kernel
theorem dX10_makesWord_43 : decode cX10_makesWord 43 = .ok (.istore 11, 2) := by decide +kernel
theorem dX10_makesWord_45 : decode cX10_makesWord 45 = .ok (.iload 11, 2) := by decide +kernel
theorem dX10_makesWord_47 : decode cX10_makesWord 47 = .ok (.ifCond .eq 117, 3) := by decide +kernel
theorem dX10_makesWord_50 : decode cX10_makesWord 50 = .ok (.lload_n 3, 1) := by decide +kernel
theorem dX10_makesWord_51 : decode cX10_makesWord 51 = .ok (.lload 9, 2) := by decide +kernel
theorem dX10_makesWord_53 : decode cX10_makesWord 53 = .ok (.lsub, 1) := by decide +kernel
theorem dX10_makesWord_54 : decode cX10_makesWord 54 = .ok (.lstore_n 3, 1) := by decide +kernel
theorem dX10_makesWord_55 : decode cX10_makesWord 55 = .ok (.iinc 8 1, 3) := by decide +kernel
theorem dX10_makesWord_58 : decode cX10_makesWord 58 = .ok (.iload 8, 2) := by decide +kernel
theorem dX10_makesWord_60 : decode cX10_makesWord 60 = .ok (.iconst 2, 1) := by decide +kernel
theorem dX10_makesWord_61 : decode cX10_makesWord 61 = .ok (.irem, 1) := by decide +kernel
theorem dX10_makesWord_62 : decode cX10_makesWord 62 = .ok (.iconst 1, 1) := by decide +kernel
theorem dX10_makesWord_63 : decode cX10_makesWord 63 = .ok (.if_icmp .ne 28, 3) := by decide +kernel
theorem dX10_makesWord_66 : decode cX10_makesWord 66 = .ok (.iload 5, 2) := by decide +kernel
theorem dX10_makesWord_68 : decode cX10_makesWord 68 = .ok (.ifCond .le 23, 3) := by decide +kernel
theorem dX10_makesWord_71 : decode cX10_makesWord 71 = .ok (.aload_n 0, 1) := by decide +kernel
theorem dX10_makesWord_72 : decode cX10_makesWord 72 = .ok (.getfield 35, 3) := by decide +kernel
theorem dX10_makesWord_75 : decode cX10_makesWord 75 = .ok (.iload 5, 2) := by decide +kernel
theorem dX10_makesWord_77 : decode cX10_makesWord 77 = .ok (.iconst 1, 1) := by decide +kernel
theorem dX10_makesWord_78 : decode cX10_makesWord 78 = .ok (.isub, 1) := by decide +kernel
theorem dX10_makesWord_79 : decode cX10_makesWord 79 = .ok (.iaload, 1) := by decide +kernel
theorem dX10_makesWord_80 : decode cX10_makesWord 80 = .ok (.iload 8, 2) := by decide +kernel
theorem dX10_makesWord_82 : decode cX10_makesWord 82 = .ok (.iconst 1, 1) := by decide +kernel
theorem dX10_makesWord_83 : decode cX10_makesWord 83 = .ok (.isub, 1) := by decide +kernel
theorem dX10_makesWord_84 : decode cX10_makesWord 84 = .ok (.if_icmp .ne 7, 3) := by decide +kernel
theorem dX10_makesWord_87 : decode cX10_makesWord 87 = .ok (.iconst 1, 1) := by decide +kernel
theorem dX10_makesWord_88 : decode cX10_makesWord 88 = .ok (.goto 4, 3) := by decide +kernel
theorem dX10_makesWord_91 : decode cX10_makesWord 91 = .ok (.iconst 0, 1) := by decide +kernel
theorem dX10_makesWord_92 : decode cX10_makesWord 92 = .ok (.istore 12, 2) := by decide +kernel
theorem dX10_makesWord_94 : decode cX10_makesWord 94 = .ok (.iload 8, 2) := by decide +kernel
theorem dX10_makesWord_96 : decode cX10_makesWord 96 = .ok (.iconst 2, 1) := by decide +kernel
theorem dX10_makesWord_97 : decode cX10_makesWord 97 = .ok (.irem, 1) := by decide +kernel
theorem dX10_makesWord_98 : decode cX10_makesWord 98 = .ok (.ifCond .ne 22, 3) := by decide +kernel
theorem dX10_makesWord_101 : decode cX10_makesWord 101 = .ok (.aload_n 0, 1) := by decide +kernel
theorem dX10_makesWord_102 : decode cX10_makesWord 102 = .ok (.iload 7, 2) := by decide +kernel
theorem dX10_makesWord_104 : decode cX10_makesWord 104 = .ok (.iload 5, 2) := by decide +kernel
theorem dX10_makesWord_106 : decode cX10_makesWord 106 = .ok (.iconst 1, 1) := by decide +kernel
theorem dX10_makesWord_107 : decode cX10_makesWord 107 = .ok (.iadd, 1) := by decide +kernel
theorem dX10_makesWord_108 : decode cX10_makesWord 108 = .ok (.aload_n 0, 1) := by decide +kernel
theorem dX10_makesWord_109 : decode cX10_makesWord 109 = .ok (.getfield 25, 3) := by decide +kernel
theorem dX10_makesWord_112 : decode cX10_makesWord 112 = .ok (.iconst 1, 1) := by decide +kernel
theorem dX10_makesWord_113 : decode cX10_makesWord 113 = .ok (.iaload, 1) := by decide +kernel
theorem dX10_makesWord_114 : decode cX10_makesWord 114 = .ok (.invokevirtual 66, 3) := by decide +kernel
theorem dX10_makesWord_117 : decode cX10_makesWord 117 = .ok (.goto 28, 3) := by decide +kernel
theorem dX10_makesWord_120 : decode cX10_makesWord 120 = .ok (.iload 12, 2) := by decide +kernel
theorem dX10_makesWord_122 : decode cX10_makesWord 122 = .ok (.ifCond .eq 22, 3) := by decide +kernel
theorem dX10_makesWord_125 : decode cX10_makesWord 125 = .ok (.aload_n 0, 1) := by decide +kernel
theorem dX10_makesWord_126 : decode cX10_makesWord 126 = .ok (.iload 7, 2) := by decide +kernel
theorem dX10_makesWord_128 : decode cX10_makesWord 128 = .ok (.iload 5, 2) := by decide +kernel
theorem dX10_makesWord_130 : decode cX10_makesWord 130 = .ok (.iconst 1, 1) := by decide +kernel
theorem dX10_makesWord_131 : decode cX10_makesWord 131 = .ok (.isub, 1) := by decide +kernel
theorem dX10_makesWord_132 : decode cX10_makesWord 132 = .ok (.aload_n 0, 1) := by decide +kernel
theorem dX10_makesWord_133 : decode cX10_makesWord 133 = .ok (.getfield 25, 3) := by decide +kernel
theorem dX10_makesWord_136 : decode cX10_makesWord 136 = .ok (.iconst 1, 1) := by decide +kernel
theorem dX10_makesWord_137 : decode cX10_makesWord 137 = .ok (.iaload, 1) := by decide +kernel
theorem dX10_makesWord_138 : decode cX10_makesWord 138 = .ok (.invokevirtual 66, 3) := by decide +kernel
theorem dX10_makesWord_141 : decode cX10_makesWord 141 = .ok (.goto 4, 3) := by decide +kernel
theorem dX10_makesWord_144 : decode cX10_makesWord 144 = .ok (.lconst 0, 1) := by decide +kernel
theorem dX10_makesWord_145 : decode cX10_makesWord 145 = .ok (.lstore 9, 2) := by decide +kernel
theorem dX10_makesWord_147 : decode cX10_makesWord 147 = .ok (.lload_n 3, 1) := by decide +kernel
theorem dX10_makesWord_148 : decode cX10_makesWord 148 = .ok (.lload 9, 2) := by decide +kernel
theorem dX10_makesWord_150 : decode cX10_makesWord 150 = .ok (.lcmp, 1) := by decide +kernel
theorem dX10_makesWord_151 : decode cX10_makesWord 151 = .ok (.ifCond .lt 7, 3) := by decide +kernel
theorem dX10_makesWord_154 : decode cX10_makesWord 154 = .ok (.iconst 1, 1) := by decide +kernel
theorem dX10_makesWord_155 : decode cX10_makesWord 155 = .ok (.goto 4, 3) := by decide +kernel
theorem dX10_makesWord_158 : decode cX10_makesWord 158 = .ok (.iconst 0, 1) := by decide +kernel
theorem dX10_makesWord_159 : decode cX10_makesWord 159 = .ok (.istore 11, 2) := by decide +kernel
theorem dX10_makesWord_161 : decode cX10_makesWord 161 = .ok (.goto (-116), 3) := by decide +kernel
theorem dX10_makesWord_164 : decode cX10_makesWord 164 = .ok (.aload_n 0, 1) := by decide +kernel
theorem dX10_makesWord_165 : decode cX10_makesWord 165 = .ok (.getfield 32, 3) := by decide +kernel
theorem dX10_makesWord_168 : decode cX10_makesWord 168 = .ok (.iload 6, 2) := by decide +kernel
theorem dX10_makesWord_170 : decode cX10_makesWord 170 = .ok (.iload 8, 2) := by decide +kernel
theorem dX10_makesWord_172 : decode cX10_makesWord 172 = .ok (.iastore, 1) := by decide +kernel
theorem dX10_makesWord_173 : decode cX10_makesWord 173 = .ok (.iload 8, 2) := by decide +kernel
theorem dX10_makesWord_175 : decode cX10_makesWord 175 = .ok (.iconst 2, 1) := by decide +kernel
theorem dX10_makesWord_176 : decode cX10_makesWord 176 = .ok (.irem, 1) := by decide +kernel
theorem dX10_makesWord_177 : decode cX10_makesWord 177 = .ok (.ifCond .ne 18, 3) := by decide +kernel
theorem dX10_makesWord_180 : decode cX10_makesWord 180 = .ok (.aload_n 0, 1) := by decide +kernel
theorem dX10_makesWord_181 : decode cX10_makesWord 181 = .ok (.getfield 35, 3) := by decide +kernel
theorem dX10_makesWord_184 : decode cX10_makesWord 184 = .ok (.iload 5, 2) := by decide +kernel
theorem dX10_makesWord_186 : decode cX10_makesWord 186 = .ok (.iload 8, 2) := by decide +kernel
theorem dX10_makesWord_188 : decode cX10_makesWord 188 = .ok (.iastore, 1) := by decide +kernel
theorem dX10_makesWord_189 : decode cX10_makesWord 189 = .ok (.iinc 5 1, 3) := by decide +kernel
theorem dX10_makesWord_192 : decode cX10_makesWord 192 = .ok (.goto 6, 3) := by decide +kernel
theorem dX10_makesWord_195 : decode cX10_makesWord 195 = .ok (.iinc 5 (-1), 3) := by decide +kernel
theorem dX10_makesWord_198 : decode cX10_makesWord 198 = .ok (.iinc 6 1, 3) := by decide +kernel
theorem dX10_makesWord_201 : decode cX10_makesWord 201 = .ok (.goto (-193), 3) := by decide +kernel
theorem dX10_makesWord_204 : decode cX10_makesWord 204 = .ok (.return_, 1) := by decide +kernel
theorem dX10_makesTree_0 : decode cX10_makesTree 0 = .ok (.iconst 1, 1) := by decide +kernel
theorem dX10_makesTree_1 : decode cX10_makesTree 1 = .ok (.istore_n 3, 1) := by decide +kernel
theorem dX10_makesTree_2 : decode cX10_makesTree 2 = .ok (.aload_n 0, 1) := by decide +kernel
theorem dX10_makesTree_3 : decode cX10_makesTree 3 = .ok (.getfield 35, 3) := by decide +kernel
theorem dX10_makesTree_6 : decode cX10_makesTree 6 = .ok (.iconst 0, 1) := by decide +kernel
theorem dX10_makesTree_7 : decode cX10_makesTree 7 = .ok (.aload_n 0, 1) := by decide +kernel
theorem dX10_makesTree_8 : decode cX10_makesTree 8 = .ok (.getfield 25, 3) := by decide +kernel
theorem dX10_makesTree_11 : decode cX10_makesTree 11 = .ok (.iconst 0, 1) := by decide +kernel
theorem dX10_makesTree_12 : decode cX10_makesTree 12 = .ok (.iaload, 1) := by decide +kernel
theorem dX10_makesTree_13 : decode cX10_makesTree 13 = .ok (.iastore, 1) := by decide +kernel
theorem dX10_makesTree_14 : decode cX10_makesTree 14 = .ok (.aload_n 0, 1) := by decide +kernel
theorem dX10_makesTree_15 : decode cX10_makesTree 15 = .ok (.getfield 41, 3) := by decide +kernel
theorem dX10_makesTree_18 : decode cX10_makesTree 18 = .ok (.iconst 0, 1) := by decide +kernel
theorem dX10_makesTree_19 : decode cX10_makesTree 19 = .ok (.lload_n 1, 1) := by decide +kernel
theorem dX10_makesTree_20 : decode cX10_makesTree 20 = .ok (.lastore, 1) := by decide +kernel
theorem dX10_makesTree_21 : decode cX10_makesTree 21 = .ok (.iconst 0, 1) := by decide +kernel
theorem dX10_makesTree_22 : decode cX10_makesTree 22 = .ok (.istore 4, 2) := by decide +kernel
theorem dX10_makesTree_24 : decode cX10_makesTree 24 = .ok (.iload 4, 2) := by decide +kernel
theorem dX10_makesTree_26 : decode cX10_makesTree 26 = .ok (.aload_n 0, 1) := by decide +kernel
theorem dX10_makesTree_27 : decode cX10_makesTree 27 = .ok (.getfield 25, 3) := by decide +kernel
theorem dX10_makesTree_30 : decode cX10_makesTree 30 = .ok (.iconst 0, 1) := by decide +kernel
theorem dX10_makesTree_31 : decode cX10_makesTree 31 = .ok (.iaload, 1) := by decide +kernel
theorem dX10_makesTree_32 : decode cX10_makesTree 32 = .ok (.if_icmp .ge 175, 3) := by decide +kernel
theorem dX10_makesTree_35 : decode cX10_makesTree 35 = .ok (.iinc 3 (-1), 3) := by decide +kernel
theorem dX10_makesTree_38 : decode cX10_makesTree 38 = .ok (.aload_n 0, 1) := by decide +kernel
theorem dX10_makesTree_39 : decode cX10_makesTree 39 = .ok (.getfield 35, 3) := by decide +kernel
theorem dX10_makesTree_42 : decode cX10_makesTree 42 = .ok (.iload_n 3, 1) := by decide +kernel
theorem dX10_makesTree_43 : decode cX10_makesTree 43 = .ok (.iaload, 1) := by decide +kernel
theorem dX10_makesTree_44 : decode cX10_makesTree 44 = .ok (.istore 5, 2) := by decide +kernel
theorem dX10_makesTree_46 : decode cX10_makesTree 46 = .ok (.aload_n 0, 1) := by decide +kernel
theorem dX10_makesTree_47 : decode cX10_makesTree 47 = .ok (.getfield 41, 3) := by decide +kernel
theorem dX10_makesTree_50 : decode cX10_makesTree 50 = .ok (.iload_n 3, 1) := by decide +kernel
theorem dX10_makesTree_51 : decode cX10_makesTree 51 = .ok (.laload, 1) := by decide +kernel
theorem dX10_makesTree_52 : decode cX10_makesTree 52 = .ok (.lstore 6, 2) := by decide +kernel
theorem dX10_makesTree_54 : decode cX10_makesTree 54 = .ok (.iconst 0, 1) := by decide +kernel
theorem dX10_makesTree_55 : decode cX10_makesTree 55 = .ok (.istore 8, 2) := by decide +kernel
theorem dX10_makesTree_57 : decode cX10_makesTree 57 = .ok (.lload 6, 2) := by decide +kernel
theorem dX10_makesTree_59 : decode cX10_makesTree 59 = .ok (.aload_n 0, 1) := by decide +kernel
theorem dX10_makesTree_60 : decode cX10_makesTree 60 = .ok (.getfield 16, 3) := by decide +kernel
theorem dX10_makesTree_63 : decode cX10_makesTree 63 = .ok (.iload 8, 2) := by decide +kernel
theorem dX10_makesTree_65 : decode cX10_makesTree 65 = .ok (.laload, 1) := by decide +kernel
theorem dX10_makesTree_66 : decode cX10_makesTree 66 = .ok (.aload_n 0, 1) := by decide +kernel
theorem dX10_makesTree_67 : decode cX10_makesTree 67 = .ok (.getfield 16, 3) := by decide +kernel
theorem dX10_makesTree_70 : decode cX10_makesTree 70 = .ok (.iload 5, 2) := by decide +kernel
theorem dX10_makesTree_72 : decode cX10_makesTree 72 = .ok (.iconst 1, 1) := by decide +kernel
theorem dX10_makesTree_73 : decode cX10_makesTree 73 = .ok (.isub, 1) := by decide +kernel
theorem dX10_makesTree_74 : decode cX10_makesTree 74 = .ok (.iload 8, 2) := by decide +kernel
theorem dX10_makesTree_76 : decode cX10_makesTree 76 = .ok (.isub, 1) := by decide +kernel
theorem dX10_makesTree_77 : decode cX10_makesTree 77 = .ok (.laload, 1) := by decide +kernel
theorem dX10_makesTree_78 : decode cX10_makesTree 78 = .ok (.lmul, 1) := by decide +kernel
theorem dX10_makesTree_79 : decode cX10_makesTree 79 = .ok (.lcmp, 1) := by decide +kernel
theorem dX10_makesTree_80 : decode cX10_makesTree 80 = .ok (.ifCond .lt 34, 3) := by decide +kernel
theorem dX10_makesTree_83 : decode cX10_makesTree 83 = .ok (.lload 6, 2) := by decide +kernel
theorem dX10_makesTree_85 : decode cX10_makesTree 85 = .ok (.aload_n 0, 1) := by decide +kernel
theorem dX10_makesTree_86 : decode cX10_makesTree 86 = .ok (.getfield 16, 3) := by decide +kernel
theorem dX10_makesTree_89 : decode cX10_makesTree 89 = .ok (.iload 8, 2) := by decide +kernel
theorem dX10_makesTree_91 : decode cX10_makesTree 91 = .ok (.laload, 1) := by decide +kernel
theorem dX10_makesTree_92 : decode cX10_makesTree 92 = .ok (.aload_n 0, 1) := by decide +kernel
theorem dX10_makesTree_93 : decode cX10_makesTree 93 = .ok (.getfield 16, 3) := by decide +kernel
theorem dX10_makesTree_96 : decode cX10_makesTree 96 = .ok (.iload 5, 2) := by decide +kernel
theorem dX10_makesTree_98 : decode cX10_makesTree 98 = .ok (.iconst 1, 1) := by decide +kernel
theorem dX10_makesTree_99 : decode cX10_makesTree 99 = .ok (.isub, 1) := by decide +kernel
theorem dX10_makesTree_100 : decode cX10_makesTree 100 = .ok (.iload 8, 2) := by decide +kernel
theorem dX10_makesTree_102 : decode cX10_makesTree 102 = .ok (.isub, 1) := by decide +kernel
theorem dX10_makesTree_103 : decode cX10_makesTree 103 = .ok (.laload, 1) := by decide +kernel
theorem dX10_makesTree_104 : decode cX10_makesTree 104 = .ok (.lmul, 1) := by decide +kernel
theorem dX10_makesTree_105 : decode cX10_makesTree 105 = .ok (.lsub, 1) := by decide +kernel
theorem dX10_makesTree_106 : decode cX10_makesTree 106 = .ok (.lstore 6, 2) := by decide +kernel
theorem dX10_makesTree_108 : decode cX10_makesTree 108 = .ok (.iinc 8 1, 3) := by decide +kernel
theorem dX10_makesTree_111 : decode cX10_makesTree 111 = .ok (.goto (-54), 3) := by decide +kernel
theorem dX10_makesTree_114 : decode cX10_makesTree 114 = .ok (.aload_n 0, 1) := by decide +kernel
theorem dX10_makesTree_115 : decode cX10_makesTree 115 = .ok (.getfield 32, 3) := by decide +kernel
theorem dX10_makesTree_118 : decode cX10_makesTree 118 = .ok (.iload 4, 2) := by decide +kernel
theorem dX10_makesTree_120 : decode cX10_makesTree 120 = .ok (.iload 8, 2) := by decide +kernel
theorem dX10_makesTree_122 : decode cX10_makesTree 122 = .ok (.iastore, 1) := by decide +kernel
theorem dX10_makesTree_123 : decode cX10_makesTree 123 = .ok (.aload_n 0, 1) := by decide +kernel
theorem dX10_makesTree_124 : decode cX10_makesTree 124 = .ok (.getfield 16, 3) := by decide +kernel
theorem dX10_makesTree_127 : decode cX10_makesTree 127 = .ok (.iload 5, 2) := by decide +kernel
theorem dX10_makesTree_129 : decode cX10_makesTree 129 = .ok (.iconst 1, 1) := by decide +kernel
theorem dX10_makesTree_130 : decode cX10_makesTree 130 = .ok (.isub, 1) := by decide +kernel
theorem dX10_makesTree_131 : decode cX10_makesTree 131 = .ok (.iload 8, 2) := by decide +kernel
theorem dX10_makesTree_133 : decode cX10_makesTree 133 = .ok (.isub, 1) := by decide +kernel
theorem dX10_makesTree_134 : decode cX10_makesTree 134 = .ok (.laload, 1) := by decide +kernel
theorem dX10_makesTree_135 : decode cX10_makesTree 135 = .ok (.lstore 9, 2) := by decide +kernel
theorem dX10_makesTree_137 : decode cX10_makesTree 137 = .ok (.iload 5, 2) := by decide +kernel
theorem dX10_makesTree_139 : decode cX10_makesTree 139 = .ok (.iconst 1, 1) := by decide +kernel
theorem dX10_makesTree_140 : decode cX10_makesTree 140 = .ok (.isub, 1) := by decide +kernel
theorem dX10_makesTree_141 : decode cX10_makesTree 141 = .ok (.iload 8, 2) := by decide +kernel
theorem dX10_makesTree_143 : decode cX10_makesTree 143 = .ok (.isub, 1) := by decide +kernel
theorem dX10_makesTree_144 : decode cX10_makesTree 144 = .ok (.ifCond .le 30, 3) := by decide +kernel
theorem dX10_makesTree_147 : decode cX10_makesTree 147 = .ok (.aload_n 0, 1) := by decide +kernel
theorem dX10_makesTree_148 : decode cX10_makesTree 148 = .ok (.getfield 35, 3) := by decide +kernel
theorem dX10_makesTree_151 : decode cX10_makesTree 151 = .ok (.iload_n 3, 1) := by decide +kernel
theorem dX10_makesTree_152 : decode cX10_makesTree 152 = .ok (.iload 5, 2) := by decide +kernel
theorem dX10_makesTree_154 : decode cX10_makesTree 154 = .ok (.iconst 1, 1) := by decide +kernel
theorem dX10_makesTree_155 : decode cX10_makesTree 155 = .ok (.isub, 1) := by decide +kernel
theorem dX10_makesTree_156 : decode cX10_makesTree 156 = .ok (.iload 8, 2) := by decide +kernel
theorem dX10_makesTree_158 : decode cX10_makesTree 158 = .ok (.isub, 1) := by decide +kernel
theorem dX10_makesTree_159 : decode cX10_makesTree 159 = .ok (.iastore, 1) := by decide +kernel
theorem dX10_makesTree_160 : decode cX10_makesTree 160 = .ok (.aload_n 0, 1) := by decide +kernel
theorem dX10_makesTree_161 : decode cX10_makesTree 161 = .ok (.getfield 41, 3) := by decide +kernel
