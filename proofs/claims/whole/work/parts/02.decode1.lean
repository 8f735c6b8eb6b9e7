theorem dX0_init_0 : decode cX0_init 0 = .ok (.aload_n 0, 1) := by decide +kernel
theorem dX0_init_1 : decode cX0_init 1 = .ok (.invokespecial 3, 3) := by decide +kernel
theorem dX0_init_4 : decode cX0_init 4 = .ok (.aload_n 0, 1) := by decide +kernel
theorem dX0_init_5 : decode cX0_init 5 = .ok (.bipush 10, 2) := by decide +kernel
theorem dX0_init_7 : decode cX0_init 7 = .ok (.anewarray 11, 3) := by decide +kernel
theorem dX0_init_10 : decode cX0_init 10 = .ok (.putfield 13, 3) := by decide +kernel
theorem dX0_init_13 : decode cX0_init 13 = .ok (.aload_n 0, 1) := by decide +kernel
theorem dX0_init_14 : decode cX0_init 14 = .ok (.bipush 10, 2) := by decide +kernel
theorem dX0_init_16 : decode cX0_init 16 = .ok (.newarray .long, 2) := by decide +kernel
theorem dX0_init_18 : decode cX0_init 18 = .ok (.putfield 17, 3) := by decide +kernel
theorem dX0_init_21 : decode cX0_init 21 = .ok (.aload_n 0, 1) := by decide +kernel
theorem dX0_init_22 : decode cX0_init 22 = .ok (.lconst 1, 1) := by decide +kernel
theorem dX0_init_23 : decode cX0_init 23 = .ok (.putfield 21, 3) := by decide +kernel
theorem dX0_init_26 : decode cX0_init 26 = .ok (.return_, 1) := by decide +kernel
theorem dX0_hasRoomFor_0 : decode cX0_hasRoomFor 0 = .ok (.aload_n 0, 1) := by decide +kernel
theorem dX0_hasRoomFor_1 : decode cX0_hasRoomFor 1 = .ok (.getfield 25, 3) := by decide +kernel
theorem dX0_hasRoomFor_4 : decode cX0_hasRoomFor 4 = .ok (.bipush 10, 2) := by decide +kernel
theorem dX0_hasRoomFor_6 : decode cX0_hasRoomFor 6 = .ok (.if_icmp .ge 22, 3) := by decide +kernel
theorem dX0_hasRoomFor_9 : decode cX0_hasRoomFor 9 = .ok (.aload_n 0, 1) := by decide +kernel
theorem dX0_hasRoomFor_10 : decode cX0_hasRoomFor 10 = .ok (.getfield 21, 3) := by decide +kernel
theorem dX0_hasRoomFor_13 : decode cX0_hasRoomFor 13 = .ok (.ldc2_w 29, 3) := by decide +kernel
theorem dX0_hasRoomFor_16 : decode cX0_hasRoomFor 16 = .ok (.lload_n 1, 1) := by decide +kernel
theorem dX0_hasRoomFor_17 : decode cX0_hasRoomFor 17 = .ok (.invokestatic 31, 3) := by decide +kernel
theorem dX0_hasRoomFor_20 : decode cX0_hasRoomFor 20 = .ok (.lcmp, 1) := by decide +kernel
theorem dX0_hasRoomFor_21 : decode cX0_hasRoomFor 21 = .ok (.ifCond .gt 7, 3) := by decide +kernel
theorem dX0_hasRoomFor_24 : decode cX0_hasRoomFor 24 = .ok (.iconst 1, 1) := by decide +kernel
theorem dX0_hasRoomFor_25 : decode cX0_hasRoomFor 25 = .ok (.goto 4, 3) := by decide +kernel
theorem dX0_hasRoomFor_28 : decode cX0_hasRoomFor 28 = .ok (.iconst 0, 1) := by decide +kernel
theorem dX0_hasRoomFor_29 : decode cX0_hasRoomFor 29 = .ok (.ireturn, 1) := by decide +kernel
theorem dX0_append_0 : decode cX0_append 0 = .ok (.aload_n 0, 1) := by decide +kernel
theorem dX0_append_1 : decode cX0_append 1 = .ok (.getfield 25, 3) := by decide +kernel
theorem dX0_append_4 : decode cX0_append 4 = .ok (.istore 4, 2) := by decide +kernel
theorem dX0_append_6 : decode cX0_append 6 = .ok (.aload_n 0, 1) := by decide +kernel
theorem dX0_append_7 : decode cX0_append 7 = .ok (.iload 4, 2) := by decide +kernel
theorem dX0_append_9 : decode cX0_append 9 = .ok (.aload_n 1, 1) := by decide +kernel
theorem dX0_append_10 : decode cX0_append 10 = .ok (.lload_n 2, 1) := by decide +kernel
theorem dX0_append_11 : decode cX0_append 11 = .ok (.invokevirtual 35, 3) := by decide +kernel
theorem dX0_append_14 : decode cX0_append 14 = .ok (.aload_n 0, 1) := by decide +kernel
theorem dX0_append_15 : decode cX0_append 15 = .ok (.dup, 1) := by decide +kernel
theorem dX0_append_16 : decode cX0_append 16 = .ok (.getfield 21, 3) := by decide +kernel
theorem dX0_append_19 : decode cX0_append 19 = .ok (.aload_n 1, 1) := by decide +kernel
theorem dX0_append_20 : decode cX0_append 20 = .ok (.getfield 39, 3) := by decide +kernel
theorem dX0_append_23 : decode cX0_append 23 = .ok (.lmul, 1) := by decide +kernel
theorem dX0_append_24 : decode cX0_append 24 = .ok (.putfield 21, 3) := by decide +kernel
theorem dX0_append_27 : decode cX0_append 27 = .ok (.aload_n 0, 1) := by decide +kernel
theorem dX0_append_28 : decode cX0_append 28 = .ok (.dup, 1) := by decide +kernel
theorem dX0_append_29 : decode cX0_append 29 = .ok (.getfield 25, 3) := by decide +kernel
theorem dX0_append_32 : decode cX0_append 32 = .ok (.iconst 1, 1) := by decide +kernel
theorem dX0_append_33 : decode cX0_append 33 = .ok (.iadd, 1) := by decide +kernel
theorem dX0_append_34 : decode cX0_append 34 = .ok (.putfield 25, 3) := by decide +kernel
theorem dX0_append_37 : decode cX0_append 37 = .ok (.iload 4, 2) := by decide +kernel
theorem dX0_append_39 : decode cX0_append 39 = .ok (.ireturn, 1) := by decide +kernel
theorem dX0_keep_0 : decode cX0_keep 0 = .ok (.iload_n 1, 1) := by decide +kernel
theorem dX0_keep_1 : decode cX0_keep 1 = .ok (.ifCond .lt 28, 3) := by decide +kernel
theorem dX0_keep_4 : decode cX0_keep 4 = .ok (.iload_n 1, 1) := by decide +kernel
theorem dX0_keep_5 : decode cX0_keep 5 = .ok (.aload_n 0, 1) := by decide +kernel
theorem dX0_keep_6 : decode cX0_keep 6 = .ok (.getfield 13, 3) := by decide +kernel
theorem dX0_keep_9 : decode cX0_keep 9 = .ok (.arraylength, 1) := by decide +kernel
theorem dX0_keep_10 : decode cX0_keep 10 = .ok (.if_icmp .ge 19, 3) := by decide +kernel
theorem dX0_keep_13 : decode cX0_keep 13 = .ok (.aload_n 0, 1) := by decide +kernel
theorem dX0_keep_14 : decode cX0_keep 14 = .ok (.getfield 13, 3) := by decide +kernel
theorem dX0_keep_17 : decode cX0_keep 17 = .ok (.iload_n 1, 1) := by decide +kernel
theorem dX0_keep_18 : decode cX0_keep 18 = .ok (.aload_n 2, 1) := by decide +kernel
theorem dX0_keep_19 : decode cX0_keep 19 = .ok (.aastore, 1) := by decide +kernel
theorem dX0_keep_20 : decode cX0_keep 20 = .ok (.aload_n 0, 1) := by decide +kernel
theorem dX0_keep_21 : decode cX0_keep 21 = .ok (.getfield 17, 3) := by decide +kernel
theorem dX0_keep_24 : decode cX0_keep 24 = .ok (.iload_n 1, 1) := by decide +kernel
theorem dX0_keep_25 : decode cX0_keep 25 = .ok (.lload_n 3, 1) := by decide +kernel
theorem dX0_keep_26 : decode cX0_keep 26 = .ok (.invokestatic 42, 3) := by decide +kernel
theorem dX0_keep_29 : decode cX0_keep 29 = .ok (.return_, 1) := by decide +kernel
theorem dX0_familyAt_0 : decode cX0_familyAt 0 = .ok (.iload_n 1, 1) := by decide +kernel
theorem dX0_familyAt_1 : decode cX0_familyAt 1 = .ok (.ifCond .lt 29, 3) := by decide +kernel
theorem dX0_familyAt_4 : decode cX0_familyAt 4 = .ok (.iload_n 1, 1) := by decide +kernel
theorem dX0_familyAt_5 : decode cX0_familyAt 5 = .ok (.aload_n 0, 1) := by decide +kernel
theorem dX0_familyAt_6 : decode cX0_familyAt 6 = .ok (.getfield 25, 3) := by decide +kernel
theorem dX0_familyAt_9 : decode cX0_familyAt 9 = .ok (.if_icmp .ge 21, 3) := by decide +kernel
theorem dX0_familyAt_12 : decode cX0_familyAt 12 = .ok (.iload_n 1, 1) := by decide +kernel
theorem dX0_familyAt_13 : decode cX0_familyAt 13 = .ok (.aload_n 0, 1) := by decide +kernel
theorem dX0_familyAt_14 : decode cX0_familyAt 14 = .ok (.getfield 13, 3) := by decide +kernel
theorem dX0_familyAt_17 : decode cX0_familyAt 17 = .ok (.arraylength, 1) := by decide +kernel
theorem dX0_familyAt_18 : decode cX0_familyAt 18 = .ok (.if_icmp .ge 12, 3) := by decide +kernel
theorem dX0_familyAt_21 : decode cX0_familyAt 21 = .ok (.aload_n 0, 1) := by decide +kernel
theorem dX0_familyAt_22 : decode cX0_familyAt 22 = .ok (.getfield 13, 3) := by decide +kernel
theorem dX0_familyAt_25 : decode cX0_familyAt 25 = .ok (.iload_n 1, 1) := by decide +kernel
theorem dX0_familyAt_26 : decode cX0_familyAt 26 = .ok (.aaload, 1) := by decide +kernel
theorem dX0_familyAt_27 : decode cX0_familyAt 27 = .ok (.goto 4, 3) := by decide +kernel
theorem dX0_familyAt_30 : decode cX0_familyAt 30 = .ok (.aconst_null, 1) := by decide +kernel
theorem dX0_familyAt_31 : decode cX0_familyAt 31 = .ok (.areturn, 1) := by decide +kernel
theorem dX0_placeAt_0 : decode cX0_placeAt 0 = .ok (.aload_n 0, 1) := by decide +kernel
theorem dX0_placeAt_1 : decode cX0_placeAt 1 = .ok (.getfield 17, 3) := by decide +kernel
theorem dX0_placeAt_4 : decode cX0_placeAt 4 = .ok (.iload_n 1, 1) := by decide +kernel
theorem dX0_placeAt_5 : decode cX0_placeAt 5 = .ok (.invokestatic 46, 3) := by decide +kernel
theorem dX0_placeAt_8 : decode cX0_placeAt 8 = .ok (.lreturn, 1) := by decide +kernel
theorem dX0_sizeAt_0 : decode cX0_sizeAt 0 = .ok (.aload_n 0, 1) := by decide +kernel
theorem dX0_sizeAt_1 : decode cX0_sizeAt 1 = .ok (.iload_n 1, 1) := by decide +kernel
theorem dX0_sizeAt_2 : decode cX0_sizeAt 2 = .ok (.invokevirtual 50, 3) := by decide +kernel
theorem dX0_sizeAt_5 : decode cX0_sizeAt 5 = .ok (.astore_n 2, 1) := by decide +kernel
theorem dX0_sizeAt_6 : decode cX0_sizeAt 6 = .ok (.aload_n 2, 1) := by decide +kernel
theorem dX0_sizeAt_7 : decode cX0_sizeAt 7 = .ok (.ifnonnull 7, 3) := by decide +kernel
theorem dX0_sizeAt_10 : decode cX0_sizeAt 10 = .ok (.lconst 1, 1) := by decide +kernel
theorem dX0_sizeAt_11 : decode cX0_sizeAt 11 = .ok (.goto 7, 3) := by decide +kernel
theorem dX0_sizeAt_14 : decode cX0_sizeAt 14 = .ok (.aload_n 2, 1) := by decide +kernel
theorem dX0_sizeAt_15 : decode cX0_sizeAt 15 = .ok (.getfield 39, 3) := by decide +kernel
theorem dX0_sizeAt_18 : decode cX0_sizeAt 18 = .ok (.lreturn, 1) := by decide +kernel
theorem dX0_dropAll_0 : decode cX0_dropAll 0 = .ok (.aload_n 0, 1) := by decide +kernel
theorem dX0_dropAll_1 : decode cX0_dropAll 1 = .ok (.getfield 25, 3) := by decide +kernel
theorem dX0_dropAll_4 : decode cX0_dropAll 4 = .ok (.istore_n 1, 1) := by decide +kernel
theorem dX0_dropAll_5 : decode cX0_dropAll 5 = .ok (.aload_n 0, 1) := by decide +kernel
theorem dX0_dropAll_6 : decode cX0_dropAll 6 = .ok (.iconst 0, 1) := by decide +kernel
theorem dX0_dropAll_7 : decode cX0_dropAll 7 = .ok (.putfield 25, 3) := by decide +kernel
theorem dX0_dropAll_10 : decode cX0_dropAll 10 = .ok (.aload_n 0, 1) := by decide +kernel
theorem dX0_dropAll_11 : decode cX0_dropAll 11 = .ok (.lconst 1, 1) := by decide +kernel
theorem dX0_dropAll_12 : decode cX0_dropAll 12 = .ok (.putfield 21, 3) := by decide +kernel
theorem dX0_dropAll_15 : decode cX0_dropAll 15 = .ok (.iload_n 1, 1) := by decide +kernel
theorem dX0_dropAll_16 : decode cX0_dropAll 16 = .ok (.ireturn, 1) := by decide +kernel
theorem dX0_packed_0 : decode cX0_packed 0 = .ok (.lconst 0, 1) := by decide +kernel
theorem dX0_packed_1 : decode cX0_packed 1 = .ok (.lstore_n 1, 1) := by decide +kernel
theorem dX0_packed_2 : decode cX0_packed 2 = .ok (.iconst 0, 1) := by decide +kernel
theorem dX0_packed_3 : decode cX0_packed 3 = .ok (.istore_n 3, 1) := by decide +kernel
theorem dX0_packed_4 : decode cX0_packed 4 = .ok (.iload_n 3, 1) := by decide +kernel
theorem dX0_packed_5 : decode cX0_packed 5 = .ok (.aload_n 0, 1) := by decide +kernel
theorem dX0_packed_6 : decode cX0_packed 6 = .ok (.getfield 25, 3) := by decide +kernel
theorem dX0_packed_9 : decode cX0_packed 9 = .ok (.if_icmp .ge 23, 3) := by decide +kernel
theorem dX0_packed_12 : decode cX0_packed 12 = .ok (.lload_n 1, 1) := by decide +kernel
theorem dX0_packed_13 : decode cX0_packed 13 = .ok (.aload_n 0, 1) := by decide +kernel
theorem dX0_packed_14 : decode cX0_packed 14 = .ok (.iload_n 3, 1) := by decide +kernel
theorem dX0_packed_15 : decode cX0_packed 15 = .ok (.invokevirtual 54, 3) := by decide +kernel
theorem dX0_packed_18 : decode cX0_packed 18 = .ok (.lmul, 1) := by decide +kernel
theorem dX0_packed_19 : decode cX0_packed 19 = .ok (.aload_n 0, 1) := by decide +kernel
theorem dX0_packed_20 : decode cX0_packed 20 = .ok (.iload_n 3, 1) := by decide +kernel
theorem dX0_packed_21 : decode cX0_packed 21 = .ok (.invokevirtual 58, 3) := by decide +kernel
theorem dX0_packed_24 : decode cX0_packed 24 = .ok (.ladd, 1) := by decide +kernel
theorem dX0_packed_25 : decode cX0_packed 25 = .ok (.lstore_n 1, 1) := by decide +kernel
theorem dX0_packed_26 : decode cX0_packed 26 = .ok (.iinc 3 1, 3) := by decide +kernel
theorem dX0_packed_29 : decode cX0_packed 29 = .ok (.goto (-25), 3) := by decide +kernel
theorem dX0_packed_32 : decode cX0_packed 32 = .ok (.lload_n 1, 1) := by decide +kernel
theorem dX0_packed_33 : decode cX0_packed 33 = .ok (.lreturn, 1) := by decide +kernel
theorem dX0_unpack_0 : decode cX0_unpack 0 = .ok (.lload_n 1, 1) := by decide +kernel
theorem dX0_unpack_1 : decode cX0_unpack 1 = .ok (.lstore_n 3, 1) := by decide +kernel
theorem dX0_unpack_2 : decode cX0_unpack 2 = .ok (.iconst 0, 1) := by decide +kernel
theorem dX0_unpack_3 : decode cX0_unpack 3 = .ok (.istore 5, 2) := by decide +kernel
theorem dX0_unpack_5 : decode cX0_unpack 5 = .ok (.aload_n 0, 1) := by decide +kernel
theorem dX0_unpack_6 : decode cX0_unpack 6 = .ok (.getfield 25, 3) := by decide +kernel
theorem dX0_unpack_9 : decode cX0_unpack 9 = .ok (.iconst 1, 1) := by decide +kernel
theorem dX0_unpack_10 : decode cX0_unpack 10 = .ok (.isub, 1) := by decide +kernel
theorem dX0_unpack_11 : decode cX0_unpack 11 = .ok (.istore 6, 2) := by decide +kernel
theorem dX0_unpack_13 : decode cX0_unpack 13 = .ok (.iload 6, 2) := by decide +kernel
theorem dX0_unpack_15 : decode cX0_unpack 15 = .ok (.ifCond .lt 58, 3) := by decide +kernel
theorem dX0_unpack_18 : decode cX0_unpack 18 = .ok (.lload_n 3, 1) := by decide +kernel
theorem dX0_unpack_19 : decode cX0_unpack 19 = .ok (.aload_n 0, 1) := by decide +kernel
theorem dX0_unpack_20 : decode cX0_unpack 20 = .ok (.iload 6, 2) := by decide +kernel
theorem dX0_unpack_22 : decode cX0_unpack 22 = .ok (.invokevirtual 54, 3) := by decide +kernel
theorem dX0_unpack_25 : decode cX0_unpack 25 = .ok (.invokestatic 61, 3) := by decide +kernel
theorem dX0_unpack_28 : decode cX0_unpack 28 = .ok (.lstore 7, 2) := by decide +kernel
theorem dX0_unpack_30 : decode cX0_unpack 30 = .ok (.lload_n 3, 1) := by decide +kernel
theorem dX0_unpack_31 : decode cX0_unpack 31 = .ok (.aload_n 0, 1) := by decide +kernel
theorem dX0_unpack_32 : decode cX0_unpack 32 = .ok (.iload 6, 2) := by decide +kernel
theorem dX0_unpack_34 : decode cX0_unpack 34 = .ok (.invokevirtual 54, 3) := by decide +kernel
theorem dX0_unpack_37 : decode cX0_unpack 37 = .ok (.invokestatic 31, 3) := by decide +kernel
theorem dX0_unpack_40 : decode cX0_unpack 40 = .ok (.lstore_n 3, 1) := by decide +kernel
theorem dX0_unpack_41 : decode cX0_unpack 41 = .ok (.lload 7, 2) := by decide +kernel
theorem dX0_unpack_43 : decode cX0_unpack 43 = .ok (.aload_n 0, 1) := by decide +kernel
theorem dX0_unpack_44 : decode cX0_unpack 44 = .ok (.iload 6, 2) := by decide +kernel
theorem dX0_unpack_46 : decode cX0_unpack 46 = .ok (.invokevirtual 58, 3) := by decide +kernel
theorem dX0_unpack_49 : decode cX0_unpack 49 = .ok (.lcmp, 1) := by decide +kernel
theorem dX0_unpack_50 : decode cX0_unpack 50 = .ok (.ifCond .eq 17, 3) := by decide +kernel
theorem dX0_unpack_53 : decode cX0_unpack 53 = .ok (.aload_n 0, 1) := by decide +kernel
theorem dX0_unpack_54 : decode cX0_unpack 54 = .ok (.getfield 17, 3) := by decide +kernel
theorem dX0_unpack_57 : decode cX0_unpack 57 = .ok (.iload 6, 2) := by decide +kernel
theorem dX0_unpack_59 : decode cX0_unpack 59 = .ok (.lload 7, 2) := by decide +kernel
theorem dX0_unpack_61 : decode cX0_unpack 61 = .ok (.invokestatic 42, 3) := by decide +kernel
theorem dX0_unpack_64 : decode cX0_unpack 64 = .ok (.iinc 5 1, 3) := by decide +kernel
theorem dX0_unpack_67 : decode cX0_unpack 67 = .ok (.iinc 6 (-1), 3) := by decide +kernel
theorem dX0_unpack_70 : decode cX0_unpack 70 = .ok (.goto (-57), 3) := by decide +kernel
theorem dX0_unpack_73 : decode cX0_unpack 73 = .ok (.iload 5, 2) := by decide +kernel
theorem dX0_unpack_75 : decode cX0_unpack 75 = .ok (.ireturn, 1) := by decide +kernel
theorem dX0_arrange_0 : decode cX0_arrange 0 = .ok (.iconst 0, 1) := by decide +kernel
theorem dX0_arrange_1 : decode cX0_arrange 1 = .ok (.istore_n 1, 1) := by decide +kernel
theorem dX0_arrange_2 : decode cX0_arrange 2 = .ok (.iconst 1, 1) := by decide +kernel
theorem dX0_arrange_3 : decode cX0_arrange 3 = .ok (.istore_n 2, 1) := by decide +kernel
theorem dX0_arrange_4 : decode cX0_arrange 4 = .ok (.iload_n 2, 1) := by decide +kernel
theorem dX0_arrange_5 : decode cX0_arrange 5 = .ok (.aload_n 0, 1) := by decide +kernel
theorem dX0_arrange_6 : decode cX0_arrange 6 = .ok (.getfield 25, 3) := by decide +kernel
theorem dX0_arrange_9 : decode cX0_arrange 9 = .ok (.if_icmp .ge 42, 3) := by decide +kernel
theorem dX0_arrange_12 : decode cX0_arrange 12 = .ok (.iload_n 2, 1) := by decide +kernel
theorem dX0_arrange_13 : decode cX0_arrange 13 = .ok (.istore_n 3, 1) := by decide +kernel
theorem dX0_arrange_14 : decode cX0_arrange 14 = .ok (.iload_n 3, 1) := by decide +kernel
theorem dX0_arrange_15 : decode cX0_arrange 15 = .ok (.ifCond .le 30, 3) := by decide +kernel
theorem dX0_arrange_18 : decode cX0_arrange 18 = .ok (.aload_n 0, 1) := by decide +kernel
theorem dX0_arrange_19 : decode cX0_arrange 19 = .ok (.iload_n 3, 1) := by decide +kernel
theorem dX0_arrange_20 : decode cX0_arrange 20 = .ok (.iconst 1, 1) := by decide +kernel
theorem dX0_arrange_21 : decode cX0_arrange 21 = .ok (.isub, 1) := by decide +kernel
theorem dX0_arrange_22 : decode cX0_arrange 22 = .ok (.iload_n 3, 1) := by decide +kernel
theorem dX0_arrange_23 : decode cX0_arrange 23 = .ok (.invokevirtual 64, 3) := by decide +kernel
theorem dX0_arrange_26 : decode cX0_arrange 26 = .ok (.ifCond .le 19, 3) := by decide +kernel
theorem dX0_arrange_29 : decode cX0_arrange 29 = .ok (.aload_n 0, 1) := by decide +kernel
theorem dX0_arrange_30 : decode cX0_arrange 30 = .ok (.iload_n 3, 1) := by decide +kernel
theorem dX0_arrange_31 : decode cX0_arrange 31 = .ok (.iconst 1, 1) := by decide +kernel
theorem dX0_arrange_32 : decode cX0_arrange 32 = .ok (.isub, 1) := by decide +kernel
theorem dX0_arrange_33 : decode cX0_arrange 33 = .ok (.iload_n 3, 1) := by decide +kernel
theorem dX0_arrange_34 : decode cX0_arrange 34 = .ok (.invokevirtual 68, 3) := by decide +kernel
theorem dX0_arrange_37 : decode cX0_arrange 37 = .ok (.iconst 1, 1) := by decide +kernel
theorem dX0_arrange_38 : decode cX0_arrange 38 = .ok (.istore_n 1, 1) := by decide +kernel
theorem dX0_arrange_39 : decode cX0_arrange 39 = .ok (.iinc 3 (-1), 3) := by decide +kernel
theorem dX0_arrange_42 : decode cX0_arrange 42 = .ok (.goto (-28), 3) := by decide +kernel
theorem dX0_arrange_45 : decode cX0_arrange 45 = .ok (.iinc 2 1, 3) := by decide +kernel
theorem dX0_arrange_48 : decode cX0_arrange 48 = .ok (.goto (-44), 3) := by decide +kernel
theorem dX0_arrange_51 : decode cX0_arrange 51 = .ok (.iload_n 1, 1) := by decide +kernel
theorem dX0_arrange_52 : decode cX0_arrange 52 = .ok (.ireturn, 1) := by decide +kernel
theorem dX0_exchange_0 : decode cX0_exchange 0 = .ok (.aload_n 0, 1) := by decide +kernel
theorem dX0_exchange_1 : decode cX0_exchange 1 = .ok (.iload_n 1, 1) := by decide +kernel
theorem dX0_exchange_2 : decode cX0_exchange 2 = .ok (.invokevirtual 50, 3) := by decide +kernel
theorem dX0_exchange_5 : decode cX0_exchange 5 = .ok (.astore_n 3, 1) := by decide +kernel
theorem dX0_exchange_6 : decode cX0_exchange 6 = .ok (.aload_n 0, 1) := by decide +kernel
theorem dX0_exchange_7 : decode cX0_exchange 7 = .ok (.iload_n 1, 1) := by decide +kernel
theorem dX0_exchange_8 : decode cX0_exchange 8 = .ok (.invokevirtual 58, 3) := by decide +kernel
theorem dX0_exchange_11 : decode cX0_exchange 11 = .ok (.lstore 4, 2) := by decide +kernel
theorem dX0_exchange_13 : decode cX0_exchange 13 = .ok (.aload_n 0, 1) := by decide +kernel
theorem dX0_exchange_14 : decode cX0_exchange 14 = .ok (.iload_n 1, 1) := by decide +kernel
theorem dX0_exchange_15 : decode cX0_exchange 15 = .ok (.aload_n 0, 1) := by decide +kernel
theorem dX0_exchange_16 : decode cX0_exchange 16 = .ok (.iload_n 2, 1) := by decide +kernel
theorem dX0_exchange_17 : decode cX0_exchange 17 = .ok (.invokevirtual 50, 3) := by decide +kernel
theorem dX0_exchange_20 : decode cX0_exchange 20 = .ok (.aload_n 0, 1) := by decide +kernel
theorem dX0_exchange_21 : decode cX0_exchange 21 = .ok (.iload_n 2, 1) := by decide +kernel
theorem dX0_exchange_22 : decode cX0_exchange 22 = .ok (.invokevirtual 58, 3) := by decide +kernel
theorem dX0_exchange_25 : decode cX0_exchange 25 = .ok (.invokevirtual 35, 3) := by decide +kernel
theorem dX0_exchange_28 : decode cX0_exchange 28 = .ok (.aload_n 0, 1) := by decide +kernel
theorem dX0_exchange_29 : decode cX0_exchange 29 = .ok (.iload_n 2, 1) := by decide +kernel
theorem dX0_exchange_30 : decode cX0_exchange 30 = .ok (.aload_n 3, 1) := by decide +kernel
theorem dX0_exchange_31 : decode cX0_exchange 31 = .ok (.lload 4, 2) := by decide +kernel
theorem dX0_exchange_33 : decode cX0_exchange 33 = .ok (.invokevirtual 35, 3) := by decide +kernel
theorem dX0_exchange_36 : decode cX0_exchange 36 = .ok (.return_, 1) := by decide +kernel
theorem dX0_compareEntries_0 : decode cX0_compareEntries 0 = .ok (.aload_n 0, 1) := by decide +kernel
theorem dX0_compareEntries_1 : decode cX0_compareEntries 1 = .ok (.iload_n 1, 1) := by decide +kernel
theorem dX0_compareEntries_2 : decode cX0_compareEntries 2 = .ok (.invokevirtual 50, 3) := by decide +kernel
theorem dX0_compareEntries_5 : decode cX0_compareEntries 5 = .ok (.astore_n 3, 1) := by decide +kernel
theorem dX0_compareEntries_6 : decode cX0_compareEntries 6 = .ok (.aload_n 0, 1) := by decide +kernel
theorem dX0_compareEntries_7 : decode cX0_compareEntries 7 = .ok (.iload_n 2, 1) := by decide +kernel
theorem dX0_compareEntries_8 : decode cX0_compareEntries 8 = .ok (.invokevirtual 50, 3) := by decide +kernel
theorem dX0_compareEntries_11 : decode cX0_compareEntries 11 = .ok (.astore 4, 2) := by decide +kernel
theorem dX0_compareEntries_13 : decode cX0_compareEntries 13 = .ok (.aload_n 3, 1) := by decide +kernel
theorem dX0_compareEntries_14 : decode cX0_compareEntries 14 = .ok (.ifnull 8, 3) := by decide +kernel
theorem dX0_compareEntries_17 : decode cX0_compareEntries 17 = .ok (.aload 4, 2) := by decide +kernel
theorem dX0_compareEntries_19 : decode cX0_compareEntries 19 = .ok (.ifnonnull 5, 3) := by decide +kernel
theorem dX0_compareEntries_22 : decode cX0_compareEntries 22 = .ok (.iconst 0, 1) := by decide +kernel
theorem dX0_compareEntries_23 : decode cX0_compareEntries 23 = .ok (.ireturn, 1) := by decide +kernel
theorem dX0_compareEntries_24 : decode cX0_compareEntries 24 = .ok (.aload_n 3, 1) := by decide +kernel
theorem dX0_compareEntries_25 : decode cX0_compareEntries 25 = .ok (.getfield 72, 3) := by decide +kernel
theorem dX0_compareEntries_28 : decode cX0_compareEntries 28 = .ok (.aload 4, 2) := by decide +kernel
theorem dX0_compareEntries_30 : decode cX0_compareEntries 30 = .ok (.getfield 72, 3) := by decide +kernel
theorem dX0_compareEntries_33 : decode cX0_compareEntries 33 = .ok (.invokestatic 75, 3) := by decide +kernel
theorem dX0_compareEntries_36 : decode cX0_compareEntries 36 = .ok (.istore 5, 2) := by decide +kernel
theorem dX0_compareEntries_38 : decode cX0_compareEntries 38 = .ok (.iconst 0, 1) := by decide +kernel
theorem dX0_compareEntries_39 : decode cX0_compareEntries 39 = .ok (.istore 6, 2) := by decide +kernel
theorem dX0_compareEntries_41 : decode cX0_compareEntries 41 = .ok (.iload 6, 2) := by decide +kernel
theorem dX0_compareEntries_43 : decode cX0_compareEntries 43 = .ok (.iconst 4, 1) := by decide +kernel
theorem dX0_compareEntries_44 : decode cX0_compareEntries 44 = .ok (.if_icmp .ge 32, 3) := by decide +kernel
theorem dX0_compareEntries_47 : decode cX0_compareEntries 47 = .ok (.iload 5, 2) := by decide +kernel
theorem dX0_compareEntries_49 : decode cX0_compareEntries 49 = .ok (.ifCond .ne 27, 3) := by decide +kernel
theorem dX0_compareEntries_52 : decode cX0_compareEntries 52 = .ok (.aload_n 3, 1) := by decide +kernel
theorem dX0_compareEntries_53 : decode cX0_compareEntries 53 = .ok (.iload 6, 2) := by decide +kernel
theorem dX0_compareEntries_55 : decode cX0_compareEntries 55 = .ok (.invokevirtual 80, 3) := by decide +kernel
theorem dX0_compareEntries_58 : decode cX0_compareEntries 58 = .ok (.aload 4, 2) := by decide +kernel
theorem dX0_compareEntries_60 : decode cX0_compareEntries 60 = .ok (.iload 6, 2) := by decide +kernel
theorem dX0_compareEntries_62 : decode cX0_compareEntries 62 = .ok (.invokevirtual 80, 3) := by decide +kernel
theorem dX0_compareEntries_65 : decode cX0_compareEntries 65 = .ok (.invokestatic 75, 3) := by decide +kernel
theorem dX0_compareEntries_68 : decode cX0_compareEntries 68 = .ok (.istore 5, 2) := by decide +kernel
theorem dX0_compareEntries_70 : decode cX0_compareEntries 70 = .ok (.iinc 6 1, 3) := by decide +kernel
theorem dX0_compareEntries_73 : decode cX0_compareEntries 73 = .ok (.goto (-32), 3) := by decide +kernel
theorem dX0_compareEntries_76 : decode cX0_compareEntries 76 = .ok (.iload 5, 2) := by decide +kernel
theorem dX0_compareEntries_78 : decode cX0_compareEntries 78 = .ok (.ifCond .eq 8, 3) := by decide +kernel
theorem dX0_compareEntries_81 : decode cX0_compareEntries 81 = .ok (.iload 5, 2) := by decide +kernel
theorem dX0_compareEntries_83 : decode cX0_compareEntries 83 = .ok (.goto 16, 3) := by decide +kernel
theorem dX0_compareEntries_86 : decode cX0_compareEntries 86 = .ok (.aload_n 0, 1) := by decide +kernel
theorem dX0_compareEntries_87 : decode cX0_compareEntries 87 = .ok (.iload_n 1, 1) := by decide +kernel
theorem dX0_compareEntries_88 : decode cX0_compareEntries 88 = .ok (.invokevirtual 58, 3) := by decide +kernel
theorem dX0_compareEntries_91 : decode cX0_compareEntries 91 = .ok (.aload_n 0, 1) := by decide +kernel
theorem dX0_compareEntries_92 : decode cX0_compareEntries 92 = .ok (.iload_n 2, 1) := by decide +kernel
theorem dX0_compareEntries_93 : decode cX0_compareEntries 93 = .ok (.invokevirtual 58, 3) := by decide +kernel
theorem dX0_compareEntries_96 : decode cX0_compareEntries 96 = .ok (.invokestatic 84, 3) := by decide +kernel
theorem dX0_compareEntries_99 : decode cX0_compareEntries 99 = .ok (.ireturn, 1) := by decide +kernel
theorem dX1_init_0 : decode cX1_init 0 = .ok (.aload_n 0, 1) := by decide +kernel
theorem dX1_init_1 : decode cX1_init 1 = .ok (.iconst 5, 1) := by decide +kernel
theorem dX1_init_2 : decode cX1_init 2 = .ok (.iload_n 1, 1) := by decide +kernel
theorem dX1_init_3 : decode cX1_init 3 = .ok (.iload_n 2, 1) := by decide +kernel
theorem dX1_init_4 : decode cX1_init 4 = .ok (.iadd, 1) := by decide +kernel
theorem dX1_init_5 : decode cX1_init 5 = .ok (.iload_n 3, 1) := by decide +kernel
theorem dX1_init_6 : decode cX1_init 6 = .ok (.iadd, 1) := by decide +kernel
theorem dX1_init_7 : decode cX1_init 7 = .ok (.iload 4, 2) := by decide +kernel
theorem dX1_init_9 : decode cX1_init 9 = .ok (.iadd, 1) := by decide +kernel
theorem dX1_init_10 : decode cX1_init 10 = .ok (.lload 5, 2) := by decide +kernel
theorem dX1_init_12 : decode cX1_init 12 = .ok (.invokespecial 3, 3) := by decide +kernel
theorem dX1_init_15 : decode cX1_init 15 = .ok (.aload_n 0, 1) := by decide +kernel
theorem dX1_init_16 : decode cX1_init 16 = .ok (.iload_n 1, 1) := by decide +kernel
theorem dX1_init_17 : decode cX1_init 17 = .ok (.putfield 9, 3) := by decide +kernel
theorem dX1_init_20 : decode cX1_init 20 = .ok (.aload_n 0, 1) := by decide +kernel
theorem dX1_init_21 : decode cX1_init 21 = .ok (.iload_n 2, 1) := by decide +kernel
theorem dX1_init_22 : decode cX1_init 22 = .ok (.putfield 15, 3) := by decide +kernel
theorem dX1_init_25 : decode cX1_init 25 = .ok (.aload_n 0, 1) := by decide +kernel
theorem dX1_init_26 : decode cX1_init 26 = .ok (.iload_n 3, 1) := by decide +kernel
theorem dX1_init_27 : decode cX1_init 27 = .ok (.putfield 18, 3) := by decide +kernel
theorem dX1_init_30 : decode cX1_init 30 = .ok (.aload_n 0, 1) := by decide +kernel
theorem dX1_init_31 : decode cX1_init 31 = .ok (.iload 4, 2) := by decide +kernel
theorem dX1_init_33 : decode cX1_init 33 = .ok (.putfield 21, 3) := by decide +kernel
theorem dX1_init_36 : decode cX1_init 36 = .ok (.return_, 1) := by decide +kernel
theorem dX1_setting_0 : decode cX1_setting 0 = .ok (.iload_n 1, 1) := by decide +kernel
theorem dX1_setting_1 : decode cX1_setting 1 = .ok (.tableswitch 51 0 3 #[31, 36, 41, 46], 31) := by decide +kernel
theorem dX1_setting_32 : decode cX1_setting 32 = .ok (.aload_n 0, 1) := by decide +kernel
theorem dX1_setting_33 : decode cX1_setting 33 = .ok (.getfield 9, 3) := by decide +kernel
theorem dX1_setting_36 : decode cX1_setting 36 = .ok (.ireturn, 1) := by decide +kernel
theorem dX1_setting_37 : decode cX1_setting 37 = .ok (.aload_n 0, 1) := by decide +kernel
theorem dX1_setting_38 : decode cX1_setting 38 = .ok (.getfield 15, 3) := by decide +kernel
theorem dX1_setting_41 : decode cX1_setting 41 = .ok (.ireturn, 1) := by decide +kernel
theorem dX1_setting_42 : decode cX1_setting 42 = .ok (.aload_n 0, 1) := by decide +kernel
theorem dX1_setting_43 : decode cX1_setting 43 = .ok (.getfield 18, 3) := by decide +kernel
theorem dX1_setting_46 : decode cX1_setting 46 = .ok (.ireturn, 1) := by decide +kernel
theorem dX1_setting_47 : decode cX1_setting 47 = .ok (.aload_n 0, 1) := by decide +kernel
theorem dX1_setting_48 : decode cX1_setting 48 = .ok (.getfield 21, 3) := by decide +kernel
theorem dX1_setting_51 : decode cX1_setting 51 = .ok (.ireturn, 1) := by decide +kernel
theorem dX1_setting_52 : decode cX1_setting 52 = .ok (.iconst 0, 1) := by decide +kernel
theorem dX1_setting_53 : decode cX1_setting 53 = .ok (.ireturn, 1) := by decide +kernel
theorem dX1_layOutLetters_0 : decode cX1_layOutLetters 0 = .ok (.iconst 0, 1) := by decide +kernel
theorem dX1_layOutLetters_1 : decode cX1_layOutLetters 1 = .ok (.istore_n 2, 1) := by decide +kernel
theorem dX1_layOutLetters_2 : decode cX1_layOutLetters 2 = .ok (.iload_n 2, 1) := by decide +kernel
theorem dX1_layOutLetters_3 : decode cX1_layOutLetters 3 = .ok (.iconst 4, 1) := by decide +kernel
theorem dX1_layOutLetters_4 : decode cX1_layOutLetters 4 = .ok (.if_icmp .ge 19, 3) := by decide +kernel
theorem dX1_layOutLetters_7 : decode cX1_layOutLetters 7 = .ok (.aload_n 1, 1) := by decide +kernel
theorem dX1_layOutLetters_8 : decode cX1_layOutLetters 8 = .ok (.iload_n 2, 1) := by decide +kernel
theorem dX1_layOutLetters_9 : decode cX1_layOutLetters 9 = .ok (.aload_n 0, 1) := by decide +kernel
theorem dX1_layOutLetters_10 : decode cX1_layOutLetters 10 = .ok (.iload_n 2, 1) := by decide +kernel
theorem dX1_layOutLetters_11 : decode cX1_layOutLetters 11 = .ok (.invokevirtual 24, 3) := by decide +kernel
theorem dX1_layOutLetters_14 : decode cX1_layOutLetters 14 = .ok (.invokestatic 28, 3) := by decide +kernel
theorem dX1_layOutLetters_17 : decode cX1_layOutLetters 17 = .ok (.iinc 2 1, 3) := by decide +kernel
theorem dX1_layOutLetters_20 : decode cX1_layOutLetters 20 = .ok (.goto (-18), 3) := by decide +kernel
theorem dX1_layOutLetters_23 : decode cX1_layOutLetters 23 = .ok (.return_, 1) := by decide +kernel
theorem dX1_accepts_0 : decode cX1_accepts 0 = .ok (.aload_n 0, 1) := by decide +kernel
theorem dX1_accepts_1 : decode cX1_accepts 1 = .ok (.aload_n 2, 1) := by decide +kernel
theorem dX1_accepts_2 : decode cX1_accepts 2 = .ok (.getfield 32, 3) := by decide +kernel
theorem dX1_accepts_5 : decode cX1_accepts 5 = .ok (.invokevirtual 38, 3) := by decide +kernel
theorem dX1_accepts_8 : decode cX1_accepts 8 = .ok (.iconst 0, 1) := by decide +kernel
theorem dX1_accepts_9 : decode cX1_accepts 9 = .ok (.istore_n 3, 1) := by decide +kernel
theorem dX1_accepts_10 : decode cX1_accepts 10 = .ok (.iload_n 3, 1) := by decide +kernel
theorem dX1_accepts_11 : decode cX1_accepts 11 = .ok (.aload_n 0, 1) := by decide +kernel
theorem dX1_accepts_12 : decode cX1_accepts 12 = .ok (.getfield 42, 3) := by decide +kernel
theorem dX1_accepts_15 : decode cX1_accepts 15 = .ok (.if_icmp .ge 52, 3) := by decide +kernel
theorem dX1_accepts_18 : decode cX1_accepts 18 = .ok (.aload_n 1, 1) := by decide +kernel
theorem dX1_accepts_19 : decode cX1_accepts 19 = .ok (.iload_n 3, 1) := by decide +kernel
theorem dX1_accepts_20 : decode cX1_accepts 20 = .ok (.invokestatic 45, 3) := by decide +kernel
theorem dX1_accepts_23 : decode cX1_accepts 23 = .ok (.istore 4, 2) := by decide +kernel
theorem dX1_accepts_25 : decode cX1_accepts 25 = .ok (.iload 4, 2) := by decide +kernel
theorem dX1_accepts_27 : decode cX1_accepts 27 = .ok (.ifCond .lt 22, 3) := by decide +kernel
theorem dX1_accepts_30 : decode cX1_accepts 30 = .ok (.iload 4, 2) := by decide +kernel
theorem dX1_accepts_32 : decode cX1_accepts 32 = .ok (.iconst 4, 1) := by decide +kernel
theorem dX1_accepts_33 : decode cX1_accepts 33 = .ok (.if_icmp .ge 16, 3) := by decide +kernel
theorem dX1_accepts_36 : decode cX1_accepts 36 = .ok (.aload_n 2, 1) := by decide +kernel
theorem dX1_accepts_37 : decode cX1_accepts 37 = .ok (.getfield 32, 3) := by decide +kernel
theorem dX1_accepts_40 : decode cX1_accepts 40 = .ok (.iload 4, 2) := by decide +kernel
theorem dX1_accepts_42 : decode cX1_accepts 42 = .ok (.invokestatic 45, 3) := by decide +kernel
theorem dX1_accepts_45 : decode cX1_accepts 45 = .ok (.iconst 1, 1) := by decide +kernel
theorem dX1_accepts_46 : decode cX1_accepts 46 = .ok (.if_icmp .ge 5, 3) := by decide +kernel
theorem dX1_accepts_49 : decode cX1_accepts 49 = .ok (.iconst 0, 1) := by decide +kernel
theorem dX1_accepts_50 : decode cX1_accepts 50 = .ok (.ireturn, 1) := by decide +kernel
theorem dX1_accepts_51 : decode cX1_accepts 51 = .ok (.aload_n 2, 1) := by decide +kernel
theorem dX1_accepts_52 : decode cX1_accepts 52 = .ok (.getfield 32, 3) := by decide +kernel
theorem dX1_accepts_55 : decode cX1_accepts 55 = .ok (.iload 4, 2) := by decide +kernel
theorem dX1_accepts_57 : decode cX1_accepts 57 = .ok (.iconst (-1), 1) := by decide +kernel
theorem dX1_accepts_58 : decode cX1_accepts 58 = .ok (.invokestatic 49, 3) := by decide +kernel
theorem dX1_accepts_61 : decode cX1_accepts 61 = .ok (.iinc 3 1, 3) := by decide +kernel
theorem dX1_accepts_64 : decode cX1_accepts 64 = .ok (.goto (-54), 3) := by decide +kernel
theorem dX1_accepts_67 : decode cX1_accepts 67 = .ok (.iconst 1, 1) := by decide +kernel
theorem dX1_accepts_68 : decode cX1_accepts 68 = .ok (.ireturn, 1) := by decide +kernel
theorem dX1_placeOf_0 : decode cX1_placeOf 0 = .ok (.aload_n 0, 1) := by decide +kernel
theorem dX1_placeOf_1 : decode cX1_placeOf 1 = .ok (.aload_n 2, 1) := by decide +kernel
theorem dX1_placeOf_2 : decode cX1_placeOf 2 = .ok (.getfield 32, 3) := by decide +kernel
theorem dX1_placeOf_5 : decode cX1_placeOf 5 = .ok (.invokevirtual 38, 3) := by decide +kernel
theorem dX1_placeOf_8 : decode cX1_placeOf 8 = .ok (.lconst 0, 1) := by decide +kernel
theorem dX1_placeOf_9 : decode cX1_placeOf 9 = .ok (.lstore_n 3, 1) := by decide +kernel
theorem dX1_placeOf_10 : decode cX1_placeOf 10 = .ok (.iconst 0, 1) := by decide +kernel
theorem dX1_placeOf_11 : decode cX1_placeOf 11 = .ok (.istore 5, 2) := by decide +kernel
theorem dX1_placeOf_13 : decode cX1_placeOf 13 = .ok (.iload 5, 2) := by decide +kernel
theorem dX1_placeOf_15 : decode cX1_placeOf 15 = .ok (.aload_n 0, 1) := by decide +kernel
theorem dX1_placeOf_16 : decode cX1_placeOf 16 = .ok (.getfield 42, 3) := by decide +kernel
theorem dX1_placeOf_19 : decode cX1_placeOf 19 = .ok (.if_icmp .ge 52, 3) := by decide +kernel
theorem dX1_placeOf_22 : decode cX1_placeOf 22 = .ok (.aload_n 1, 1) := by decide +kernel
theorem dX1_placeOf_23 : decode cX1_placeOf 23 = .ok (.iload 5, 2) := by decide +kernel
theorem dX1_placeOf_25 : decode cX1_placeOf 25 = .ok (.invokestatic 45, 3) := by decide +kernel
theorem dX1_placeOf_28 : decode cX1_placeOf 28 = .ok (.istore 6, 2) := by decide +kernel
theorem dX1_placeOf_30 : decode cX1_placeOf 30 = .ok (.iconst 0, 1) := by decide +kernel
theorem dX1_placeOf_31 : decode cX1_placeOf 31 = .ok (.istore 7, 2) := by decide +kernel
theorem dX1_placeOf_33 : decode cX1_placeOf 33 = .ok (.iload 7, 2) := by decide +kernel
theorem dX1_placeOf_35 : decode cX1_placeOf 35 = .ok (.iload 6, 2) := by decide +kernel
theorem dX1_placeOf_37 : decode cX1_placeOf 37 = .ok (.if_icmp .ge 18, 3) := by decide +kernel
theorem dX1_placeOf_40 : decode cX1_placeOf 40 = .ok (.lload_n 3, 1) := by decide +kernel
theorem dX1_placeOf_41 : decode cX1_placeOf 41 = .ok (.iload 7, 2) := by decide +kernel
theorem dX1_placeOf_43 : decode cX1_placeOf 43 = .ok (.aload_n 2, 1) := by decide +kernel
theorem dX1_placeOf_44 : decode cX1_placeOf 44 = .ok (.invokestatic 52, 3) := by decide +kernel
theorem dX1_placeOf_47 : decode cX1_placeOf 47 = .ok (.ladd, 1) := by decide +kernel
theorem dX1_placeOf_48 : decode cX1_placeOf 48 = .ok (.lstore_n 3, 1) := by decide +kernel
theorem dX1_placeOf_49 : decode cX1_placeOf 49 = .ok (.iinc 7 1, 3) := by decide +kernel
theorem dX1_placeOf_52 : decode cX1_placeOf 52 = .ok (.goto (-19), 3) := by decide +kernel
theorem dX1_placeOf_55 : decode cX1_placeOf 55 = .ok (.aload_n 2, 1) := by decide +kernel
theorem dX1_placeOf_56 : decode cX1_placeOf 56 = .ok (.getfield 32, 3) := by decide +kernel
theorem dX1_placeOf_59 : decode cX1_placeOf 59 = .ok (.iload 6, 2) := by decide +kernel
theorem dX1_placeOf_61 : decode cX1_placeOf 61 = .ok (.iconst (-1), 1) := by decide +kernel
theorem dX1_placeOf_62 : decode cX1_placeOf 62 = .ok (.invokestatic 49, 3) := by decide +kernel
theorem dX1_placeOf_65 : decode cX1_placeOf 65 = .ok (.iinc 5 1, 3) := by decide +kernel
theorem dX1_placeOf_68 : decode cX1_placeOf 68 = .ok (.goto (-55), 3) := by decide +kernel
theorem dX1_placeOf_71 : decode cX1_placeOf 71 = .ok (.lload_n 3, 1) := by decide +kernel
theorem dX1_placeOf_72 : decode cX1_placeOf 72 = .ok (.lreturn, 1) := by decide +kernel
theorem dX1_change_0 : decode cX1_change 0 = .ok (.aload_n 0, 1) := by decide +kernel
theorem dX1_change_1 : decode cX1_change 1 = .ok (.iload_n 1, 1) := by decide +kernel
theorem dX1_change_2 : decode cX1_change 2 = .ok (.aload_n 0, 1) := by decide +kernel
theorem dX1_change_3 : decode cX1_change 3 = .ok (.iload_n 1, 1) := by decide +kernel
theorem dX1_change_4 : decode cX1_change 4 = .ok (.invokestatic 45, 3) := by decide +kernel
theorem dX1_change_7 : decode cX1_change 7 = .ok (.iload_n 2, 1) := by decide +kernel
theorem dX1_change_8 : decode cX1_change 8 = .ok (.iadd, 1) := by decide +kernel
theorem dX1_change_9 : decode cX1_change 9 = .ok (.invokestatic 28, 3) := by decide +kernel
theorem dX1_change_12 : decode cX1_change 12 = .ok (.return_, 1) := by decide +kernel
theorem dX1_waysAfter_0 : decode cX1_waysAfter 0 = .ok (.aload_n 1, 1) := by decide +kernel
theorem dX1_waysAfter_1 : decode cX1_waysAfter 1 = .ok (.getfield 32, 3) := by decide +kernel
theorem dX1_waysAfter_4 : decode cX1_waysAfter 4 = .ok (.astore_n 2, 1) := by decide +kernel
theorem dX1_waysAfter_5 : decode cX1_waysAfter 5 = .ok (.aload_n 2, 1) := by decide +kernel
theorem dX1_waysAfter_6 : decode cX1_waysAfter 6 = .ok (.iload_n 0, 1) := by decide +kernel
theorem dX1_waysAfter_7 : decode cX1_waysAfter 7 = .ok (.invokestatic 45, 3) := by decide +kernel
theorem dX1_waysAfter_10 : decode cX1_waysAfter 10 = .ok (.iconst 1, 1) := by decide +kernel
theorem dX1_waysAfter_11 : decode cX1_waysAfter 11 = .ok (.if_icmp .ge 5, 3) := by decide +kernel
theorem dX1_waysAfter_14 : decode cX1_waysAfter 14 = .ok (.lconst 0, 1) := by decide +kernel
theorem dX1_waysAfter_15 : decode cX1_waysAfter 15 = .ok (.lreturn, 1) := by decide +kernel
theorem dX1_waysAfter_16 : decode cX1_waysAfter 16 = .ok (.aload_n 2, 1) := by decide +kernel
theorem dX1_waysAfter_17 : decode cX1_waysAfter 17 = .ok (.iload_n 0, 1) := by decide +kernel
theorem dX1_waysAfter_18 : decode cX1_waysAfter 18 = .ok (.iconst (-1), 1) := by decide +kernel
theorem dX1_waysAfter_19 : decode cX1_waysAfter 19 = .ok (.invokestatic 49, 3) := by decide +kernel
theorem dX1_waysAfter_22 : decode cX1_waysAfter 22 = .ok (.aload_n 1, 1) := by decide +kernel
theorem dX1_waysAfter_23 : decode cX1_waysAfter 23 = .ok (.aload_n 2, 1) := by decide +kernel
theorem dX1_waysAfter_24 : decode cX1_waysAfter 24 = .ok (.iconst 0, 1) := by decide +kernel
theorem dX1_waysAfter_25 : decode cX1_waysAfter 25 = .ok (.invokestatic 45, 3) := by decide +kernel
theorem dX1_waysAfter_28 : decode cX1_waysAfter 28 = .ok (.aload_n 2, 1) := by decide +kernel
theorem dX1_waysAfter_29 : decode cX1_waysAfter 29 = .ok (.iconst 1, 1) := by decide +kernel
theorem dX1_waysAfter_30 : decode cX1_waysAfter 30 = .ok (.invokestatic 45, 3) := by decide +kernel
theorem dX1_waysAfter_33 : decode cX1_waysAfter 33 = .ok (.aload_n 2, 1) := by decide +kernel
theorem dX1_waysAfter_34 : decode cX1_waysAfter 34 = .ok (.iconst 2, 1) := by decide +kernel
theorem dX1_waysAfter_35 : decode cX1_waysAfter 35 = .ok (.invokestatic 45, 3) := by decide +kernel
theorem dX1_waysAfter_38 : decode cX1_waysAfter 38 = .ok (.aload_n 2, 1) := by decide +kernel
theorem dX1_waysAfter_39 : decode cX1_waysAfter 39 = .ok (.iconst 3, 1) := by decide +kernel
theorem dX1_waysAfter_40 : decode cX1_waysAfter 40 = .ok (.invokestatic 45, 3) := by decide +kernel
theorem dX1_waysAfter_43 : decode cX1_waysAfter 43 = .ok (.invokevirtual 56, 3) := by decide +kernel
theorem dX1_waysAfter_46 : decode cX1_waysAfter 46 = .ok (.lstore_n 3, 1) := by decide +kernel
theorem dX1_waysAfter_47 : decode cX1_waysAfter 47 = .ok (.aload_n 2, 1) := by decide +kernel
theorem dX1_waysAfter_48 : decode cX1_waysAfter 48 = .ok (.iload_n 0, 1) := by decide +kernel
theorem dX1_waysAfter_49 : decode cX1_waysAfter 49 = .ok (.iconst 1, 1) := by decide +kernel
theorem dX1_waysAfter_50 : decode cX1_waysAfter 50 = .ok (.invokestatic 49, 3) := by decide +kernel
theorem dX1_waysAfter_53 : decode cX1_waysAfter 53 = .ok (.lload_n 3, 1) := by decide +kernel
theorem dX1_waysAfter_54 : decode cX1_waysAfter 54 = .ok (.lreturn, 1) := by decide +kernel
theorem dX1_lay_0 : decode cX1_lay 0 = .ok (.aload_n 0, 1) := by decide +kernel
theorem dX1_lay_1 : decode cX1_lay 1 = .ok (.aload 4, 2) := by decide +kernel
theorem dX1_lay_3 : decode cX1_lay 3 = .ok (.getfield 32, 3) := by decide +kernel
theorem dX1_lay_6 : decode cX1_lay 6 = .ok (.invokevirtual 38, 3) := by decide +kernel
theorem dX1_lay_9 : decode cX1_lay 9 = .ok (.lload_n 1, 1) := by decide +kernel
theorem dX1_lay_10 : decode cX1_lay 10 = .ok (.lstore 5, 2) := by decide +kernel
theorem dX1_lay_12 : decode cX1_lay 12 = .ok (.iconst 0, 1) := by decide +kernel
theorem dX1_lay_13 : decode cX1_lay 13 = .ok (.istore 7, 2) := by decide +kernel
theorem dX1_lay_15 : decode cX1_lay 15 = .ok (.iload 7, 2) := by decide +kernel
theorem dX1_lay_17 : decode cX1_lay 17 = .ok (.aload_n 0, 1) := by decide +kernel
theorem dX1_lay_18 : decode cX1_lay 18 = .ok (.getfield 42, 3) := by decide +kernel
theorem dX1_lay_21 : decode cX1_lay 21 = .ok (.if_icmp .ge 79, 3) := by decide +kernel
theorem dX1_lay_24 : decode cX1_lay 24 = .ok (.iconst 0, 1) := by decide +kernel
theorem dX1_lay_25 : decode cX1_lay 25 = .ok (.istore 8, 2) := by decide +kernel
theorem dX1_lay_27 : decode cX1_lay 27 = .ok (.iconst 0, 1) := by decide +kernel
theorem dX1_lay_28 : decode cX1_lay 28 = .ok (.istore 9, 2) := by decide +kernel
theorem dX1_lay_30 : decode cX1_lay 30 = .ok (.iload 9, 2) := by decide +kernel
theorem dX1_lay_32 : decode cX1_lay 32 = .ok (.iconst 3, 1) := by decide +kernel
theorem dX1_lay_33 : decode cX1_lay 33 = .ok (.if_icmp .ge 42, 3) := by decide +kernel
theorem dX1_lay_36 : decode cX1_lay 36 = .ok (.iload 9, 2) := by decide +kernel
theorem dX1_lay_38 : decode cX1_lay 38 = .ok (.aload 4, 2) := by decide +kernel
theorem dX1_lay_40 : decode cX1_lay 40 = .ok (.invokestatic 52, 3) := by decide +kernel
theorem dX1_lay_43 : decode cX1_lay 43 = .ok (.lstore 10, 2) := by decide +kernel
theorem dX1_lay_45 : decode cX1_lay 45 = .ok (.lload 5, 2) := by decide +kernel
theorem dX1_lay_47 : decode cX1_lay 47 = .ok (.lload 10, 2) := by decide +kernel
theorem dX1_lay_49 : decode cX1_lay 49 = .ok (.lcmp, 1) := by decide +kernel
theorem dX1_lay_50 : decode cX1_lay 50 = .ok (.ifCond .ge 6, 3) := by decide +kernel
theorem dX1_lay_53 : decode cX1_lay 53 = .ok (.goto 22, 3) := by decide +kernel
theorem dX1_lay_56 : decode cX1_lay 56 = .ok (.lload 5, 2) := by decide +kernel
theorem dX1_lay_58 : decode cX1_lay 58 = .ok (.lload 10, 2) := by decide +kernel
theorem dX1_lay_60 : decode cX1_lay 60 = .ok (.lsub, 1) := by decide +kernel
theorem dX1_lay_61 : decode cX1_lay 61 = .ok (.lstore 5, 2) := by decide +kernel
theorem dX1_lay_63 : decode cX1_lay 63 = .ok (.iload 9, 2) := by decide +kernel
theorem dX1_lay_65 : decode cX1_lay 65 = .ok (.iconst 1, 1) := by decide +kernel
theorem dX1_lay_66 : decode cX1_lay 66 = .ok (.iadd, 1) := by decide +kernel
theorem dX1_lay_67 : decode cX1_lay 67 = .ok (.istore 8, 2) := by decide +kernel
theorem dX1_lay_69 : decode cX1_lay 69 = .ok (.iinc 9 1, 3) := by decide +kernel
theorem dX1_lay_72 : decode cX1_lay 72 = .ok (.goto (-42), 3) := by decide +kernel
theorem dX1_lay_75 : decode cX1_lay 75 = .ok (.aload_n 3, 1) := by decide +kernel
theorem dX1_lay_76 : decode cX1_lay 76 = .ok (.iload 7, 2) := by decide +kernel
theorem dX1_lay_78 : decode cX1_lay 78 = .ok (.iload 8, 2) := by decide +kernel
theorem dX1_lay_80 : decode cX1_lay 80 = .ok (.invokestatic 28, 3) := by decide +kernel
theorem dX1_lay_83 : decode cX1_lay 83 = .ok (.aload 4, 2) := by decide +kernel
theorem dX1_lay_85 : decode cX1_lay 85 = .ok (.getfield 32, 3) := by decide +kernel
theorem dX1_lay_88 : decode cX1_lay 88 = .ok (.iload 8, 2) := by decide +kernel
theorem dX1_lay_90 : decode cX1_lay 90 = .ok (.iconst (-1), 1) := by decide +kernel
theorem dX1_lay_91 : decode cX1_lay 91 = .ok (.invokestatic 49, 3) := by decide +kernel
theorem dX1_lay_94 : decode cX1_lay 94 = .ok (.iinc 7 1, 3) := by decide +kernel
theorem dX1_lay_97 : decode cX1_lay 97 = .ok (.goto (-82), 3) := by decide +kernel
theorem dX1_lay_100 : decode cX1_lay 100 = .ok (.return_, 1) := by decide +kernel
theorem dX1_turn_0 : decode cX1_turn 0 = .ok (.iconst 0, 1) := by decide +kernel
theorem dX1_turn_1 : decode cX1_turn 1 = .ok (.istore 4, 2) := by decide +kernel
theorem dX1_turn_3 : decode cX1_turn 3 = .ok (.iload 4, 2) := by decide +kernel
theorem dX1_turn_5 : decode cX1_turn 5 = .ok (.aload_n 0, 1) := by decide +kernel
theorem dX1_turn_6 : decode cX1_turn 6 = .ok (.getfield 42, 3) := by decide +kernel
theorem dX1_turn_9 : decode cX1_turn 9 = .ok (.if_icmp .ge 28, 3) := by decide +kernel
theorem dX1_turn_12 : decode cX1_turn 12 = .ok (.aload_n 2, 1) := by decide +kernel
theorem dX1_turn_13 : decode cX1_turn 13 = .ok (.iload 4, 2) := by decide +kernel
theorem dX1_turn_15 : decode cX1_turn 15 = .ok (.aload_n 1, 1) := by decide +kernel
theorem dX1_turn_16 : decode cX1_turn 16 = .ok (.aload_n 0, 1) := by decide +kernel
theorem dX1_turn_17 : decode cX1_turn 17 = .ok (.getfield 42, 3) := by decide +kernel
theorem dX1_turn_20 : decode cX1_turn 20 = .ok (.iconst 1, 1) := by decide +kernel
theorem dX1_turn_21 : decode cX1_turn 21 = .ok (.isub, 1) := by decide +kernel
theorem dX1_turn_22 : decode cX1_turn 22 = .ok (.iload 4, 2) := by decide +kernel
theorem dX1_turn_24 : decode cX1_turn 24 = .ok (.isub, 1) := by decide +kernel
theorem dX1_turn_25 : decode cX1_turn 25 = .ok (.invokestatic 45, 3) := by decide +kernel
theorem dX1_turn_28 : decode cX1_turn 28 = .ok (.invokestatic 28, 3) := by decide +kernel
theorem dX1_turn_31 : decode cX1_turn 31 = .ok (.iinc 4 1, 3) := by decide +kernel
theorem dX1_turn_34 : decode cX1_turn 34 = .ok (.goto (-31), 3) := by decide +kernel
theorem dX1_turn_37 : decode cX1_turn 37 = .ok (.return_, 1) := by decide +kernel
theorem dX2_init_0 : decode cX2_init 0 = .ok (.aload_n 0, 1) := by decide +kernel
theorem dX2_init_1 : decode cX2_init 1 = .ok (.invokespecial 3, 3) := by decide +kernel
theorem dX2_init_4 : decode cX2_init 4 = .ok (.aload_n 0, 1) := by decide +kernel
theorem dX2_init_5 : decode cX2_init 5 = .ok (.invokestatic 9, 3) := by decide +kernel
theorem dX2_init_8 : decode cX2_init 8 = .ok (.putfield 15, 3) := by decide +kernel
theorem dX2_init_11 : decode cX2_init 11 = .ok (.aload_n 0, 1) := by decide +kernel
theorem dX2_init_12 : decode cX2_init 12 = .ok (.invokestatic 19, 3) := by decide +kernel
theorem dX2_init_15 : decode cX2_init 15 = .ok (.putfield 23, 3) := by decide +kernel
theorem dX2_init_18 : decode cX2_init 18 = .ok (.aload_n 0, 1) := by decide +kernel
theorem dX2_init_19 : decode cX2_init 19 = .ok (.invokestatic 27, 3) := by decide +kernel
theorem dX2_init_22 : decode cX2_init 22 = .ok (.putfield 30, 3) := by decide +kernel
theorem dX2_init_25 : decode cX2_init 25 = .ok (.aload_n 0, 1) := by decide +kernel
theorem dX2_init_26 : decode cX2_init 26 = .ok (.bipush 60, 2) := by decide +kernel
theorem dX2_init_28 : decode cX2_init 28 = .ok (.newarray .int, 2) := by decide +kernel
theorem dX2_init_30 : decode cX2_init 30 = .ok (.putfield 33, 3) := by decide +kernel
theorem dX2_init_33 : decode cX2_init 33 = .ok (.aload_n 0, 1) := by decide +kernel
theorem dX2_init_34 : decode cX2_init 34 = .ok (.bipush 60, 2) := by decide +kernel
theorem dX2_init_36 : decode cX2_init 36 = .ok (.newarray .int, 2) := by decide +kernel
theorem dX2_init_38 : decode cX2_init 38 = .ok (.putfield 36, 3) := by decide +kernel
theorem dX2_init_41 : decode cX2_init 41 = .ok (.aload_n 0, 1) := by decide +kernel
theorem dX2_init_42 : decode cX2_init 42 = .ok (.bipush 60, 2) := by decide +kernel
theorem dX2_init_44 : decode cX2_init 44 = .ok (.newarray .long, 2) := by decide +kernel
theorem dX2_init_46 : decode cX2_init 46 = .ok (.putfield 39, 3) := by decide +kernel
theorem dX2_init_49 : decode cX2_init 49 = .ok (.aload_n 0, 1) := by decide +kernel
theorem dX2_init_50 : decode cX2_init 50 = .ok (.iconst 4, 1) := by decide +kernel
theorem dX2_init_51 : decode cX2_init 51 = .ok (.newarray .int, 2) := by decide +kernel
theorem dX2_init_53 : decode cX2_init 53 = .ok (.putfield 42, 3) := by decide +kernel
theorem dX2_init_56 : decode cX2_init 56 = .ok (.return_, 1) := by decide +kernel
theorem dX2_spot_0 : decode cX2_spot 0 = .ok (.iload_n 0, 1) := by decide +kernel
theorem dX2_spot_1 : decode cX2_spot 1 = .ok (.iload_n 0, 1) := by decide +kernel
theorem dX2_spot_2 : decode cX2_spot 2 = .ok (.iconst 1, 1) := by decide +kernel
theorem dX2_spot_3 : decode cX2_spot 3 = .ok (.iadd, 1) := by decide +kernel
theorem dX2_spot_4 : decode cX2_spot 4 = .ok (.imul, 1) := by decide +kernel
theorem dX2_spot_5 : decode cX2_spot 5 = .ok (.iconst 2, 1) := by decide +kernel
theorem dX2_spot_6 : decode cX2_spot 6 = .ok (.idiv, 1) := by decide +kernel
theorem dX2_spot_7 : decode cX2_spot 7 = .ok (.iload_n 1, 1) := by decide +kernel
theorem dX2_spot_8 : decode cX2_spot 8 = .ok (.iadd, 1) := by decide +kernel
theorem dX2_spot_9 : decode cX2_spot 9 = .ok (.ireturn, 1) := by decide +kernel
theorem dX2_binomialTriangle_0 : decode cX2_binomialTriangle 0 = .ok (.sipush 1891, 3) := by decide +kernel
theorem dX2_binomialTriangle_3 : decode cX2_binomialTriangle 3 = .ok (.newarray .long, 2) := by decide +kernel
theorem dX2_binomialTriangle_5 : decode cX2_binomialTriangle 5 = .ok (.astore_n 0, 1) := by decide +kernel
theorem dX2_binomialTriangle_6 : decode cX2_binomialTriangle 6 = .ok (.iconst 0, 1) := by decide +kernel
theorem dX2_binomialTriangle_7 : decode cX2_binomialTriangle 7 = .ok (.istore_n 1, 1) := by decide +kernel
theorem dX2_binomialTriangle_8 : decode cX2_binomialTriangle 8 = .ok (.iload_n 1, 1) := by decide +kernel
theorem dX2_binomialTriangle_9 : decode cX2_binomialTriangle 9 = .ok (.bipush 60, 2) := by decide +kernel
theorem dX2_binomialTriangle_11 : decode cX2_binomialTriangle 11 = .ok (.if_icmp .gt 78, 3) := by decide +kernel
theorem dX2_binomialTriangle_14 : decode cX2_binomialTriangle 14 = .ok (.aload_n 0, 1) := by decide +kernel
theorem dX2_binomialTriangle_15 : decode cX2_binomialTriangle 15 = .ok (.iload_n 1, 1) := by decide +kernel
theorem dX2_binomialTriangle_16 : decode cX2_binomialTriangle 16 = .ok (.iconst 0, 1) := by decide +kernel
theorem dX2_binomialTriangle_17 : decode cX2_binomialTriangle 17 = .ok (.invokestatic 45, 3) := by decide +kernel
theorem dX2_binomialTriangle_20 : decode cX2_binomialTriangle 20 = .ok (.lconst 1, 1) := by decide +kernel
theorem dX2_binomialTriangle_21 : decode cX2_binomialTriangle 21 = .ok (.invokestatic 49, 3) := by decide +kernel
theorem dX2_binomialTriangle_24 : decode cX2_binomialTriangle 24 = .ok (.iconst 1, 1) := by decide +kernel
theorem dX2_binomialTriangle_25 : decode cX2_binomialTriangle 25 = .ok (.istore_n 2, 1) := by decide +kernel
theorem dX2_binomialTriangle_26 : decode cX2_binomialTriangle 26 = .ok (.iload_n 2, 1) := by decide +kernel
theorem dX2_binomialTriangle_27 : decode cX2_binomialTriangle 27 = .ok (.iload_n 1, 1) := by decide +kernel
theorem dX2_binomialTriangle_28 : decode cX2_binomialTriangle 28 = .ok (.if_icmp .ge 45, 3) := by decide +kernel
theorem dX2_binomialTriangle_31 : decode cX2_binomialTriangle 31 = .ok (.aload_n 0, 1) := by decide +kernel
theorem dX2_binomialTriangle_32 : decode cX2_binomialTriangle 32 = .ok (.iload_n 1, 1) := by decide +kernel
theorem dX2_binomialTriangle_33 : decode cX2_binomialTriangle 33 = .ok (.iconst 1, 1) := by decide +kernel
theorem dX2_binomialTriangle_34 : decode cX2_binomialTriangle 34 = .ok (.isub, 1) := by decide +kernel
theorem dX2_binomialTriangle_35 : decode cX2_binomialTriangle 35 = .ok (.iload_n 2, 1) := by decide +kernel
theorem dX2_binomialTriangle_36 : decode cX2_binomialTriangle 36 = .ok (.iconst 1, 1) := by decide +kernel
theorem dX2_binomialTriangle_37 : decode cX2_binomialTriangle 37 = .ok (.isub, 1) := by decide +kernel
theorem dX2_binomialTriangle_38 : decode cX2_binomialTriangle 38 = .ok (.invokestatic 45, 3) := by decide +kernel
theorem dX2_binomialTriangle_41 : decode cX2_binomialTriangle 41 = .ok (.invokestatic 53, 3) := by decide +kernel
theorem dX2_binomialTriangle_44 : decode cX2_binomialTriangle 44 = .ok (.aload_n 0, 1) := by decide +kernel
theorem dX2_binomialTriangle_45 : decode cX2_binomialTriangle 45 = .ok (.iload_n 1, 1) := by decide +kernel
theorem dX2_binomialTriangle_46 : decode cX2_binomialTriangle 46 = .ok (.iconst 1, 1) := by decide +kernel
theorem dX2_binomialTriangle_47 : decode cX2_binomialTriangle 47 = .ok (.isub, 1) := by decide +kernel
theorem dX2_binomialTriangle_48 : decode cX2_binomialTriangle 48 = .ok (.iload_n 2, 1) := by decide +kernel
theorem dX2_binomialTriangle_49 : decode cX2_binomialTriangle 49 = .ok (.invokestatic 45, 3) := by decide +kernel
theorem dX2_binomialTriangle_52 : decode cX2_binomialTriangle 52 = .ok (.invokestatic 53, 3) := by decide +kernel
theorem dX2_binomialTriangle_55 : decode cX2_binomialTriangle 55 = .ok (.ladd, 1) := by decide +kernel
theorem dX2_binomialTriangle_56 : decode cX2_binomialTriangle 56 = .ok (.lstore_n 3, 1) := by decide +kernel
theorem dX2_binomialTriangle_57 : decode cX2_binomialTriangle 57 = .ok (.aload_n 0, 1) := by decide +kernel
theorem dX2_binomialTriangle_58 : decode cX2_binomialTriangle 58 = .ok (.iload_n 1, 1) := by decide +kernel
theorem dX2_binomialTriangle_59 : decode cX2_binomialTriangle 59 = .ok (.iload_n 2, 1) := by decide +kernel
theorem dX2_binomialTriangle_60 : decode cX2_binomialTriangle 60 = .ok (.invokestatic 45, 3) := by decide +kernel
theorem dX2_binomialTriangle_63 : decode cX2_binomialTriangle 63 = .ok (.lload_n 3, 1) := by decide +kernel
theorem dX2_binomialTriangle_64 : decode cX2_binomialTriangle 64 = .ok (.invokestatic 49, 3) := by decide +kernel
theorem dX2_binomialTriangle_67 : decode cX2_binomialTriangle 67 = .ok (.iinc 2 1, 3) := by decide +kernel
theorem dX2_binomialTriangle_70 : decode cX2_binomialTriangle 70 = .ok (.goto (-44), 3) := by decide +kernel
theorem dX2_binomialTriangle_73 : decode cX2_binomialTriangle 73 = .ok (.aload_n 0, 1) := by decide +kernel
theorem dX2_binomialTriangle_74 : decode cX2_binomialTriangle 74 = .ok (.iload_n 1, 1) := by decide +kernel
theorem dX2_binomialTriangle_75 : decode cX2_binomialTriangle 75 = .ok (.iload_n 1, 1) := by decide +kernel
theorem dX2_binomialTriangle_76 : decode cX2_binomialTriangle 76 = .ok (.invokestatic 45, 3) := by decide +kernel
theorem dX2_binomialTriangle_79 : decode cX2_binomialTriangle 79 = .ok (.lconst 1, 1) := by decide +kernel
theorem dX2_binomialTriangle_80 : decode cX2_binomialTriangle 80 = .ok (.invokestatic 49, 3) := by decide +kernel
theorem dX2_binomialTriangle_83 : decode cX2_binomialTriangle 83 = .ok (.iinc 1 1, 3) := by decide +kernel
theorem dX2_binomialTriangle_86 : decode cX2_binomialTriangle 86 = .ok (.goto (-78), 3) := by decide +kernel
theorem dX2_binomialTriangle_89 : decode cX2_binomialTriangle 89 = .ok (.aload_n 0, 1) := by decide +kernel
theorem dX2_binomialTriangle_90 : decode cX2_binomialTriangle 90 = .ok (.areturn, 1) := by decide +kernel
theorem dX2_partitionTriangle_0 : decode cX2_partitionTriangle 0 = .ok (.sipush 1891, 3) := by decide +kernel
theorem dX2_partitionTriangle_3 : decode cX2_partitionTriangle 3 = .ok (.newarray .int, 2) := by decide +kernel
theorem dX2_partitionTriangle_5 : decode cX2_partitionTriangle 5 = .ok (.astore_n 0, 1) := by decide +kernel
theorem dX2_partitionTriangle_6 : decode cX2_partitionTriangle 6 = .ok (.aload_n 0, 1) := by decide +kernel
theorem dX2_partitionTriangle_7 : decode cX2_partitionTriangle 7 = .ok (.iconst 0, 1) := by decide +kernel
theorem dX2_partitionTriangle_8 : decode cX2_partitionTriangle 8 = .ok (.iconst 0, 1) := by decide +kernel
theorem dX2_partitionTriangle_9 : decode cX2_partitionTriangle 9 = .ok (.invokestatic 45, 3) := by decide +kernel
theorem dX2_partitionTriangle_12 : decode cX2_partitionTriangle 12 = .ok (.iconst 1, 1) := by decide +kernel
theorem dX2_partitionTriangle_13 : decode cX2_partitionTriangle 13 = .ok (.invokestatic 57, 3) := by decide +kernel
theorem dX2_partitionTriangle_16 : decode cX2_partitionTriangle 16 = .ok (.iconst 1, 1) := by decide +kernel
theorem dX2_partitionTriangle_17 : decode cX2_partitionTriangle 17 = .ok (.istore_n 1, 1) := by decide +kernel
theorem dX2_partitionTriangle_18 : decode cX2_partitionTriangle 18 = .ok (.iload_n 1, 1) := by decide +kernel
theorem dX2_partitionTriangle_19 : decode cX2_partitionTriangle 19 = .ok (.bipush 60, 2) := by decide +kernel
theorem dX2_partitionTriangle_21 : decode cX2_partitionTriangle 21 = .ok (.if_icmp .gt 64, 3) := by decide +kernel
theorem dX2_partitionTriangle_24 : decode cX2_partitionTriangle 24 = .ok (.iconst 1, 1) := by decide +kernel
theorem dX2_partitionTriangle_25 : decode cX2_partitionTriangle 25 = .ok (.istore_n 2, 1) := by decide +kernel
theorem dX2_partitionTriangle_26 : decode cX2_partitionTriangle 26 = .ok (.iload_n 2, 1) := by decide +kernel
theorem dX2_partitionTriangle_27 : decode cX2_partitionTriangle 27 = .ok (.iload_n 1, 1) := by decide +kernel
theorem dX2_partitionTriangle_28 : decode cX2_partitionTriangle 28 = .ok (.if_icmp .gt 51, 3) := by decide +kernel
theorem dX2_partitionTriangle_31 : decode cX2_partitionTriangle 31 = .ok (.iload_n 1, 1) := by decide +kernel
theorem dX2_partitionTriangle_32 : decode cX2_partitionTriangle 32 = .ok (.iload_n 2, 1) := by decide +kernel
theorem dX2_partitionTriangle_33 : decode cX2_partitionTriangle 33 = .ok (.isub, 1) := by decide +kernel
theorem dX2_partitionTriangle_34 : decode cX2_partitionTriangle 34 = .ok (.istore_n 3, 1) := by decide +kernel
theorem dX2_partitionTriangle_35 : decode cX2_partitionTriangle 35 = .ok (.aload_n 0, 1) := by decide +kernel
theorem dX2_partitionTriangle_36 : decode cX2_partitionTriangle 36 = .ok (.iload_n 3, 1) := by decide +kernel
theorem dX2_partitionTriangle_37 : decode cX2_partitionTriangle 37 = .ok (.iload_n 3, 1) := by decide +kernel
theorem dX2_partitionTriangle_38 : decode cX2_partitionTriangle 38 = .ok (.iload_n 2, 1) := by decide +kernel
theorem dX2_partitionTriangle_39 : decode cX2_partitionTriangle 39 = .ok (.invokestatic 60, 3) := by decide +kernel
theorem dX2_partitionTriangle_42 : decode cX2_partitionTriangle 42 = .ok (.invokestatic 45, 3) := by decide +kernel
theorem dX2_partitionTriangle_45 : decode cX2_partitionTriangle 45 = .ok (.invokestatic 65, 3) := by decide +kernel
theorem dX2_partitionTriangle_48 : decode cX2_partitionTriangle 48 = .ok (.istore 4, 2) := by decide +kernel
theorem dX2_partitionTriangle_50 : decode cX2_partitionTriangle 50 = .ok (.aload_n 0, 1) := by decide +kernel
theorem dX2_partitionTriangle_51 : decode cX2_partitionTriangle 51 = .ok (.iload_n 1, 1) := by decide +kernel
theorem dX2_partitionTriangle_52 : decode cX2_partitionTriangle 52 = .ok (.iload_n 2, 1) := by decide +kernel
theorem dX2_partitionTriangle_53 : decode cX2_partitionTriangle 53 = .ok (.invokestatic 45, 3) := by decide +kernel
theorem dX2_partitionTriangle_56 : decode cX2_partitionTriangle 56 = .ok (.aload_n 0, 1) := by decide +kernel
theorem dX2_partitionTriangle_57 : decode cX2_partitionTriangle 57 = .ok (.iload_n 1, 1) := by decide +kernel
theorem dX2_partitionTriangle_58 : decode cX2_partitionTriangle 58 = .ok (.iload_n 2, 1) := by decide +kernel
theorem dX2_partitionTriangle_59 : decode cX2_partitionTriangle 59 = .ok (.iconst 1, 1) := by decide +kernel
theorem dX2_partitionTriangle_60 : decode cX2_partitionTriangle 60 = .ok (.isub, 1) := by decide +kernel
theorem dX2_partitionTriangle_61 : decode cX2_partitionTriangle 61 = .ok (.invokestatic 45, 3) := by decide +kernel
theorem dX2_partitionTriangle_64 : decode cX2_partitionTriangle 64 = .ok (.invokestatic 65, 3) := by decide +kernel
theorem dX2_partitionTriangle_67 : decode cX2_partitionTriangle 67 = .ok (.iload 4, 2) := by decide +kernel
theorem dX2_partitionTriangle_69 : decode cX2_partitionTriangle 69 = .ok (.iadd, 1) := by decide +kernel
theorem dX2_partitionTriangle_70 : decode cX2_partitionTriangle 70 = .ok (.invokestatic 57, 3) := by decide +kernel
theorem dX2_partitionTriangle_73 : decode cX2_partitionTriangle 73 = .ok (.iinc 2 1, 3) := by decide +kernel
theorem dX2_partitionTriangle_76 : decode cX2_partitionTriangle 76 = .ok (.goto (-50), 3) := by decide +kernel
theorem dX2_partitionTriangle_79 : decode cX2_partitionTriangle 79 = .ok (.iinc 1 1, 3) := by decide +kernel
theorem dX2_partitionTriangle_82 : decode cX2_partitionTriangle 82 = .ok (.goto (-64), 3) := by decide +kernel
theorem dX2_partitionTriangle_85 : decode cX2_partitionTriangle 85 = .ok (.aload_n 0, 1) := by decide +kernel
theorem dX2_partitionTriangle_86 : decode cX2_partitionTriangle 86 = .ok (.areturn, 1) := by decide +kernel
theorem dX2_treeRow_0 : decode cX2_treeRow 0 = .ok (.bipush 31, 2) := by decide +kernel
theorem dX2_treeRow_2 : decode cX2_treeRow 2 = .ok (.newarray .long, 2) := by decide +kernel
theorem dX2_treeRow_4 : decode cX2_treeRow 4 = .ok (.astore_n 0, 1) := by decide +kernel
theorem dX2_treeRow_5 : decode cX2_treeRow 5 = .ok (.aload_n 0, 1) := by decide +kernel
theorem dX2_treeRow_6 : decode cX2_treeRow 6 = .ok (.iconst 0, 1) := by decide +kernel
theorem dX2_treeRow_7 : decode cX2_treeRow 7 = .ok (.lconst 1, 1) := by decide +kernel
theorem dX2_treeRow_8 : decode cX2_treeRow 8 = .ok (.invokestatic 49, 3) := by decide +kernel
theorem dX2_treeRow_11 : decode cX2_treeRow 11 = .ok (.iconst 1, 1) := by decide +kernel
theorem dX2_treeRow_12 : decode cX2_treeRow 12 = .ok (.istore_n 1, 1) := by decide +kernel
theorem dX2_treeRow_13 : decode cX2_treeRow 13 = .ok (.iload_n 1, 1) := by decide +kernel
theorem dX2_treeRow_14 : decode cX2_treeRow 14 = .ok (.bipush 30, 2) := by decide +kernel
theorem dX2_treeRow_16 : decode cX2_treeRow 16 = .ok (.if_icmp .gt 52, 3) := by decide +kernel
theorem dX2_treeRow_19 : decode cX2_treeRow 19 = .ok (.lconst 0, 1) := by decide +kernel
theorem dX2_treeRow_20 : decode cX2_treeRow 20 = .ok (.lstore_n 2, 1) := by decide +kernel
theorem dX2_treeRow_21 : decode cX2_treeRow 21 = .ok (.iconst 0, 1) := by decide +kernel
theorem dX2_treeRow_22 : decode cX2_treeRow 22 = .ok (.istore 4, 2) := by decide +kernel
theorem dX2_treeRow_24 : decode cX2_treeRow 24 = .ok (.iload 4, 2) := by decide +kernel
theorem dX2_treeRow_26 : decode cX2_treeRow 26 = .ok (.iload_n 1, 1) := by decide +kernel
theorem dX2_treeRow_27 : decode cX2_treeRow 27 = .ok (.if_icmp .ge 29, 3) := by decide +kernel
theorem dX2_treeRow_30 : decode cX2_treeRow 30 = .ok (.lload_n 2, 1) := by decide +kernel
theorem dX2_treeRow_31 : decode cX2_treeRow 31 = .ok (.aload_n 0, 1) := by decide +kernel
theorem dX2_treeRow_32 : decode cX2_treeRow 32 = .ok (.iload 4, 2) := by decide +kernel
theorem dX2_treeRow_34 : decode cX2_treeRow 34 = .ok (.invokestatic 53, 3) := by decide +kernel
theorem dX2_treeRow_37 : decode cX2_treeRow 37 = .ok (.aload_n 0, 1) := by decide +kernel
theorem dX2_treeRow_38 : decode cX2_treeRow 38 = .ok (.iload_n 1, 1) := by decide +kernel
theorem dX2_treeRow_39 : decode cX2_treeRow 39 = .ok (.iconst 1, 1) := by decide +kernel
theorem dX2_treeRow_40 : decode cX2_treeRow 40 = .ok (.isub, 1) := by decide +kernel
theorem dX2_treeRow_41 : decode cX2_treeRow 41 = .ok (.iload 4, 2) := by decide +kernel
theorem dX2_treeRow_43 : decode cX2_treeRow 43 = .ok (.isub, 1) := by decide +kernel
theorem dX2_treeRow_44 : decode cX2_treeRow 44 = .ok (.invokestatic 53, 3) := by decide +kernel
theorem dX2_treeRow_47 : decode cX2_treeRow 47 = .ok (.lmul, 1) := by decide +kernel
theorem dX2_treeRow_48 : decode cX2_treeRow 48 = .ok (.ladd, 1) := by decide +kernel
theorem dX2_treeRow_49 : decode cX2_treeRow 49 = .ok (.lstore_n 2, 1) := by decide +kernel
theorem dX2_treeRow_50 : decode cX2_treeRow 50 = .ok (.iinc 4 1, 3) := by decide +kernel
theorem dX2_treeRow_53 : decode cX2_treeRow 53 = .ok (.goto (-29), 3) := by decide +kernel
theorem dX2_treeRow_56 : decode cX2_treeRow 56 = .ok (.aload_n 0, 1) := by decide +kernel
theorem dX2_treeRow_57 : decode cX2_treeRow 57 = .ok (.iload_n 1, 1) := by decide +kernel
theorem dX2_treeRow_58 : decode cX2_treeRow 58 = .ok (.lload_n 2, 1) := by decide +kernel
theorem dX2_treeRow_59 : decode cX2_treeRow 59 = .ok (.invokestatic 49, 3) := by decide +kernel
theorem dX2_treeRow_62 : decode cX2_treeRow 62 = .ok (.iinc 1 1, 3) := by decide +kernel
theorem dX2_treeRow_65 : decode cX2_treeRow 65 = .ok (.goto (-52), 3) := by decide +kernel
theorem dX2_treeRow_68 : decode cX2_treeRow 68 = .ok (.aload_n 0, 1) := by decide +kernel
theorem dX2_treeRow_69 : decode cX2_treeRow 69 = .ok (.areturn, 1) := by decide +kernel
theorem dX2_binomial_0 : decode cX2_binomial 0 = .ok (.iload_n 2, 1) := by decide +kernel
theorem dX2_binomial_1 : decode cX2_binomial 1 = .ok (.ifCond .lt 14, 3) := by decide +kernel
theorem dX2_binomial_4 : decode cX2_binomial 4 = .ok (.iload_n 2, 1) := by decide +kernel
theorem dX2_binomial_5 : decode cX2_binomial 5 = .ok (.iload_n 1, 1) := by decide +kernel
theorem dX2_binomial_6 : decode cX2_binomial 6 = .ok (.if_icmp .gt 9, 3) := by decide +kernel
theorem dX2_binomial_9 : decode cX2_binomial 9 = .ok (.iload_n 1, 1) := by decide +kernel
theorem dX2_binomial_10 : decode cX2_binomial 10 = .ok (.bipush 60, 2) := by decide +kernel
theorem dX2_binomial_12 : decode cX2_binomial 12 = .ok (.if_icmp .le 7, 3) := by decide +kernel
theorem dX2_binomial_15 : decode cX2_binomial 15 = .ok (.lconst 0, 1) := by decide +kernel
theorem dX2_binomial_16 : decode cX2_binomial 16 = .ok (.goto 15, 3) := by decide +kernel
theorem dX2_binomial_19 : decode cX2_binomial 19 = .ok (.aload_n 0, 1) := by decide +kernel
theorem dX2_binomial_20 : decode cX2_binomial 20 = .ok (.getfield 15, 3) := by decide +kernel
theorem dX2_binomial_23 : decode cX2_binomial 23 = .ok (.iload_n 1, 1) := by decide +kernel
theorem dX2_binomial_24 : decode cX2_binomial 24 = .ok (.iload_n 2, 1) := by decide +kernel
theorem dX2_binomial_25 : decode cX2_binomial 25 = .ok (.invokestatic 45, 3) := by decide +kernel
theorem dX2_binomial_28 : decode cX2_binomial 28 = .ok (.invokestatic 53, 3) := by decide +kernel
theorem dX2_binomial_31 : decode cX2_binomial 31 = .ok (.lreturn, 1) := by decide +kernel
theorem dX2_partitions_0 : decode cX2_partitions 0 = .ok (.iload_n 1, 1) := by decide +kernel
theorem dX2_partitions_1 : decode cX2_partitions 1 = .ok (.ifCond .lt 13, 3) := by decide +kernel
theorem dX2_partitions_4 : decode cX2_partitions 4 = .ok (.iload_n 1, 1) := by decide +kernel
theorem dX2_partitions_5 : decode cX2_partitions 5 = .ok (.bipush 60, 2) := by decide +kernel
theorem dX2_partitions_7 : decode cX2_partitions 7 = .ok (.if_icmp .gt 7, 3) := by decide +kernel
theorem dX2_partitions_10 : decode cX2_partitions 10 = .ok (.iload_n 2, 1) := by decide +kernel
theorem dX2_partitions_11 : decode cX2_partitions 11 = .ok (.ifCond .ge 5, 3) := by decide +kernel
theorem dX2_partitions_14 : decode cX2_partitions 14 = .ok (.iconst 0, 1) := by decide +kernel
theorem dX2_partitions_15 : decode cX2_partitions 15 = .ok (.ireturn, 1) := by decide +kernel
theorem dX2_partitions_16 : decode cX2_partitions 16 = .ok (.aload_n 0, 1) := by decide +kernel
theorem dX2_partitions_17 : decode cX2_partitions 17 = .ok (.getfield 23, 3) := by decide +kernel
theorem dX2_partitions_20 : decode cX2_partitions 20 = .ok (.iload_n 1, 1) := by decide +kernel
theorem dX2_partitions_21 : decode cX2_partitions 21 = .ok (.iload_n 1, 1) := by decide +kernel
theorem dX2_partitions_22 : decode cX2_partitions 22 = .ok (.iload_n 2, 1) := by decide +kernel
theorem dX2_partitions_23 : decode cX2_partitions 23 = .ok (.invokestatic 60, 3) := by decide +kernel
theorem dX2_partitions_26 : decode cX2_partitions 26 = .ok (.invokestatic 45, 3) := by decide +kernel
theorem dX2_partitions_29 : decode cX2_partitions 29 = .ok (.invokestatic 65, 3) := by decide +kernel
theorem dX2_partitions_32 : decode cX2_partitions 32 = .ok (.ireturn, 1) := by decide +kernel
theorem dX2_wordEnds_0 : decode cX2_wordEnds 0 = .ok (.iload_n 2, 1) := by decide +kernel
theorem dX2_wordEnds_1 : decode cX2_wordEnds 1 = .ok (.ifCond .lt 8, 3) := by decide +kernel
theorem dX2_wordEnds_4 : decode cX2_wordEnds 4 = .ok (.iload_n 2, 1) := by decide +kernel
theorem dX2_wordEnds_5 : decode cX2_wordEnds 5 = .ok (.iload_n 1, 1) := by decide +kernel
theorem dX2_wordEnds_6 : decode cX2_wordEnds 6 = .ok (.if_icmp .le 5, 3) := by decide +kernel
theorem dX2_wordEnds_9 : decode cX2_wordEnds 9 = .ok (.lconst 0, 1) := by decide +kernel
theorem dX2_wordEnds_10 : decode cX2_wordEnds 10 = .ok (.lreturn, 1) := by decide +kernel
theorem dX2_wordEnds_11 : decode cX2_wordEnds 11 = .ok (.iload_n 1, 1) := by decide +kernel
theorem dX2_wordEnds_12 : decode cX2_wordEnds 12 = .ok (.iload_n 2, 1) := by decide +kernel
theorem dX2_wordEnds_13 : decode cX2_wordEnds 13 = .ok (.isub, 1) := by decide +kernel
theorem dX2_wordEnds_14 : decode cX2_wordEnds 14 = .ok (.iconst 2, 1) := by decide +kernel
theorem dX2_wordEnds_15 : decode cX2_wordEnds 15 = .ok (.idiv, 1) := by decide +kernel
theorem dX2_wordEnds_16 : decode cX2_wordEnds 16 = .ok (.istore 4, 2) := by decide +kernel
theorem dX2_wordEnds_18 : decode cX2_wordEnds 18 = .ok (.aload_n 0, 1) := by decide +kernel
theorem dX2_wordEnds_19 : decode cX2_wordEnds 19 = .ok (.iload_n 1, 1) := by decide +kernel
theorem dX2_wordEnds_20 : decode cX2_wordEnds 20 = .ok (.iload 4, 2) := by decide +kernel
theorem dX2_wordEnds_22 : decode cX2_wordEnds 22 = .ok (.invokevirtual 68, 3) := by decide +kernel
theorem dX2_wordEnds_25 : decode cX2_wordEnds 25 = .ok (.aload_n 0, 1) := by decide +kernel
theorem dX2_wordEnds_26 : decode cX2_wordEnds 26 = .ok (.iload_n 1, 1) := by decide +kernel
theorem dX2_wordEnds_27 : decode cX2_wordEnds 27 = .ok (.iload 4, 2) := by decide +kernel
theorem dX2_wordEnds_29 : decode cX2_wordEnds 29 = .ok (.iconst 1, 1) := by decide +kernel
theorem dX2_wordEnds_30 : decode cX2_wordEnds 30 = .ok (.isub, 1) := by decide +kernel
theorem dX2_wordEnds_31 : decode cX2_wordEnds 31 = .ok (.invokevirtual 68, 3) := by decide +kernel
theorem dX2_wordEnds_34 : decode cX2_wordEnds 34 = .ok (.lsub, 1) := by decide +kernel
theorem dX2_wordEnds_35 : decode cX2_wordEnds 35 = .ok (.lstore 5, 2) := by decide +kernel
theorem dX2_wordEnds_37 : decode cX2_wordEnds 37 = .ok (.iload_n 3, 1) := by decide +kernel
theorem dX2_wordEnds_38 : decode cX2_wordEnds 38 = .ok (.iconst 2, 1) := by decide +kernel
theorem dX2_wordEnds_39 : decode cX2_wordEnds 39 = .ok (.if_icmp .ne 11, 3) := by decide +kernel
theorem dX2_wordEnds_42 : decode cX2_wordEnds 42 = .ok (.lload 5, 2) := by decide +kernel
theorem dX2_wordEnds_44 : decode cX2_wordEnds 44 = .ok (.iload 4, 2) := by decide +kernel
theorem dX2_wordEnds_46 : decode cX2_wordEnds 46 = .ok (.lshl, 1) := by decide +kernel
theorem dX2_wordEnds_47 : decode cX2_wordEnds 47 = .ok (.goto 5, 3) := by decide +kernel
theorem dX2_wordEnds_50 : decode cX2_wordEnds 50 = .ok (.lload 5, 2) := by decide +kernel
theorem dX2_wordEnds_52 : decode cX2_wordEnds 52 = .ok (.lreturn, 1) := by decide +kernel
theorem dX2_trees_0 : decode cX2_trees 0 = .ok (.aload_n 0, 1) := by decide +kernel
theorem dX2_trees_1 : decode cX2_trees 1 = .ok (.getfield 30, 3) := by decide +kernel
theorem dX2_trees_4 : decode cX2_trees 4 = .ok (.iload_n 1, 1) := by decide +kernel
theorem dX2_trees_5 : decode cX2_trees 5 = .ok (.invokestatic 53, 3) := by decide +kernel
theorem dX2_trees_8 : decode cX2_trees 8 = .ok (.lreturn, 1) := by decide +kernel
theorem dX2_arrangements_0 : decode cX2_arrangements 0 = .ok (.aload_n 0, 1) := by decide +kernel
theorem dX2_arrangements_1 : decode cX2_arrangements 1 = .ok (.iload_n 1, 1) := by decide +kernel
theorem dX2_arrangements_2 : decode cX2_arrangements 2 = .ok (.iload_n 2, 1) := by decide +kernel
theorem dX2_arrangements_3 : decode cX2_arrangements 3 = .ok (.iadd, 1) := by decide +kernel
theorem dX2_arrangements_4 : decode cX2_arrangements 4 = .ok (.iload_n 3, 1) := by decide +kernel
theorem dX2_arrangements_5 : decode cX2_arrangements 5 = .ok (.iadd, 1) := by decide +kernel
theorem dX2_arrangements_6 : decode cX2_arrangements 6 = .ok (.iload 4, 2) := by decide +kernel
theorem dX2_arrangements_8 : decode cX2_arrangements 8 = .ok (.iadd, 1) := by decide +kernel
theorem dX2_arrangements_9 : decode cX2_arrangements 9 = .ok (.iload_n 1, 1) := by decide +kernel
theorem dX2_arrangements_10 : decode cX2_arrangements 10 = .ok (.invokevirtual 68, 3) := by decide +kernel
theorem dX2_arrangements_13 : decode cX2_arrangements 13 = .ok (.aload_n 0, 1) := by decide +kernel
theorem dX2_arrangements_14 : decode cX2_arrangements 14 = .ok (.iload_n 2, 1) := by decide +kernel
theorem dX2_arrangements_15 : decode cX2_arrangements 15 = .ok (.iload_n 3, 1) := by decide +kernel
theorem dX2_arrangements_16 : decode cX2_arrangements 16 = .ok (.iadd, 1) := by decide +kernel
theorem dX2_arrangements_17 : decode cX2_arrangements 17 = .ok (.iload 4, 2) := by decide +kernel
theorem dX2_arrangements_19 : decode cX2_arrangements 19 = .ok (.iadd, 1) := by decide +kernel
theorem dX2_arrangements_20 : decode cX2_arrangements 20 = .ok (.iload_n 2, 1) := by decide +kernel
theorem dX2_arrangements_21 : decode cX2_arrangements 21 = .ok (.invokevirtual 68, 3) := by decide +kernel
theorem dX2_arrangements_24 : decode cX2_arrangements 24 = .ok (.lmul, 1) := by decide +kernel
theorem dX2_arrangements_25 : decode cX2_arrangements 25 = .ok (.aload_n 0, 1) := by decide +kernel
theorem dX2_arrangements_26 : decode cX2_arrangements 26 = .ok (.iload_n 3, 1) := by decide +kernel
theorem dX2_arrangements_27 : decode cX2_arrangements 27 = .ok (.iload 4, 2) := by decide +kernel
theorem dX2_arrangements_29 : decode cX2_arrangements 29 = .ok (.iadd, 1) := by decide +kernel
theorem dX2_arrangements_30 : decode cX2_arrangements 30 = .ok (.iload_n 3, 1) := by decide +kernel
theorem dX2_arrangements_31 : decode cX2_arrangements 31 = .ok (.invokevirtual 68, 3) := by decide +kernel
theorem dX2_arrangements_34 : decode cX2_arrangements 34 = .ok (.lmul, 1) := by decide +kernel
theorem dX2_arrangements_35 : decode cX2_arrangements 35 = .ok (.lreturn, 1) := by decide +kernel
theorem dX3_init_0 : decode cX3_init 0 = .ok (.aload_n 0, 1) := by decide +kernel
theorem dX3_init_1 : decode cX3_init 1 = .ok (.invokespecial 1, 3) := by decide +kernel
theorem dX3_init_4 : decode cX3_init 4 = .ok (.aload_n 0, 1) := by decide +kernel
theorem dX3_init_5 : decode cX3_init 5 = .ok (.iload_n 1, 1) := by decide +kernel
theorem dX3_init_6 : decode cX3_init 6 = .ok (.putfield 7, 3) := by decide +kernel
theorem dX3_init_9 : decode cX3_init 9 = .ok (.aload_n 0, 1) := by decide +kernel
theorem dX3_init_10 : decode cX3_init 10 = .ok (.iload_n 2, 1) := by decide +kernel
theorem dX3_init_11 : decode cX3_init 11 = .ok (.putfield 13, 3) := by decide +kernel
theorem dX3_init_14 : decode cX3_init 14 = .ok (.aload_n 0, 1) := by decide +kernel
theorem dX3_init_15 : decode cX3_init 15 = .ok (.lload_n 3, 1) := by decide +kernel
theorem dX3_init_16 : decode cX3_init 16 = .ok (.putfield 16, 3) := by decide +kernel
theorem dX3_init_19 : decode cX3_init 19 = .ok (.return_, 1) := by decide +kernel
theorem dX3_turnedFamily_0 : decode cX3_turnedFamily 0 = .ok (.aload_n 0, 1) := by decide +kernel
theorem dX3_turnedFamily_1 : decode cX3_turnedFamily 1 = .ok (.areturn, 1) := by decide +kernel
theorem dX4_init_0 : decode cX4_init 0 = .ok (.aload_n 0, 1) := by decide +kernel
theorem dX4_init_1 : decode cX4_init 1 = .ok (.iconst 4, 1) := by decide +kernel
theorem dX4_init_2 : decode cX4_init 2 = .ok (.iload_n 1, 1) := by decide +kernel
theorem dX4_init_3 : decode cX4_init 3 = .ok (.lload_n 3, 1) := by decide +kernel
theorem dX4_init_4 : decode cX4_init 4 = .ok (.invokespecial 3, 3) := by decide +kernel
theorem dX4_init_7 : decode cX4_init 7 = .ok (.aload_n 0, 1) := by decide +kernel
theorem dX4_init_8 : decode cX4_init 8 = .ok (.iload_n 2, 1) := by decide +kernel
theorem dX4_init_9 : decode cX4_init 9 = .ok (.putfield 9, 3) := by decide +kernel
theorem dX4_init_12 : decode cX4_init 12 = .ok (.return_, 1) := by decide +kernel
theorem dX4_setting_0 : decode cX4_setting 0 = .ok (.iload_n 1, 1) := by decide +kernel
theorem dX4_setting_1 : decode cX4_setting 1 = .ok (.lookupswitch 37 #[(0, 27), (1, 32)], 27) := by decide +kernel
theorem dX4_setting_28 : decode cX4_setting 28 = .ok (.aload_n 0, 1) := by decide +kernel
theorem dX4_setting_29 : decode cX4_setting 29 = .ok (.getfield 15, 3) := by decide +kernel
theorem dX4_setting_32 : decode cX4_setting 32 = .ok (.ireturn, 1) := by decide +kernel
theorem dX4_setting_33 : decode cX4_setting 33 = .ok (.aload_n 0, 1) := by decide +kernel
theorem dX4_setting_34 : decode cX4_setting 34 = .ok (.getfield 9, 3) := by decide +kernel
theorem dX4_setting_37 : decode cX4_setting 37 = .ok (.ireturn, 1) := by decide +kernel
theorem dX4_setting_38 : decode cX4_setting 38 = .ok (.iconst 0, 1) := by decide +kernel
theorem dX4_setting_39 : decode cX4_setting 39 = .ok (.ireturn, 1) := by decide +kernel
theorem dX4_accepts_0 : decode cX4_accepts 0 = .ok (.iconst 0, 1) := by decide +kernel
theorem dX4_accepts_1 : decode cX4_accepts 1 = .ok (.istore_n 3, 1) := by decide +kernel
theorem dX4_accepts_2 : decode cX4_accepts 2 = .ok (.aload_n 0, 1) := by decide +kernel
theorem dX4_accepts_3 : decode cX4_accepts 3 = .ok (.getfield 9, 3) := by decide +kernel
theorem dX4_accepts_6 : decode cX4_accepts 6 = .ok (.istore 4, 2) := by decide +kernel
theorem dX4_accepts_8 : decode cX4_accepts 8 = .ok (.iconst 0, 1) := by decide +kernel
theorem dX4_accepts_9 : decode cX4_accepts 9 = .ok (.istore 5, 2) := by decide +kernel
theorem dX4_accepts_11 : decode cX4_accepts 11 = .ok (.iload 5, 2) := by decide +kernel
theorem dX4_accepts_13 : decode cX4_accepts 13 = .ok (.aload_n 0, 1) := by decide +kernel
theorem dX4_accepts_14 : decode cX4_accepts 14 = .ok (.getfield 15, 3) := by decide +kernel
theorem dX4_accepts_17 : decode cX4_accepts 17 = .ok (.if_icmp .ge 40, 3) := by decide +kernel
theorem dX4_accepts_20 : decode cX4_accepts 20 = .ok (.aload_n 1, 1) := by decide +kernel
theorem dX4_accepts_21 : decode cX4_accepts 21 = .ok (.iload 5, 2) := by decide +kernel
theorem dX4_accepts_23 : decode cX4_accepts 23 = .ok (.invokestatic 18, 3) := by decide +kernel
theorem dX4_accepts_26 : decode cX4_accepts 26 = .ok (.istore 6, 2) := by decide +kernel
theorem dX4_accepts_28 : decode cX4_accepts 28 = .ok (.iload 6, 2) := by decide +kernel
theorem dX4_accepts_30 : decode cX4_accepts 30 = .ok (.ifCond .lt 10, 3) := by decide +kernel
theorem dX4_accepts_33 : decode cX4_accepts 33 = .ok (.iload 6, 2) := by decide +kernel
theorem dX4_accepts_35 : decode cX4_accepts 35 = .ok (.iload 4, 2) := by decide +kernel
theorem dX4_accepts_37 : decode cX4_accepts 37 = .ok (.if_icmp .le 5, 3) := by decide +kernel
theorem dX4_accepts_40 : decode cX4_accepts 40 = .ok (.iconst 0, 1) := by decide +kernel
theorem dX4_accepts_41 : decode cX4_accepts 41 = .ok (.ireturn, 1) := by decide +kernel
theorem dX4_accepts_42 : decode cX4_accepts 42 = .ok (.iload_n 3, 1) := by decide +kernel
theorem dX4_accepts_43 : decode cX4_accepts 43 = .ok (.iload 6, 2) := by decide +kernel
theorem dX4_accepts_45 : decode cX4_accepts 45 = .ok (.iadd, 1) := by decide +kernel
theorem dX4_accepts_46 : decode cX4_accepts 46 = .ok (.istore_n 3, 1) := by decide +kernel
theorem dX4_accepts_47 : decode cX4_accepts 47 = .ok (.iload 6, 2) := by decide +kernel
theorem dX4_accepts_49 : decode cX4_accepts 49 = .ok (.istore 4, 2) := by decide +kernel
theorem dX4_accepts_51 : decode cX4_accepts 51 = .ok (.iinc 5 1, 3) := by decide +kernel
theorem dX4_accepts_54 : decode cX4_accepts 54 = .ok (.goto (-43), 3) := by decide +kernel
theorem dX4_accepts_57 : decode cX4_accepts 57 = .ok (.iload_n 3, 1) := by decide +kernel
theorem dX4_accepts_58 : decode cX4_accepts 58 = .ok (.aload_n 0, 1) := by decide +kernel
theorem dX4_accepts_59 : decode cX4_accepts 59 = .ok (.getfield 15, 3) := by decide +kernel
theorem dX4_accepts_62 : decode cX4_accepts 62 = .ok (.if_icmp .ne 7, 3) := by decide +kernel
theorem dX4_accepts_65 : decode cX4_accepts 65 = .ok (.iconst 1, 1) := by decide +kernel
theorem dX4_accepts_66 : decode cX4_accepts 66 = .ok (.goto 4, 3) := by decide +kernel
theorem dX4_accepts_69 : decode cX4_accepts 69 = .ok (.iconst 0, 1) := by decide +kernel
theorem dX4_accepts_70 : decode cX4_accepts 70 = .ok (.ireturn, 1) := by decide +kernel
theorem dX4_placeOf_0 : decode cX4_placeOf 0 = .ok (.lconst 0, 1) := by decide +kernel
theorem dX4_placeOf_1 : decode cX4_placeOf 1 = .ok (.lstore_n 3, 1) := by decide +kernel
theorem dX4_placeOf_2 : decode cX4_placeOf 2 = .ok (.aload_n 0, 1) := by decide +kernel
theorem dX4_placeOf_3 : decode cX4_placeOf 3 = .ok (.getfield 15, 3) := by decide +kernel
theorem dX4_placeOf_6 : decode cX4_placeOf 6 = .ok (.istore 5, 2) := by decide +kernel
theorem dX4_placeOf_8 : decode cX4_placeOf 8 = .ok (.iconst 0, 1) := by decide +kernel
theorem dX4_placeOf_9 : decode cX4_placeOf 9 = .ok (.istore 6, 2) := by decide +kernel
theorem dX4_placeOf_11 : decode cX4_placeOf 11 = .ok (.iload 6, 2) := by decide +kernel
theorem dX4_placeOf_13 : decode cX4_placeOf 13 = .ok (.aload_n 0, 1) := by decide +kernel
theorem dX4_placeOf_14 : decode cX4_placeOf 14 = .ok (.getfield 15, 3) := by decide +kernel
theorem dX4_placeOf_17 : decode cX4_placeOf 17 = .ok (.if_icmp .ge 43, 3) := by decide +kernel
theorem dX4_placeOf_20 : decode cX4_placeOf 20 = .ok (.iload 5, 2) := by decide +kernel
theorem dX4_placeOf_22 : decode cX4_placeOf 22 = .ok (.ifCond .le 38, 3) := by decide +kernel
theorem dX4_placeOf_25 : decode cX4_placeOf 25 = .ok (.aload_n 1, 1) := by decide +kernel
theorem dX4_placeOf_26 : decode cX4_placeOf 26 = .ok (.iload 6, 2) := by decide +kernel
theorem dX4_placeOf_28 : decode cX4_placeOf 28 = .ok (.invokestatic 18, 3) := by decide +kernel
theorem dX4_placeOf_31 : decode cX4_placeOf 31 = .ok (.istore 7, 2) := by decide +kernel
theorem dX4_placeOf_33 : decode cX4_placeOf 33 = .ok (.lload_n 3, 1) := by decide +kernel
theorem dX4_placeOf_34 : decode cX4_placeOf 34 = .ok (.aload_n 2, 1) := by decide +kernel
theorem dX4_placeOf_35 : decode cX4_placeOf 35 = .ok (.iload 5, 2) := by decide +kernel
theorem dX4_placeOf_37 : decode cX4_placeOf 37 = .ok (.iload 7, 2) := by decide +kernel
theorem dX4_placeOf_39 : decode cX4_placeOf 39 = .ok (.iconst 1, 1) := by decide +kernel
theorem dX4_placeOf_40 : decode cX4_placeOf 40 = .ok (.isub, 1) := by decide +kernel
theorem dX4_placeOf_41 : decode cX4_placeOf 41 = .ok (.invokevirtual 22, 3) := by decide +kernel
theorem dX4_placeOf_44 : decode cX4_placeOf 44 = .ok (.i2l, 1) := by decide +kernel
theorem dX4_placeOf_45 : decode cX4_placeOf 45 = .ok (.ladd, 1) := by decide +kernel
theorem dX4_placeOf_46 : decode cX4_placeOf 46 = .ok (.lstore_n 3, 1) := by decide +kernel
theorem dX4_placeOf_47 : decode cX4_placeOf 47 = .ok (.iload 5, 2) := by decide +kernel
theorem dX4_placeOf_49 : decode cX4_placeOf 49 = .ok (.iload 7, 2) := by decide +kernel
theorem dX4_placeOf_51 : decode cX4_placeOf 51 = .ok (.isub, 1) := by decide +kernel
theorem dX4_placeOf_52 : decode cX4_placeOf 52 = .ok (.istore 5, 2) := by decide +kernel
theorem dX4_placeOf_54 : decode cX4_placeOf 54 = .ok (.iinc 6 1, 3) := by decide +kernel
theorem dX4_placeOf_57 : decode cX4_placeOf 57 = .ok (.goto (-46), 3) := by decide +kernel
theorem dX4_placeOf_60 : decode cX4_placeOf 60 = .ok (.lload_n 3, 1) := by decide +kernel
theorem dX4_placeOf_61 : decode cX4_placeOf 61 = .ok (.lreturn, 1) := by decide +kernel
theorem dX4_lay_0 : decode cX4_lay 0 = .ok (.lload_n 1, 1) := by decide +kernel
theorem dX4_lay_1 : decode cX4_lay 1 = .ok (.lstore 5, 2) := by decide +kernel
theorem dX4_lay_3 : decode cX4_lay 3 = .ok (.aload_n 0, 1) := by decide +kernel
theorem dX4_lay_4 : decode cX4_lay 4 = .ok (.getfield 15, 3) := by decide +kernel
theorem dX4_lay_7 : decode cX4_lay 7 = .ok (.istore 7, 2) := by decide +kernel
theorem dX4_lay_9 : decode cX4_lay 9 = .ok (.aload_n 0, 1) := by decide +kernel
theorem dX4_lay_10 : decode cX4_lay 10 = .ok (.getfield 9, 3) := by decide +kernel
theorem dX4_lay_13 : decode cX4_lay 13 = .ok (.istore 8, 2) := by decide +kernel
theorem dX4_lay_15 : decode cX4_lay 15 = .ok (.iconst 0, 1) := by decide +kernel
theorem dX4_lay_16 : decode cX4_lay 16 = .ok (.istore 9, 2) := by decide +kernel
theorem dX4_lay_18 : decode cX4_lay 18 = .ok (.iload 9, 2) := by decide +kernel
theorem dX4_lay_20 : decode cX4_lay 20 = .ok (.aload_n 0, 1) := by decide +kernel
theorem dX4_lay_21 : decode cX4_lay 21 = .ok (.getfield 15, 3) := by decide +kernel
theorem dX4_lay_24 : decode cX4_lay 24 = .ok (.if_icmp .ge 98, 3) := by decide +kernel
theorem dX4_lay_27 : decode cX4_lay 27 = .ok (.iload 7, 2) := by decide +kernel
theorem dX4_lay_29 : decode cX4_lay 29 = .ok (.iconst 1, 1) := by decide +kernel
theorem dX4_lay_30 : decode cX4_lay 30 = .ok (.invokestatic 28, 3) := by decide +kernel
theorem dX4_lay_33 : decode cX4_lay 33 = .ok (.istore 10, 2) := by decide +kernel
theorem dX4_lay_35 : decode cX4_lay 35 = .ok (.iload 10, 2) := by decide +kernel
theorem dX4_lay_37 : decode cX4_lay 37 = .ok (.iload 8, 2) := by decide +kernel
theorem dX4_lay_39 : decode cX4_lay 39 = .ok (.if_icmp .ge 32, 3) := by decide +kernel
theorem dX4_lay_42 : decode cX4_lay 42 = .ok (.iload 10, 2) := by decide +kernel
theorem dX4_lay_44 : decode cX4_lay 44 = .ok (.iload 7, 2) := by decide +kernel
theorem dX4_lay_46 : decode cX4_lay 46 = .ok (.if_icmp .ge 25, 3) := by decide +kernel
theorem dX4_lay_49 : decode cX4_lay 49 = .ok (.aload 4, 2) := by decide +kernel
theorem dX4_lay_51 : decode cX4_lay 51 = .ok (.iload 7, 2) := by decide +kernel
theorem dX4_lay_53 : decode cX4_lay 53 = .ok (.iload 10, 2) := by decide +kernel
theorem dX4_lay_55 : decode cX4_lay 55 = .ok (.invokevirtual 22, 3) := by decide +kernel
theorem dX4_lay_58 : decode cX4_lay 58 = .ok (.i2l, 1) := by decide +kernel
theorem dX4_lay_59 : decode cX4_lay 59 = .ok (.lload 5, 2) := by decide +kernel
theorem dX4_lay_61 : decode cX4_lay 61 = .ok (.lcmp, 1) := by decide +kernel
theorem dX4_lay_62 : decode cX4_lay 62 = .ok (.ifCond .gt 9, 3) := by decide +kernel
theorem dX4_lay_65 : decode cX4_lay 65 = .ok (.iinc 10 1, 3) := by decide +kernel
theorem dX4_lay_68 : decode cX4_lay 68 = .ok (.goto (-33), 3) := by decide +kernel
theorem dX4_lay_71 : decode cX4_lay 71 = .ok (.lload 5, 2) := by decide +kernel
theorem dX4_lay_73 : decode cX4_lay 73 = .ok (.iload 7, 2) := by decide +kernel
theorem dX4_lay_75 : decode cX4_lay 75 = .ok (.ifCond .le 18, 3) := by decide +kernel
theorem dX4_lay_78 : decode cX4_lay 78 = .ok (.aload 4, 2) := by decide +kernel
theorem dX4_lay_80 : decode cX4_lay 80 = .ok (.iload 7, 2) := by decide +kernel
theorem dX4_lay_82 : decode cX4_lay 82 = .ok (.iload 10, 2) := by decide +kernel
theorem dX4_lay_84 : decode cX4_lay 84 = .ok (.iconst 1, 1) := by decide +kernel
theorem dX4_lay_85 : decode cX4_lay 85 = .ok (.isub, 1) := by decide +kernel
theorem dX4_lay_86 : decode cX4_lay 86 = .ok (.invokevirtual 22, 3) := by decide +kernel
theorem dX4_lay_89 : decode cX4_lay 89 = .ok (.i2l, 1) := by decide +kernel
theorem dX4_lay_90 : decode cX4_lay 90 = .ok (.goto 4, 3) := by decide +kernel
theorem dX4_lay_93 : decode cX4_lay 93 = .ok (.lconst 0, 1) := by decide +kernel
theorem dX4_lay_94 : decode cX4_lay 94 = .ok (.lsub, 1) := by decide +kernel
theorem dX4_lay_95 : decode cX4_lay 95 = .ok (.lstore 5, 2) := by decide +kernel
theorem dX4_lay_97 : decode cX4_lay 97 = .ok (.aload_n 3, 1) := by decide +kernel
theorem dX4_lay_98 : decode cX4_lay 98 = .ok (.iload 9, 2) := by decide +kernel
theorem dX4_lay_100 : decode cX4_lay 100 = .ok (.iload 10, 2) := by decide +kernel
theorem dX4_lay_102 : decode cX4_lay 102 = .ok (.invokestatic 33, 3) := by decide +kernel
theorem dX4_lay_105 : decode cX4_lay 105 = .ok (.iload 7, 2) := by decide +kernel
theorem dX4_lay_107 : decode cX4_lay 107 = .ok (.iload 10, 2) := by decide +kernel
theorem dX4_lay_109 : decode cX4_lay 109 = .ok (.isub, 1) := by decide +kernel
theorem dX4_lay_110 : decode cX4_lay 110 = .ok (.istore 7, 2) := by decide +kernel
theorem dX4_lay_112 : decode cX4_lay 112 = .ok (.iload 10, 2) := by decide +kernel
theorem dX4_lay_114 : decode cX4_lay 114 = .ok (.istore 8, 2) := by decide +kernel
theorem dX4_lay_116 : decode cX4_lay 116 = .ok (.iinc 9 1, 3) := by decide +kernel
theorem dX4_lay_119 : decode cX4_lay 119 = .ok (.goto (-101), 3) := by decide +kernel
theorem dX4_lay_122 : decode cX4_lay 122 = .ok (.return_, 1) := by decide +kernel
theorem dX4_turn_0 : decode cX4_turn 0 = .ok (.iconst 0, 1) := by decide +kernel
theorem dX4_turn_1 : decode cX4_turn 1 = .ok (.istore 4, 2) := by decide +kernel
theorem dX4_turn_3 : decode cX4_turn 3 = .ok (.iload 4, 2) := by decide +kernel
theorem dX4_turn_5 : decode cX4_turn 5 = .ok (.aload_n 0, 1) := by decide +kernel
theorem dX4_turn_6 : decode cX4_turn 6 = .ok (.getfield 15, 3) := by decide +kernel
theorem dX4_turn_9 : decode cX4_turn 9 = .ok (.if_icmp .ge 52, 3) := by decide +kernel
theorem dX4_turn_12 : decode cX4_turn 12 = .ok (.iconst 0, 1) := by decide +kernel
theorem dX4_turn_13 : decode cX4_turn 13 = .ok (.istore 5, 2) := by decide +kernel
theorem dX4_turn_15 : decode cX4_turn 15 = .ok (.iconst 0, 1) := by decide +kernel
theorem dX4_turn_16 : decode cX4_turn 16 = .ok (.istore 6, 2) := by decide +kernel
theorem dX4_turn_18 : decode cX4_turn 18 = .ok (.iload 6, 2) := by decide +kernel
theorem dX4_turn_20 : decode cX4_turn 20 = .ok (.aload_n 0, 1) := by decide +kernel
theorem dX4_turn_21 : decode cX4_turn 21 = .ok (.getfield 15, 3) := by decide +kernel
theorem dX4_turn_24 : decode cX4_turn 24 = .ok (.if_icmp .ge 23, 3) := by decide +kernel
theorem dX4_turn_27 : decode cX4_turn 27 = .ok (.aload_n 1, 1) := by decide +kernel
theorem dX4_turn_28 : decode cX4_turn 28 = .ok (.iload 6, 2) := by decide +kernel
theorem dX4_turn_30 : decode cX4_turn 30 = .ok (.invokestatic 18, 3) := by decide +kernel
theorem dX4_turn_33 : decode cX4_turn 33 = .ok (.iload 4, 2) := by decide +kernel
theorem dX4_turn_35 : decode cX4_turn 35 = .ok (.if_icmp .le 6, 3) := by decide +kernel
theorem dX4_turn_38 : decode cX4_turn 38 = .ok (.iinc 5 1, 3) := by decide +kernel
theorem dX4_turn_41 : decode cX4_turn 41 = .ok (.iinc 6 1, 3) := by decide +kernel
theorem dX4_turn_44 : decode cX4_turn 44 = .ok (.goto (-26), 3) := by decide +kernel
theorem dX4_turn_47 : decode cX4_turn 47 = .ok (.aload_n 2, 1) := by decide +kernel
theorem dX4_turn_48 : decode cX4_turn 48 = .ok (.iload 4, 2) := by decide +kernel
theorem dX4_turn_50 : decode cX4_turn 50 = .ok (.iload 5, 2) := by decide +kernel
theorem dX4_turn_52 : decode cX4_turn 52 = .ok (.invokestatic 33, 3) := by decide +kernel
theorem dX4_turn_55 : decode cX4_turn 55 = .ok (.iinc 4 1, 3) := by decide +kernel
theorem dX4_turn_58 : decode cX4_turn 58 = .ok (.goto (-55), 3) := by decide +kernel
theorem dX4_turn_61 : decode cX4_turn 61 = .ok (.return_, 1) := by decide +kernel
theorem dX5_init_0 : decode cX5_init 0 = .ok (.aload_n 0, 1) := by decide +kernel
theorem dX5_init_1 : decode cX5_init 1 = .ok (.iconst 1, 1) := by decide +kernel
theorem dX5_init_2 : decode cX5_init 2 = .ok (.iload_n 1, 1) := by decide +kernel
theorem dX5_init_3 : decode cX5_init 3 = .ok (.lload_n 3, 1) := by decide +kernel
theorem dX5_init_4 : decode cX5_init 4 = .ok (.invokespecial 3, 3) := by decide +kernel
theorem dX5_init_7 : decode cX5_init 7 = .ok (.aload_n 0, 1) := by decide +kernel
theorem dX5_init_8 : decode cX5_init 8 = .ok (.iload_n 2, 1) := by decide +kernel
theorem dX5_init_9 : decode cX5_init 9 = .ok (.putfield 9, 3) := by decide +kernel
theorem dX5_init_12 : decode cX5_init 12 = .ok (.return_, 1) := by decide +kernel
theorem dX5_factorial_0 : decode cX5_factorial 0 = .ok (.lconst 1, 1) := by decide +kernel
theorem dX5_factorial_1 : decode cX5_factorial 1 = .ok (.lstore_n 1, 1) := by decide +kernel
theorem dX5_factorial_2 : decode cX5_factorial 2 = .ok (.iconst 2, 1) := by decide +kernel
theorem dX5_factorial_3 : decode cX5_factorial 3 = .ok (.istore_n 3, 1) := by decide +kernel
theorem dX5_factorial_4 : decode cX5_factorial 4 = .ok (.iload_n 3, 1) := by decide +kernel
theorem dX5_factorial_5 : decode cX5_factorial 5 = .ok (.iload_n 0, 1) := by decide +kernel
theorem dX5_factorial_6 : decode cX5_factorial 6 = .ok (.if_icmp .gt 14, 3) := by decide +kernel
theorem dX5_factorial_9 : decode cX5_factorial 9 = .ok (.lload_n 1, 1) := by decide +kernel
theorem dX5_factorial_10 : decode cX5_factorial 10 = .ok (.iload_n 3, 1) := by decide +kernel
theorem dX5_factorial_11 : decode cX5_factorial 11 = .ok (.i2l, 1) := by decide +kernel
theorem dX5_factorial_12 : decode cX5_factorial 12 = .ok (.lmul, 1) := by decide +kernel
theorem dX5_factorial_13 : decode cX5_factorial 13 = .ok (.lstore_n 1, 1) := by decide +kernel
theorem dX5_factorial_14 : decode cX5_factorial 14 = .ok (.iinc 3 1, 3) := by decide +kernel
theorem dX5_factorial_17 : decode cX5_factorial 17 = .ok (.goto (-13), 3) := by decide +kernel
theorem dX5_factorial_20 : decode cX5_factorial 20 = .ok (.lload_n 1, 1) := by decide +kernel
theorem dX5_factorial_21 : decode cX5_factorial 21 = .ok (.lreturn, 1) := by decide +kernel
theorem dX5_setting_0 : decode cX5_setting 0 = .ok (.iload_n 1, 1) := by decide +kernel
theorem dX5_setting_1 : decode cX5_setting 1 = .ok (.lookupswitch 37 #[(0, 27), (1, 32)], 27) := by decide +kernel
theorem dX5_setting_28 : decode cX5_setting 28 = .ok (.aload_n 0, 1) := by decide +kernel
theorem dX5_setting_29 : decode cX5_setting 29 = .ok (.getfield 15, 3) := by decide +kernel
theorem dX5_setting_32 : decode cX5_setting 32 = .ok (.ireturn, 1) := by decide +kernel
theorem dX5_setting_33 : decode cX5_setting 33 = .ok (.aload_n 0, 1) := by decide +kernel
theorem dX5_setting_34 : decode cX5_setting 34 = .ok (.getfield 9, 3) := by decide +kernel
theorem dX5_setting_37 : decode cX5_setting 37 = .ok (.ireturn, 1) := by decide +kernel
theorem dX5_setting_38 : decode cX5_setting 38 = .ok (.iconst 0, 1) := by decide +kernel
theorem dX5_setting_39 : decode cX5_setting 39 = .ok (.ireturn, 1) := by decide +kernel
theorem dX5_accepts_0 : decode cX5_accepts 0 = .ok (.iconst 0, 1) := by decide +kernel
theorem dX5_accepts_1 : decode cX5_accepts 1 = .ok (.istore_n 3, 1) := by decide +kernel
theorem dX5_accepts_2 : decode cX5_accepts 2 = .ok (.iconst 0, 1) := by decide +kernel
theorem dX5_accepts_3 : decode cX5_accepts 3 = .ok (.istore 4, 2) := by decide +kernel
theorem dX5_accepts_5 : decode cX5_accepts 5 = .ok (.iload 4, 2) := by decide +kernel
theorem dX5_accepts_7 : decode cX5_accepts 7 = .ok (.aload_n 0, 1) := by decide +kernel
theorem dX5_accepts_8 : decode cX5_accepts 8 = .ok (.getfield 15, 3) := by decide +kernel
theorem dX5_accepts_11 : decode cX5_accepts 11 = .ok (.if_icmp .ge 50, 3) := by decide +kernel
theorem dX5_accepts_14 : decode cX5_accepts 14 = .ok (.aload_n 1, 1) := by decide +kernel
theorem dX5_accepts_15 : decode cX5_accepts 15 = .ok (.iload 4, 2) := by decide +kernel
theorem dX5_accepts_17 : decode cX5_accepts 17 = .ok (.invokestatic 18, 3) := by decide +kernel
theorem dX5_accepts_20 : decode cX5_accepts 20 = .ok (.istore 5, 2) := by decide +kernel
theorem dX5_accepts_22 : decode cX5_accepts 22 = .ok (.iload 5, 2) := by decide +kernel
theorem dX5_accepts_24 : decode cX5_accepts 24 = .ok (.ifCond .lt 22, 3) := by decide +kernel
theorem dX5_accepts_27 : decode cX5_accepts 27 = .ok (.iload 5, 2) := by decide +kernel
theorem dX5_accepts_29 : decode cX5_accepts 29 = .ok (.aload_n 0, 1) := by decide +kernel
theorem dX5_accepts_30 : decode cX5_accepts 30 = .ok (.getfield 15, 3) := by decide +kernel
theorem dX5_accepts_33 : decode cX5_accepts 33 = .ok (.if_icmp .ge 13, 3) := by decide +kernel
theorem dX5_accepts_36 : decode cX5_accepts 36 = .ok (.iload_n 3, 1) := by decide +kernel
theorem dX5_accepts_37 : decode cX5_accepts 37 = .ok (.iload 5, 2) := by decide +kernel
theorem dX5_accepts_39 : decode cX5_accepts 39 = .ok (.ishr, 1) := by decide +kernel
theorem dX5_accepts_40 : decode cX5_accepts 40 = .ok (.iconst 1, 1) := by decide +kernel
theorem dX5_accepts_41 : decode cX5_accepts 41 = .ok (.iand, 1) := by decide +kernel
theorem dX5_accepts_42 : decode cX5_accepts 42 = .ok (.iconst 1, 1) := by decide +kernel
theorem dX5_accepts_43 : decode cX5_accepts 43 = .ok (.if_icmp .ne 5, 3) := by decide +kernel
theorem dX5_accepts_46 : decode cX5_accepts 46 = .ok (.iconst 0, 1) := by decide +kernel
theorem dX5_accepts_47 : decode cX5_accepts 47 = .ok (.ireturn, 1) := by decide +kernel
theorem dX5_accepts_48 : decode cX5_accepts 48 = .ok (.iload_n 3, 1) := by decide +kernel
theorem dX5_accepts_49 : decode cX5_accepts 49 = .ok (.iconst 1, 1) := by decide +kernel
theorem dX5_accepts_50 : decode cX5_accepts 50 = .ok (.iload 5, 2) := by decide +kernel
theorem dX5_accepts_52 : decode cX5_accepts 52 = .ok (.ishl, 1) := by decide +kernel
theorem dX5_accepts_53 : decode cX5_accepts 53 = .ok (.ior, 1) := by decide +kernel
theorem dX5_accepts_54 : decode cX5_accepts 54 = .ok (.istore_n 3, 1) := by decide +kernel
theorem dX5_accepts_55 : decode cX5_accepts 55 = .ok (.iinc 4 1, 3) := by decide +kernel
theorem dX5_accepts_58 : decode cX5_accepts 58 = .ok (.goto (-53), 3) := by decide +kernel
theorem dX5_accepts_61 : decode cX5_accepts 61 = .ok (.iconst 1, 1) := by decide +kernel
theorem dX5_accepts_62 : decode cX5_accepts 62 = .ok (.ireturn, 1) := by decide +kernel
theorem dX5_placeOf_0 : decode cX5_placeOf 0 = .ok (.aload_n 0, 1) := by decide +kernel
theorem dX5_placeOf_1 : decode cX5_placeOf 1 = .ok (.getfield 9, 3) := by decide +kernel
theorem dX5_placeOf_4 : decode cX5_placeOf 4 = .ok (.iconst 1, 1) := by decide +kernel
theorem dX5_placeOf_5 : decode cX5_placeOf 5 = .ok (.if_icmp .ne 11, 3) := by decide +kernel
theorem dX5_placeOf_8 : decode cX5_placeOf 8 = .ok (.aload_n 0, 1) := by decide +kernel
theorem dX5_placeOf_9 : decode cX5_placeOf 9 = .ok (.aload_n 1, 1) := by decide +kernel
theorem dX5_placeOf_10 : decode cX5_placeOf 10 = .ok (.invokevirtual 22, 3) := by decide +kernel
theorem dX5_placeOf_13 : decode cX5_placeOf 13 = .ok (.goto 8, 3) := by decide +kernel
theorem dX5_placeOf_16 : decode cX5_placeOf 16 = .ok (.aload_n 0, 1) := by decide +kernel
theorem dX5_placeOf_17 : decode cX5_placeOf 17 = .ok (.aload_n 1, 1) := by decide +kernel
theorem dX5_placeOf_18 : decode cX5_placeOf 18 = .ok (.invokevirtual 26, 3) := by decide +kernel
theorem dX5_placeOf_21 : decode cX5_placeOf 21 = .ok (.lreturn, 1) := by decide +kernel
theorem dX5_lexicographicPlace_0 : decode cX5_lexicographicPlace 0 = .ok (.lconst 0, 1) := by decide +kernel
theorem dX5_lexicographicPlace_1 : decode cX5_lexicographicPlace 1 = .ok (.lstore_n 2, 1) := by decide +kernel
theorem dX5_lexicographicPlace_2 : decode cX5_lexicographicPlace 2 = .ok (.iconst 0, 1) := by decide +kernel
theorem dX5_lexicographicPlace_3 : decode cX5_lexicographicPlace 3 = .ok (.istore 4, 2) := by decide +kernel
theorem dX5_lexicographicPlace_5 : decode cX5_lexicographicPlace 5 = .ok (.iload 4, 2) := by decide +kernel
theorem dX5_lexicographicPlace_7 : decode cX5_lexicographicPlace 7 = .ok (.aload_n 0, 1) := by decide +kernel
theorem dX5_lexicographicPlace_8 : decode cX5_lexicographicPlace 8 = .ok (.getfield 15, 3) := by decide +kernel
theorem dX5_lexicographicPlace_11 : decode cX5_lexicographicPlace 11 = .ok (.if_icmp .ge 66, 3) := by decide +kernel
theorem dX5_lexicographicPlace_14 : decode cX5_lexicographicPlace 14 = .ok (.iconst 0, 1) := by decide +kernel
theorem dX5_lexicographicPlace_15 : decode cX5_lexicographicPlace 15 = .ok (.istore 5, 2) := by decide +kernel
theorem dX5_lexicographicPlace_17 : decode cX5_lexicographicPlace 17 = .ok (.iload 4, 2) := by decide +kernel
theorem dX5_lexicographicPlace_19 : decode cX5_lexicographicPlace 19 = .ok (.iconst 1, 1) := by decide +kernel
theorem dX5_lexicographicPlace_20 : decode cX5_lexicographicPlace 20 = .ok (.iadd, 1) := by decide +kernel
theorem dX5_lexicographicPlace_21 : decode cX5_lexicographicPlace 21 = .ok (.istore 6, 2) := by decide +kernel
theorem dX5_lexicographicPlace_23 : decode cX5_lexicographicPlace 23 = .ok (.iload 6, 2) := by decide +kernel
theorem dX5_lexicographicPlace_25 : decode cX5_lexicographicPlace 25 = .ok (.aload_n 0, 1) := by decide +kernel
theorem dX5_lexicographicPlace_26 : decode cX5_lexicographicPlace 26 = .ok (.getfield 15, 3) := by decide +kernel
theorem dX5_lexicographicPlace_29 : decode cX5_lexicographicPlace 29 = .ok (.if_icmp .ge 27, 3) := by decide +kernel
theorem dX5_lexicographicPlace_32 : decode cX5_lexicographicPlace 32 = .ok (.aload_n 1, 1) := by decide +kernel
theorem dX5_lexicographicPlace_33 : decode cX5_lexicographicPlace 33 = .ok (.iload 6, 2) := by decide +kernel
theorem dX5_lexicographicPlace_35 : decode cX5_lexicographicPlace 35 = .ok (.invokestatic 18, 3) := by decide +kernel
theorem dX5_lexicographicPlace_38 : decode cX5_lexicographicPlace 38 = .ok (.aload_n 1, 1) := by decide +kernel
theorem dX5_lexicographicPlace_39 : decode cX5_lexicographicPlace 39 = .ok (.iload 4, 2) := by decide +kernel
theorem dX5_lexicographicPlace_41 : decode cX5_lexicographicPlace 41 = .ok (.invokestatic 18, 3) := by decide +kernel
theorem dX5_lexicographicPlace_44 : decode cX5_lexicographicPlace 44 = .ok (.if_icmp .ge 6, 3) := by decide +kernel
theorem dX5_lexicographicPlace_47 : decode cX5_lexicographicPlace 47 = .ok (.iinc 5 1, 3) := by decide +kernel
theorem dX5_lexicographicPlace_50 : decode cX5_lexicographicPlace 50 = .ok (.iinc 6 1, 3) := by decide +kernel
theorem dX5_lexicographicPlace_53 : decode cX5_lexicographicPlace 53 = .ok (.goto (-30), 3) := by decide +kernel
theorem dX5_lexicographicPlace_56 : decode cX5_lexicographicPlace 56 = .ok (.lload_n 2, 1) := by decide +kernel
theorem dX5_lexicographicPlace_57 : decode cX5_lexicographicPlace 57 = .ok (.aload_n 0, 1) := by decide +kernel
theorem dX5_lexicographicPlace_58 : decode cX5_lexicographicPlace 58 = .ok (.getfield 15, 3) := by decide +kernel
theorem dX5_lexicographicPlace_61 : decode cX5_lexicographicPlace 61 = .ok (.iload 4, 2) := by decide +kernel
theorem dX5_lexicographicPlace_63 : decode cX5_lexicographicPlace 63 = .ok (.isub, 1) := by decide +kernel
theorem dX5_lexicographicPlace_64 : decode cX5_lexicographicPlace 64 = .ok (.i2l, 1) := by decide +kernel
theorem dX5_lexicographicPlace_65 : decode cX5_lexicographicPlace 65 = .ok (.lmul, 1) := by decide +kernel
theorem dX5_lexicographicPlace_66 : decode cX5_lexicographicPlace 66 = .ok (.iload 5, 2) := by decide +kernel
theorem dX5_lexicographicPlace_68 : decode cX5_lexicographicPlace 68 = .ok (.i2l, 1) := by decide +kernel
theorem dX5_lexicographicPlace_69 : decode cX5_lexicographicPlace 69 = .ok (.ladd, 1) := by decide +kernel
theorem dX5_lexicographicPlace_70 : decode cX5_lexicographicPlace 70 = .ok (.lstore_n 2, 1) := by decide +kernel
theorem dX5_lexicographicPlace_71 : decode cX5_lexicographicPlace 71 = .ok (.iinc 4 1, 3) := by decide +kernel
theorem dX5_lexicographicPlace_74 : decode cX5_lexicographicPlace 74 = .ok (.goto (-69), 3) := by decide +kernel
theorem dX5_lexicographicPlace_77 : decode cX5_lexicographicPlace 77 = .ok (.lload_n 2, 1) := by decide +kernel
theorem dX5_lexicographicPlace_78 : decode cX5_lexicographicPlace 78 = .ok (.lreturn, 1) := by decide +kernel
theorem dX5_plainPlace_0 : decode cX5_plainPlace 0 = .ok (.lconst 0, 1) := by decide +kernel
theorem dX5_plainPlace_1 : decode cX5_plainPlace 1 = .ok (.lstore_n 2, 1) := by decide +kernel
theorem dX5_plainPlace_2 : decode cX5_plainPlace 2 = .ok (.iconst 1, 1) := by decide +kernel
theorem dX5_plainPlace_3 : decode cX5_plainPlace 3 = .ok (.istore 4, 2) := by decide +kernel
theorem dX5_plainPlace_5 : decode cX5_plainPlace 5 = .ok (.iload 4, 2) := by decide +kernel
theorem dX5_plainPlace_7 : decode cX5_plainPlace 7 = .ok (.aload_n 0, 1) := by decide +kernel
theorem dX5_plainPlace_8 : decode cX5_plainPlace 8 = .ok (.getfield 15, 3) := by decide +kernel
theorem dX5_plainPlace_11 : decode cX5_plainPlace 11 = .ok (.if_icmp .ge 36, 3) := by decide +kernel
theorem dX5_plainPlace_14 : decode cX5_plainPlace 14 = .ok (.lload_n 2, 1) := by decide +kernel
theorem dX5_plainPlace_15 : decode cX5_plainPlace 15 = .ok (.iload 4, 2) := by decide +kernel
theorem dX5_plainPlace_17 : decode cX5_plainPlace 17 = .ok (.aload_n 0, 1) := by decide +kernel
theorem dX5_plainPlace_18 : decode cX5_plainPlace 18 = .ok (.aload_n 1, 1) := by decide +kernel
theorem dX5_plainPlace_19 : decode cX5_plainPlace 19 = .ok (.iload 4, 2) := by decide +kernel
theorem dX5_plainPlace_21 : decode cX5_plainPlace 21 = .ok (.invokevirtual 29, 3) := by decide +kernel
theorem dX5_plainPlace_24 : decode cX5_plainPlace 24 = .ok (.invokestatic 32, 3) := by decide +kernel
theorem dX5_plainPlace_27 : decode cX5_plainPlace 27 = .ok (.istore 5, 2) := by decide +kernel
theorem dX5_plainPlace_29 : decode cX5_plainPlace 29 = .ok (.lload_n 2, 1) := by decide +kernel
theorem dX5_plainPlace_30 : decode cX5_plainPlace 30 = .ok (.iload 4, 2) := by decide +kernel
theorem dX5_plainPlace_32 : decode cX5_plainPlace 32 = .ok (.iconst 1, 1) := by decide +kernel
theorem dX5_plainPlace_33 : decode cX5_plainPlace 33 = .ok (.iadd, 1) := by decide +kernel
theorem dX5_plainPlace_34 : decode cX5_plainPlace 34 = .ok (.i2l, 1) := by decide +kernel
theorem dX5_plainPlace_35 : decode cX5_plainPlace 35 = .ok (.lmul, 1) := by decide +kernel
theorem dX5_plainPlace_36 : decode cX5_plainPlace 36 = .ok (.iload 5, 2) := by decide +kernel
theorem dX5_plainPlace_38 : decode cX5_plainPlace 38 = .ok (.i2l, 1) := by decide +kernel
theorem dX5_plainPlace_39 : decode cX5_plainPlace 39 = .ok (.ladd, 1) := by decide +kernel
theorem dX5_plainPlace_40 : decode cX5_plainPlace 40 = .ok (.lstore_n 2, 1) := by decide +kernel
theorem dX5_plainPlace_41 : decode cX5_plainPlace 41 = .ok (.iinc 4 1, 3) := by decide +kernel
theorem dX5_plainPlace_44 : decode cX5_plainPlace 44 = .ok (.goto (-39), 3) := by decide +kernel
theorem dX5_plainPlace_47 : decode cX5_plainPlace 47 = .ok (.lload_n 2, 1) := by decide +kernel
theorem dX5_plainPlace_48 : decode cX5_plainPlace 48 = .ok (.lreturn, 1) := by decide +kernel
theorem dX5_lessBefore_0 : decode cX5_lessBefore 0 = .ok (.iconst 0, 1) := by decide +kernel
theorem dX5_lessBefore_1 : decode cX5_lessBefore 1 = .ok (.istore_n 3, 1) := by decide +kernel
theorem dX5_lessBefore_2 : decode cX5_lessBefore 2 = .ok (.iconst 0, 1) := by decide +kernel
theorem dX5_lessBefore_3 : decode cX5_lessBefore 3 = .ok (.istore 4, 2) := by decide +kernel
theorem dX5_lessBefore_5 : decode cX5_lessBefore 5 = .ok (.iload 4, 2) := by decide +kernel
theorem dX5_lessBefore_7 : decode cX5_lessBefore 7 = .ok (.aload_n 0, 1) := by decide +kernel
theorem dX5_lessBefore_8 : decode cX5_lessBefore 8 = .ok (.getfield 15, 3) := by decide +kernel
theorem dX5_lessBefore_11 : decode cX5_lessBefore 11 = .ok (.if_icmp .ge 32, 3) := by decide +kernel
theorem dX5_lessBefore_14 : decode cX5_lessBefore 14 = .ok (.aload_n 1, 1) := by decide +kernel
theorem dX5_lessBefore_15 : decode cX5_lessBefore 15 = .ok (.iload 4, 2) := by decide +kernel
theorem dX5_lessBefore_17 : decode cX5_lessBefore 17 = .ok (.invokestatic 18, 3) := by decide +kernel
theorem dX5_lessBefore_20 : decode cX5_lessBefore 20 = .ok (.iload_n 2, 1) := by decide +kernel
theorem dX5_lessBefore_21 : decode cX5_lessBefore 21 = .ok (.if_icmp .eq 22, 3) := by decide +kernel
theorem dX5_lessBefore_24 : decode cX5_lessBefore 24 = .ok (.aload_n 1, 1) := by decide +kernel
theorem dX5_lessBefore_25 : decode cX5_lessBefore 25 = .ok (.iload 4, 2) := by decide +kernel
theorem dX5_lessBefore_27 : decode cX5_lessBefore 27 = .ok (.invokestatic 18, 3) := by decide +kernel
theorem dX5_lessBefore_30 : decode cX5_lessBefore 30 = .ok (.iload_n 2, 1) := by decide +kernel
theorem dX5_lessBefore_31 : decode cX5_lessBefore 31 = .ok (.if_icmp .ge 6, 3) := by decide +kernel
theorem dX5_lessBefore_34 : decode cX5_lessBefore 34 = .ok (.iinc 3 1, 3) := by decide +kernel
theorem dX5_lessBefore_37 : decode cX5_lessBefore 37 = .ok (.iinc 4 1, 3) := by decide +kernel
theorem dX5_lessBefore_40 : decode cX5_lessBefore 40 = .ok (.goto (-35), 3) := by decide +kernel
theorem dX5_lessBefore_43 : decode cX5_lessBefore 43 = .ok (.iload_n 3, 1) := by decide +kernel
theorem dX5_lessBefore_44 : decode cX5_lessBefore 44 = .ok (.ireturn, 1) := by decide +kernel
theorem dX5_plainTurn_0 : decode cX5_plainTurn 0 = .ok (.lload_n 0, 1) := by decide +kernel
theorem dX5_plainTurn_1 : decode cX5_plainTurn 1 = .ok (.lconst 1, 1) := by decide +kernel
theorem dX5_plainTurn_2 : decode cX5_plainTurn 2 = .ok (.land, 1) := by decide +kernel
theorem dX5_plainTurn_3 : decode cX5_plainTurn 3 = .ok (.lconst 0, 1) := by decide +kernel
theorem dX5_plainTurn_4 : decode cX5_plainTurn 4 = .ok (.lcmp, 1) := by decide +kernel
theorem dX5_plainTurn_5 : decode cX5_plainTurn 5 = .ok (.ifCond .ne 9, 3) := by decide +kernel
theorem dX5_plainTurn_8 : decode cX5_plainTurn 8 = .ok (.iload_n 2, 1) := by decide +kernel
theorem dX5_plainTurn_9 : decode cX5_plainTurn 9 = .ok (.iload_n 3, 1) := by decide +kernel
theorem dX5_plainTurn_10 : decode cX5_plainTurn 10 = .ok (.isub, 1) := by decide +kernel
theorem dX5_plainTurn_11 : decode cX5_plainTurn 11 = .ok (.goto 4, 3) := by decide +kernel
theorem dX5_plainTurn_14 : decode cX5_plainTurn 14 = .ok (.iload_n 3, 1) := by decide +kernel
theorem dX5_plainTurn_15 : decode cX5_plainTurn 15 = .ok (.ireturn, 1) := by decide +kernel
theorem dX5_lay_0 : decode cX5_lay 0 = .ok (.aload_n 0, 1) := by decide +kernel
theorem dX5_lay_1 : decode cX5_lay 1 = .ok (.getfield 9, 3) := by decide +kernel
theorem dX5_lay_4 : decode cX5_lay 4 = .ok (.iconst 1, 1) := by decide +kernel
theorem dX5_lay_5 : decode cX5_lay 5 = .ok (.if_icmp .ne 12, 3) := by decide +kernel
theorem dX5_lay_8 : decode cX5_lay 8 = .ok (.aload_n 0, 1) := by decide +kernel
theorem dX5_lay_9 : decode cX5_lay 9 = .ok (.lload_n 1, 1) := by decide +kernel
theorem dX5_lay_10 : decode cX5_lay 10 = .ok (.aload_n 3, 1) := by decide +kernel
theorem dX5_lay_11 : decode cX5_lay 11 = .ok (.invokevirtual 36, 3) := by decide +kernel
theorem dX5_lay_14 : decode cX5_lay 14 = .ok (.goto 9, 3) := by decide +kernel
theorem dX5_lay_17 : decode cX5_lay 17 = .ok (.aload_n 0, 1) := by decide +kernel
theorem dX5_lay_18 : decode cX5_lay 18 = .ok (.lload_n 1, 1) := by decide +kernel
theorem dX5_lay_19 : decode cX5_lay 19 = .ok (.aload_n 3, 1) := by decide +kernel
theorem dX5_lay_20 : decode cX5_lay 20 = .ok (.invokevirtual 40, 3) := by decide +kernel
theorem dX5_lay_23 : decode cX5_lay 23 = .ok (.return_, 1) := by decide +kernel
theorem dX5_layLexicographic_0 : decode cX5_layLexicographic 0 = .ok (.lload_n 1, 1) := by decide +kernel
theorem dX5_layLexicographic_1 : decode cX5_layLexicographic 1 = .ok (.lstore 4, 2) := by decide +kernel
theorem dX5_layLexicographic_3 : decode cX5_layLexicographic 3 = .ok (.aload_n 0, 1) := by decide +kernel
theorem dX5_layLexicographic_4 : decode cX5_layLexicographic 4 = .ok (.getfield 15, 3) := by decide +kernel
theorem dX5_layLexicographic_7 : decode cX5_layLexicographic 7 = .ok (.iconst 1, 1) := by decide +kernel
theorem dX5_layLexicographic_8 : decode cX5_layLexicographic 8 = .ok (.isub, 1) := by decide +kernel
theorem dX5_layLexicographic_9 : decode cX5_layLexicographic 9 = .ok (.istore 6, 2) := by decide +kernel
theorem dX5_layLexicographic_11 : decode cX5_layLexicographic 11 = .ok (.iload 6, 2) := by decide +kernel
theorem dX5_layLexicographic_13 : decode cX5_layLexicographic 13 = .ok (.ifCond .lt 94, 3) := by decide +kernel
theorem dX5_layLexicographic_16 : decode cX5_layLexicographic 16 = .ok (.lload 4, 2) := by decide +kernel
theorem dX5_layLexicographic_18 : decode cX5_layLexicographic 18 = .ok (.aload_n 0, 1) := by decide +kernel
theorem dX5_layLexicographic_19 : decode cX5_layLexicographic 19 = .ok (.getfield 15, 3) := by decide +kernel
theorem dX5_layLexicographic_22 : decode cX5_layLexicographic 22 = .ok (.iload 6, 2) := by decide +kernel
theorem dX5_layLexicographic_24 : decode cX5_layLexicographic 24 = .ok (.isub, 1) := by decide +kernel
theorem dX5_layLexicographic_25 : decode cX5_layLexicographic 25 = .ok (.i2l, 1) := by decide +kernel
theorem dX5_layLexicographic_26 : decode cX5_layLexicographic 26 = .ok (.invokestatic 43, 3) := by decide +kernel
theorem dX5_layLexicographic_29 : decode cX5_layLexicographic 29 = .ok (.l2i, 1) := by decide +kernel
theorem dX5_layLexicographic_30 : decode cX5_layLexicographic 30 = .ok (.istore 7, 2) := by decide +kernel
theorem dX5_layLexicographic_32 : decode cX5_layLexicographic 32 = .ok (.lload 4, 2) := by decide +kernel
theorem dX5_layLexicographic_34 : decode cX5_layLexicographic 34 = .ok (.aload_n 0, 1) := by decide +kernel
theorem dX5_layLexicographic_35 : decode cX5_layLexicographic 35 = .ok (.getfield 15, 3) := by decide +kernel
theorem dX5_layLexicographic_38 : decode cX5_layLexicographic 38 = .ok (.iload 6, 2) := by decide +kernel
theorem dX5_layLexicographic_40 : decode cX5_layLexicographic 40 = .ok (.isub, 1) := by decide +kernel
theorem dX5_layLexicographic_41 : decode cX5_layLexicographic 41 = .ok (.i2l, 1) := by decide +kernel
theorem dX5_layLexicographic_42 : decode cX5_layLexicographic 42 = .ok (.invokestatic 47, 3) := by decide +kernel
theorem dX5_layLexicographic_45 : decode cX5_layLexicographic 45 = .ok (.lstore 4, 2) := by decide +kernel
theorem dX5_layLexicographic_47 : decode cX5_layLexicographic 47 = .ok (.aload_n 3, 1) := by decide +kernel
theorem dX5_layLexicographic_48 : decode cX5_layLexicographic 48 = .ok (.iload 6, 2) := by decide +kernel
theorem dX5_layLexicographic_50 : decode cX5_layLexicographic 50 = .ok (.iload 7, 2) := by decide +kernel
theorem dX5_layLexicographic_52 : decode cX5_layLexicographic 52 = .ok (.invokestatic 50, 3) := by decide +kernel
theorem dX5_layLexicographic_55 : decode cX5_layLexicographic 55 = .ok (.iload 6, 2) := by decide +kernel
theorem dX5_layLexicographic_57 : decode cX5_layLexicographic 57 = .ok (.iconst 1, 1) := by decide +kernel
theorem dX5_layLexicographic_58 : decode cX5_layLexicographic 58 = .ok (.iadd, 1) := by decide +kernel
theorem dX5_layLexicographic_59 : decode cX5_layLexicographic 59 = .ok (.istore 8, 2) := by decide +kernel
theorem dX5_layLexicographic_61 : decode cX5_layLexicographic 61 = .ok (.iload 8, 2) := by decide +kernel
theorem dX5_layLexicographic_63 : decode cX5_layLexicographic 63 = .ok (.aload_n 0, 1) := by decide +kernel
theorem dX5_layLexicographic_64 : decode cX5_layLexicographic 64 = .ok (.getfield 15, 3) := by decide +kernel
theorem dX5_layLexicographic_67 : decode cX5_layLexicographic 67 = .ok (.if_icmp .ge 34, 3) := by decide +kernel
theorem dX5_layLexicographic_70 : decode cX5_layLexicographic 70 = .ok (.aload_n 3, 1) := by decide +kernel
theorem dX5_layLexicographic_71 : decode cX5_layLexicographic 71 = .ok (.iload 8, 2) := by decide +kernel
theorem dX5_layLexicographic_73 : decode cX5_layLexicographic 73 = .ok (.invokestatic 18, 3) := by decide +kernel
theorem dX5_layLexicographic_76 : decode cX5_layLexicographic 76 = .ok (.iload 7, 2) := by decide +kernel
theorem dX5_layLexicographic_78 : decode cX5_layLexicographic 78 = .ok (.if_icmp .lt 17, 3) := by decide +kernel
theorem dX5_layLexicographic_81 : decode cX5_layLexicographic 81 = .ok (.aload_n 3, 1) := by decide +kernel
theorem dX5_layLexicographic_82 : decode cX5_layLexicographic 82 = .ok (.iload 8, 2) := by decide +kernel
theorem dX5_layLexicographic_84 : decode cX5_layLexicographic 84 = .ok (.aload_n 3, 1) := by decide +kernel
theorem dX5_layLexicographic_85 : decode cX5_layLexicographic 85 = .ok (.iload 8, 2) := by decide +kernel
theorem dX5_layLexicographic_87 : decode cX5_layLexicographic 87 = .ok (.invokestatic 18, 3) := by decide +kernel
theorem dX5_layLexicographic_90 : decode cX5_layLexicographic 90 = .ok (.iconst 1, 1) := by decide +kernel
theorem dX5_layLexicographic_91 : decode cX5_layLexicographic 91 = .ok (.iadd, 1) := by decide +kernel
theorem dX5_layLexicographic_92 : decode cX5_layLexicographic 92 = .ok (.invokestatic 50, 3) := by decide +kernel
theorem dX5_layLexicographic_95 : decode cX5_layLexicographic 95 = .ok (.iinc 8 1, 3) := by decide +kernel
theorem dX5_layLexicographic_98 : decode cX5_layLexicographic 98 = .ok (.goto (-37), 3) := by decide +kernel
theorem dX5_layLexicographic_101 : decode cX5_layLexicographic 101 = .ok (.iinc 6 (-1), 3) := by decide +kernel
theorem dX5_layLexicographic_104 : decode cX5_layLexicographic 104 = .ok (.goto (-93), 3) := by decide +kernel
theorem dX5_layLexicographic_107 : decode cX5_layLexicographic 107 = .ok (.return_, 1) := by decide +kernel
theorem dX5_layPlain_0 : decode cX5_layPlain 0 = .ok (.iconst 0, 1) := by decide +kernel
theorem dX5_layPlain_1 : decode cX5_layPlain 1 = .ok (.istore 4, 2) := by decide +kernel
theorem dX5_layPlain_3 : decode cX5_layPlain 3 = .ok (.iload 4, 2) := by decide +kernel
theorem dX5_layPlain_5 : decode cX5_layPlain 5 = .ok (.aload_n 0, 1) := by decide +kernel
theorem dX5_layPlain_6 : decode cX5_layPlain 6 = .ok (.getfield 15, 3) := by decide +kernel
theorem dX5_layPlain_9 : decode cX5_layPlain 9 = .ok (.if_icmp .ge 16, 3) := by decide +kernel
theorem dX5_layPlain_12 : decode cX5_layPlain 12 = .ok (.aload_n 3, 1) := by decide +kernel
theorem dX5_layPlain_13 : decode cX5_layPlain 13 = .ok (.iload 4, 2) := by decide +kernel
theorem dX5_layPlain_15 : decode cX5_layPlain 15 = .ok (.iconst (-1), 1) := by decide +kernel
theorem dX5_layPlain_16 : decode cX5_layPlain 16 = .ok (.invokestatic 50, 3) := by decide +kernel
theorem dX5_layPlain_19 : decode cX5_layPlain 19 = .ok (.iinc 4 1, 3) := by decide +kernel
theorem dX5_layPlain_22 : decode cX5_layPlain 22 = .ok (.goto (-19), 3) := by decide +kernel
theorem dX5_layPlain_25 : decode cX5_layPlain 25 = .ok (.lload_n 1, 1) := by decide +kernel
theorem dX5_layPlain_26 : decode cX5_layPlain 26 = .ok (.lstore 4, 2) := by decide +kernel
theorem dX5_layPlain_28 : decode cX5_layPlain 28 = .ok (.aload_n 0, 1) := by decide +kernel
theorem dX5_layPlain_29 : decode cX5_layPlain 29 = .ok (.getfield 15, 3) := by decide +kernel
theorem dX5_layPlain_32 : decode cX5_layPlain 32 = .ok (.iconst 1, 1) := by decide +kernel
theorem dX5_layPlain_33 : decode cX5_layPlain 33 = .ok (.isub, 1) := by decide +kernel
theorem dX5_layPlain_34 : decode cX5_layPlain 34 = .ok (.istore 6, 2) := by decide +kernel
theorem dX5_layPlain_36 : decode cX5_layPlain 36 = .ok (.iload 6, 2) := by decide +kernel
theorem dX5_layPlain_38 : decode cX5_layPlain 38 = .ok (.ifCond .lt 54, 3) := by decide +kernel
theorem dX5_layPlain_41 : decode cX5_layPlain 41 = .ok (.lload 4, 2) := by decide +kernel
theorem dX5_layPlain_43 : decode cX5_layPlain 43 = .ok (.iload 6, 2) := by decide +kernel
theorem dX5_layPlain_45 : decode cX5_layPlain 45 = .ok (.iconst 1, 1) := by decide +kernel
theorem dX5_layPlain_46 : decode cX5_layPlain 46 = .ok (.iadd, 1) := by decide +kernel
theorem dX5_layPlain_47 : decode cX5_layPlain 47 = .ok (.i2l, 1) := by decide +kernel
theorem dX5_layPlain_48 : decode cX5_layPlain 48 = .ok (.invokestatic 43, 3) := by decide +kernel
theorem dX5_layPlain_51 : decode cX5_layPlain 51 = .ok (.l2i, 1) := by decide +kernel
theorem dX5_layPlain_52 : decode cX5_layPlain 52 = .ok (.istore 7, 2) := by decide +kernel
theorem dX5_layPlain_54 : decode cX5_layPlain 54 = .ok (.lload 4, 2) := by decide +kernel
theorem dX5_layPlain_56 : decode cX5_layPlain 56 = .ok (.iload 6, 2) := by decide +kernel
theorem dX5_layPlain_58 : decode cX5_layPlain 58 = .ok (.iconst 1, 1) := by decide +kernel
theorem dX5_layPlain_59 : decode cX5_layPlain 59 = .ok (.iadd, 1) := by decide +kernel
theorem dX5_layPlain_60 : decode cX5_layPlain 60 = .ok (.i2l, 1) := by decide +kernel
theorem dX5_layPlain_61 : decode cX5_layPlain 61 = .ok (.invokestatic 47, 3) := by decide +kernel
theorem dX5_layPlain_64 : decode cX5_layPlain 64 = .ok (.lstore 4, 2) := by decide +kernel
theorem dX5_layPlain_66 : decode cX5_layPlain 66 = .ok (.aload_n 3, 1) := by decide +kernel
theorem dX5_layPlain_67 : decode cX5_layPlain 67 = .ok (.aload_n 0, 1) := by decide +kernel
theorem dX5_layPlain_68 : decode cX5_layPlain 68 = .ok (.aload_n 3, 1) := by decide +kernel
theorem dX5_layPlain_69 : decode cX5_layPlain 69 = .ok (.lload 4, 2) := by decide +kernel
theorem dX5_layPlain_71 : decode cX5_layPlain 71 = .ok (.iload 6, 2) := by decide +kernel
theorem dX5_layPlain_73 : decode cX5_layPlain 73 = .ok (.iload 7, 2) := by decide +kernel
theorem dX5_layPlain_75 : decode cX5_layPlain 75 = .ok (.invokestatic 32, 3) := by decide +kernel
theorem dX5_layPlain_78 : decode cX5_layPlain 78 = .ok (.invokevirtual 54, 3) := by decide +kernel
theorem dX5_layPlain_81 : decode cX5_layPlain 81 = .ok (.iload 6, 2) := by decide +kernel
theorem dX5_layPlain_83 : decode cX5_layPlain 83 = .ok (.invokestatic 50, 3) := by decide +kernel
theorem dX5_layPlain_86 : decode cX5_layPlain 86 = .ok (.iinc 6 (-1), 3) := by decide +kernel
theorem dX5_layPlain_89 : decode cX5_layPlain 89 = .ok (.goto (-53), 3) := by decide +kernel
theorem dX5_layPlain_92 : decode cX5_layPlain 92 = .ok (.return_, 1) := by decide +kernel
theorem dX5_freePlace_0 : decode cX5_freePlace 0 = .ok (.iconst 0, 1) := by decide +kernel
theorem dX5_freePlace_1 : decode cX5_freePlace 1 = .ok (.istore_n 3, 1) := by decide +kernel
theorem dX5_freePlace_2 : decode cX5_freePlace 2 = .ok (.iconst 0, 1) := by decide +kernel
theorem dX5_freePlace_3 : decode cX5_freePlace 3 = .ok (.istore 4, 2) := by decide +kernel
theorem dX5_freePlace_5 : decode cX5_freePlace 5 = .ok (.iload 4, 2) := by decide +kernel
theorem dX5_freePlace_7 : decode cX5_freePlace 7 = .ok (.aload_n 0, 1) := by decide +kernel
theorem dX5_freePlace_8 : decode cX5_freePlace 8 = .ok (.getfield 15, 3) := by decide +kernel
theorem dX5_freePlace_11 : decode cX5_freePlace 11 = .ok (.if_icmp .ge 29, 3) := by decide +kernel
theorem dX5_freePlace_14 : decode cX5_freePlace 14 = .ok (.aload_n 1, 1) := by decide +kernel
theorem dX5_freePlace_15 : decode cX5_freePlace 15 = .ok (.iload 4, 2) := by decide +kernel
theorem dX5_freePlace_17 : decode cX5_freePlace 17 = .ok (.invokestatic 18, 3) := by decide +kernel
theorem dX5_freePlace_20 : decode cX5_freePlace 20 = .ok (.ifCond .ge 14, 3) := by decide +kernel
theorem dX5_freePlace_23 : decode cX5_freePlace 23 = .ok (.iload_n 3, 1) := by decide +kernel
theorem dX5_freePlace_24 : decode cX5_freePlace 24 = .ok (.iload_n 2, 1) := by decide +kernel
theorem dX5_freePlace_25 : decode cX5_freePlace 25 = .ok (.if_icmp .ne 6, 3) := by decide +kernel
theorem dX5_freePlace_28 : decode cX5_freePlace 28 = .ok (.iload 4, 2) := by decide +kernel
theorem dX5_freePlace_30 : decode cX5_freePlace 30 = .ok (.ireturn, 1) := by decide +kernel
theorem dX5_freePlace_31 : decode cX5_freePlace 31 = .ok (.iinc 3 1, 3) := by decide +kernel
theorem dX5_freePlace_34 : decode cX5_freePlace 34 = .ok (.iinc 4 1, 3) := by decide +kernel
theorem dX5_freePlace_37 : decode cX5_freePlace 37 = .ok (.goto (-32), 3) := by decide +kernel
theorem dX5_freePlace_40 : decode cX5_freePlace 40 = .ok (.iconst (-1), 1) := by decide +kernel
theorem dX5_freePlace_41 : decode cX5_freePlace 41 = .ok (.ireturn, 1) := by decide +kernel
theorem dX5_turn_0 : decode cX5_turn 0 = .ok (.iconst 0, 1) := by decide +kernel
theorem dX5_turn_1 : decode cX5_turn 1 = .ok (.istore 4, 2) := by decide +kernel
theorem dX5_turn_3 : decode cX5_turn 3 = .ok (.iload 4, 2) := by decide +kernel
theorem dX5_turn_5 : decode cX5_turn 5 = .ok (.aload_n 0, 1) := by decide +kernel
theorem dX5_turn_6 : decode cX5_turn 6 = .ok (.getfield 15, 3) := by decide +kernel
theorem dX5_turn_9 : decode cX5_turn 9 = .ok (.if_icmp .ge 21, 3) := by decide +kernel
theorem dX5_turn_12 : decode cX5_turn 12 = .ok (.aload_n 2, 1) := by decide +kernel
theorem dX5_turn_13 : decode cX5_turn 13 = .ok (.aload_n 1, 1) := by decide +kernel
theorem dX5_turn_14 : decode cX5_turn 14 = .ok (.iload 4, 2) := by decide +kernel
theorem dX5_turn_16 : decode cX5_turn 16 = .ok (.invokestatic 18, 3) := by decide +kernel
theorem dX5_turn_19 : decode cX5_turn 19 = .ok (.iload 4, 2) := by decide +kernel
theorem dX5_turn_21 : decode cX5_turn 21 = .ok (.invokestatic 50, 3) := by decide +kernel
theorem dX5_turn_24 : decode cX5_turn 24 = .ok (.iinc 4 1, 3) := by decide +kernel
theorem dX5_turn_27 : decode cX5_turn 27 = .ok (.goto (-24), 3) := by decide +kernel
theorem dX5_turn_30 : decode cX5_turn 30 = .ok (.return_, 1) := by decide +kernel
theorem dX6_init_0 : decode cX6_init 0 = .ok (.aload_n 0, 1) := by decide +kernel
theorem dX6_init_1 : decode cX6_init 1 = .ok (.iconst 0, 1) := by decide +kernel
theorem dX6_init_2 : decode cX6_init 2 = .ok (.iload_n 2, 1) := by decide +kernel
theorem dX6_init_3 : decode cX6_init 3 = .ok (.lload 4, 2) := by decide +kernel
theorem dX6_init_5 : decode cX6_init 5 = .ok (.invokespecial 3, 3) := by decide +kernel
theorem dX6_init_8 : decode cX6_init 8 = .ok (.aload_n 0, 1) := by decide +kernel
theorem dX6_init_9 : decode cX6_init 9 = .ok (.iload_n 1, 1) := by decide +kernel
theorem dX6_init_10 : decode cX6_init 10 = .ok (.putfield 9, 3) := by decide +kernel
theorem dX6_init_13 : decode cX6_init 13 = .ok (.aload_n 0, 1) := by decide +kernel
theorem dX6_init_14 : decode cX6_init 14 = .ok (.iload_n 3, 1) := by decide +kernel
theorem dX6_init_15 : decode cX6_init 15 = .ok (.putfield 15, 3) := by decide +kernel
theorem dX6_init_18 : decode cX6_init 18 = .ok (.return_, 1) := by decide +kernel
theorem dX6_setting_0 : decode cX6_setting 0 = .ok (.iload_n 1, 1) := by decide +kernel
theorem dX6_setting_1 : decode cX6_setting 1 = .ok (.tableswitch 42 0 2 #[27, 32, 37], 27) := by decide +kernel
theorem dX6_setting_28 : decode cX6_setting 28 = .ok (.aload_n 0, 1) := by decide +kernel
theorem dX6_setting_29 : decode cX6_setting 29 = .ok (.getfield 9, 3) := by decide +kernel
theorem dX6_setting_32 : decode cX6_setting 32 = .ok (.ireturn, 1) := by decide +kernel
theorem dX6_setting_33 : decode cX6_setting 33 = .ok (.aload_n 0, 1) := by decide +kernel
theorem dX6_setting_34 : decode cX6_setting 34 = .ok (.getfield 18, 3) := by decide +kernel
theorem dX6_setting_37 : decode cX6_setting 37 = .ok (.ireturn, 1) := by decide +kernel
theorem dX6_setting_38 : decode cX6_setting 38 = .ok (.aload_n 0, 1) := by decide +kernel
theorem dX6_setting_39 : decode cX6_setting 39 = .ok (.getfield 15, 3) := by decide +kernel
theorem dX6_setting_42 : decode cX6_setting 42 = .ok (.ireturn, 1) := by decide +kernel
theorem dX6_setting_43 : decode cX6_setting 43 = .ok (.iconst 0, 1) := by decide +kernel
theorem dX6_setting_44 : decode cX6_setting 44 = .ok (.ireturn, 1) := by decide +kernel
theorem dX6_accepts_0 : decode cX6_accepts 0 = .ok (.iconst (-1), 1) := by decide +kernel
theorem dX6_accepts_1 : decode cX6_accepts 1 = .ok (.istore_n 3, 1) := by decide +kernel
theorem dX6_accepts_2 : decode cX6_accepts 2 = .ok (.iconst 0, 1) := by decide +kernel
theorem dX6_accepts_3 : decode cX6_accepts 3 = .ok (.istore 4, 2) := by decide +kernel
theorem dX6_accepts_5 : decode cX6_accepts 5 = .ok (.iload 4, 2) := by decide +kernel
theorem dX6_accepts_7 : decode cX6_accepts 7 = .ok (.aload_n 0, 1) := by decide +kernel
theorem dX6_accepts_8 : decode cX6_accepts 8 = .ok (.getfield 18, 3) := by decide +kernel
theorem dX6_accepts_11 : decode cX6_accepts 11 = .ok (.if_icmp .ge 37, 3) := by decide +kernel
theorem dX6_accepts_14 : decode cX6_accepts 14 = .ok (.aload_n 1, 1) := by decide +kernel
theorem dX6_accepts_15 : decode cX6_accepts 15 = .ok (.iload 4, 2) := by decide +kernel
theorem dX6_accepts_17 : decode cX6_accepts 17 = .ok (.invokestatic 21, 3) := by decide +kernel
theorem dX6_accepts_20 : decode cX6_accepts 20 = .ok (.istore 5, 2) := by decide +kernel
theorem dX6_accepts_22 : decode cX6_accepts 22 = .ok (.iload 5, 2) := by decide +kernel
theorem dX6_accepts_24 : decode cX6_accepts 24 = .ok (.iload_n 3, 1) := by decide +kernel
theorem dX6_accepts_25 : decode cX6_accepts 25 = .ok (.if_icmp .le 12, 3) := by decide +kernel
theorem dX6_accepts_28 : decode cX6_accepts 28 = .ok (.iload 5, 2) := by decide +kernel
theorem dX6_accepts_30 : decode cX6_accepts 30 = .ok (.aload_n 0, 1) := by decide +kernel
theorem dX6_accepts_31 : decode cX6_accepts 31 = .ok (.getfield 9, 3) := by decide +kernel
theorem dX6_accepts_34 : decode cX6_accepts 34 = .ok (.if_icmp .lt 5, 3) := by decide +kernel
theorem dX6_accepts_37 : decode cX6_accepts 37 = .ok (.iconst 0, 1) := by decide +kernel
theorem dX6_accepts_38 : decode cX6_accepts 38 = .ok (.ireturn, 1) := by decide +kernel
theorem dX6_accepts_39 : decode cX6_accepts 39 = .ok (.iload 5, 2) := by decide +kernel
theorem dX6_accepts_41 : decode cX6_accepts 41 = .ok (.istore_n 3, 1) := by decide +kernel
theorem dX6_accepts_42 : decode cX6_accepts 42 = .ok (.iinc 4 1, 3) := by decide +kernel
theorem dX6_accepts_45 : decode cX6_accepts 45 = .ok (.goto (-40), 3) := by decide +kernel
theorem dX6_accepts_48 : decode cX6_accepts 48 = .ok (.iconst 1, 1) := by decide +kernel
theorem dX6_accepts_49 : decode cX6_accepts 49 = .ok (.ireturn, 1) := by decide +kernel
theorem dX6_placeOf_0 : decode cX6_placeOf 0 = .ok (.aload_n 0, 1) := by decide +kernel
theorem dX6_placeOf_1 : decode cX6_placeOf 1 = .ok (.getfield 15, 3) := by decide +kernel
theorem dX6_placeOf_4 : decode cX6_placeOf 4 = .ok (.ifCond .ne 10, 3) := by decide +kernel
theorem dX6_placeOf_7 : decode cX6_placeOf 7 = .ok (.aload_n 0, 1) := by decide +kernel
theorem dX6_placeOf_8 : decode cX6_placeOf 8 = .ok (.aload_n 1, 1) := by decide +kernel
theorem dX6_placeOf_9 : decode cX6_placeOf 9 = .ok (.aload_n 2, 1) := by decide +kernel
theorem dX6_placeOf_10 : decode cX6_placeOf 10 = .ok (.invokevirtual 25, 3) := by decide +kernel
theorem dX6_placeOf_13 : decode cX6_placeOf 13 = .ok (.lreturn, 1) := by decide +kernel
theorem dX6_placeOf_14 : decode cX6_placeOf 14 = .ok (.lconst 0, 1) := by decide +kernel
theorem dX6_placeOf_15 : decode cX6_placeOf 15 = .ok (.lstore_n 3, 1) := by decide +kernel
theorem dX6_placeOf_16 : decode cX6_placeOf 16 = .ok (.iconst 0, 1) := by decide +kernel
theorem dX6_placeOf_17 : decode cX6_placeOf 17 = .ok (.istore 5, 2) := by decide +kernel
theorem dX6_placeOf_19 : decode cX6_placeOf 19 = .ok (.iload 5, 2) := by decide +kernel
theorem dX6_placeOf_21 : decode cX6_placeOf 21 = .ok (.aload_n 0, 1) := by decide +kernel
theorem dX6_placeOf_22 : decode cX6_placeOf 22 = .ok (.getfield 18, 3) := by decide +kernel
theorem dX6_placeOf_25 : decode cX6_placeOf 25 = .ok (.if_icmp .ge 58, 3) := by decide +kernel
theorem dX6_placeOf_28 : decode cX6_placeOf 28 = .ok (.aload_n 1, 1) := by decide +kernel
theorem dX6_placeOf_29 : decode cX6_placeOf 29 = .ok (.iload 5, 2) := by decide +kernel
theorem dX6_placeOf_31 : decode cX6_placeOf 31 = .ok (.invokestatic 21, 3) := by decide +kernel
theorem dX6_placeOf_34 : decode cX6_placeOf 34 = .ok (.istore 6, 2) := by decide +kernel
theorem dX6_placeOf_36 : decode cX6_placeOf 36 = .ok (.aload_n 0, 1) := by decide +kernel
theorem dX6_placeOf_37 : decode cX6_placeOf 37 = .ok (.getfield 15, 3) := by decide +kernel
theorem dX6_placeOf_40 : decode cX6_placeOf 40 = .ok (.iconst 2, 1) := by decide +kernel
theorem dX6_placeOf_41 : decode cX6_placeOf 41 = .ok (.if_icmp .ne 23, 3) := by decide +kernel
theorem dX6_placeOf_44 : decode cX6_placeOf 44 = .ok (.aload_n 2, 1) := by decide +kernel
theorem dX6_placeOf_45 : decode cX6_placeOf 45 = .ok (.iload 6, 2) := by decide +kernel
theorem dX6_placeOf_47 : decode cX6_placeOf 47 = .ok (.iconst 1, 1) := by decide +kernel
theorem dX6_placeOf_48 : decode cX6_placeOf 48 = .ok (.iadd, 1) := by decide +kernel
theorem dX6_placeOf_49 : decode cX6_placeOf 49 = .ok (.iload 5, 2) := by decide +kernel
theorem dX6_placeOf_51 : decode cX6_placeOf 51 = .ok (.iconst 1, 1) := by decide +kernel
theorem dX6_placeOf_52 : decode cX6_placeOf 52 = .ok (.iadd, 1) := by decide +kernel
theorem dX6_placeOf_53 : decode cX6_placeOf 53 = .ok (.invokevirtual 29, 3) := by decide +kernel
theorem dX6_placeOf_56 : decode cX6_placeOf 56 = .ok (.lconst 1, 1) := by decide +kernel
theorem dX6_placeOf_57 : decode cX6_placeOf 57 = .ok (.lsub, 1) := by decide +kernel
theorem dX6_placeOf_58 : decode cX6_placeOf 58 = .ok (.lload_n 3, 1) := by decide +kernel
theorem dX6_placeOf_59 : decode cX6_placeOf 59 = .ok (.lsub, 1) := by decide +kernel
theorem dX6_placeOf_60 : decode cX6_placeOf 60 = .ok (.lstore_n 3, 1) := by decide +kernel
theorem dX6_placeOf_61 : decode cX6_placeOf 61 = .ok (.goto 16, 3) := by decide +kernel
theorem dX6_placeOf_64 : decode cX6_placeOf 64 = .ok (.lload_n 3, 1) := by decide +kernel
theorem dX6_placeOf_65 : decode cX6_placeOf 65 = .ok (.aload_n 2, 1) := by decide +kernel
theorem dX6_placeOf_66 : decode cX6_placeOf 66 = .ok (.iload 6, 2) := by decide +kernel
theorem dX6_placeOf_68 : decode cX6_placeOf 68 = .ok (.iload 5, 2) := by decide +kernel
theorem dX6_placeOf_70 : decode cX6_placeOf 70 = .ok (.iconst 1, 1) := by decide +kernel
theorem dX6_placeOf_71 : decode cX6_placeOf 71 = .ok (.iadd, 1) := by decide +kernel
theorem dX6_placeOf_72 : decode cX6_placeOf 72 = .ok (.invokevirtual 29, 3) := by decide +kernel
theorem dX6_placeOf_75 : decode cX6_placeOf 75 = .ok (.ladd, 1) := by decide +kernel
theorem dX6_placeOf_76 : decode cX6_placeOf 76 = .ok (.lstore_n 3, 1) := by decide +kernel
theorem dX6_placeOf_77 : decode cX6_placeOf 77 = .ok (.iinc 5 1, 3) := by decide +kernel
theorem dX6_placeOf_80 : decode cX6_placeOf 80 = .ok (.goto (-61), 3) := by decide +kernel
theorem dX6_placeOf_83 : decode cX6_placeOf 83 = .ok (.lload_n 3, 1) := by decide +kernel
theorem dX6_placeOf_84 : decode cX6_placeOf 84 = .ok (.lreturn, 1) := by decide +kernel
theorem dX6_lexicographicPlace_0 : decode cX6_lexicographicPlace 0 = .ok (.lconst 0, 1) := by decide +kernel
theorem dX6_lexicographicPlace_1 : decode cX6_lexicographicPlace 1 = .ok (.lstore_n 3, 1) := by decide +kernel
theorem dX6_lexicographicPlace_2 : decode cX6_lexicographicPlace 2 = .ok (.iconst 0, 1) := by decide +kernel
theorem dX6_lexicographicPlace_3 : decode cX6_lexicographicPlace 3 = .ok (.istore 5, 2) := by decide +kernel
theorem dX6_lexicographicPlace_5 : decode cX6_lexicographicPlace 5 = .ok (.iconst 0, 1) := by decide +kernel
theorem dX6_lexicographicPlace_6 : decode cX6_lexicographicPlace 6 = .ok (.istore 6, 2) := by decide +kernel
theorem dX6_lexicographicPlace_8 : decode cX6_lexicographicPlace 8 = .ok (.iload 6, 2) := by decide +kernel
theorem dX6_lexicographicPlace_10 : decode cX6_lexicographicPlace 10 = .ok (.aload_n 0, 1) := by decide +kernel
theorem dX6_lexicographicPlace_11 : decode cX6_lexicographicPlace 11 = .ok (.getfield 9, 3) := by decide +kernel
theorem dX6_lexicographicPlace_14 : decode cX6_lexicographicPlace 14 = .ok (.if_icmp .ge 60, 3) := by decide +kernel
theorem dX6_lexicographicPlace_17 : decode cX6_lexicographicPlace 17 = .ok (.iload 5, 2) := by decide +kernel
theorem dX6_lexicographicPlace_19 : decode cX6_lexicographicPlace 19 = .ok (.aload_n 0, 1) := by decide +kernel
theorem dX6_lexicographicPlace_20 : decode cX6_lexicographicPlace 20 = .ok (.getfield 18, 3) := by decide +kernel
theorem dX6_lexicographicPlace_23 : decode cX6_lexicographicPlace 23 = .ok (.if_icmp .ge 51, 3) := by decide +kernel
theorem dX6_lexicographicPlace_26 : decode cX6_lexicographicPlace 26 = .ok (.aload_n 1, 1) := by decide +kernel
theorem dX6_lexicographicPlace_27 : decode cX6_lexicographicPlace 27 = .ok (.iload 5, 2) := by decide +kernel
theorem dX6_lexicographicPlace_29 : decode cX6_lexicographicPlace 29 = .ok (.invokestatic 21, 3) := by decide +kernel
theorem dX6_lexicographicPlace_32 : decode cX6_lexicographicPlace 32 = .ok (.iload 6, 2) := by decide +kernel
theorem dX6_lexicographicPlace_34 : decode cX6_lexicographicPlace 34 = .ok (.if_icmp .ne 9, 3) := by decide +kernel
theorem dX6_lexicographicPlace_37 : decode cX6_lexicographicPlace 37 = .ok (.iinc 5 1, 3) := by decide +kernel
theorem dX6_lexicographicPlace_40 : decode cX6_lexicographicPlace 40 = .ok (.goto 28, 3) := by decide +kernel
theorem dX6_lexicographicPlace_43 : decode cX6_lexicographicPlace 43 = .ok (.lload_n 3, 1) := by decide +kernel
theorem dX6_lexicographicPlace_44 : decode cX6_lexicographicPlace 44 = .ok (.aload_n 2, 1) := by decide +kernel
theorem dX6_lexicographicPlace_45 : decode cX6_lexicographicPlace 45 = .ok (.aload_n 0, 1) := by decide +kernel
theorem dX6_lexicographicPlace_46 : decode cX6_lexicographicPlace 46 = .ok (.getfield 9, 3) := by decide +kernel
theorem dX6_lexicographicPlace_49 : decode cX6_lexicographicPlace 49 = .ok (.iconst 1, 1) := by decide +kernel
theorem dX6_lexicographicPlace_50 : decode cX6_lexicographicPlace 50 = .ok (.isub, 1) := by decide +kernel
theorem dX6_lexicographicPlace_51 : decode cX6_lexicographicPlace 51 = .ok (.iload 6, 2) := by decide +kernel
theorem dX6_lexicographicPlace_53 : decode cX6_lexicographicPlace 53 = .ok (.isub, 1) := by decide +kernel
theorem dX6_lexicographicPlace_54 : decode cX6_lexicographicPlace 54 = .ok (.aload_n 0, 1) := by decide +kernel
theorem dX6_lexicographicPlace_55 : decode cX6_lexicographicPlace 55 = .ok (.getfield 18, 3) := by decide +kernel
theorem dX6_lexicographicPlace_58 : decode cX6_lexicographicPlace 58 = .ok (.iconst 1, 1) := by decide +kernel
theorem dX6_lexicographicPlace_59 : decode cX6_lexicographicPlace 59 = .ok (.isub, 1) := by decide +kernel
theorem dX6_lexicographicPlace_60 : decode cX6_lexicographicPlace 60 = .ok (.iload 5, 2) := by decide +kernel
theorem dX6_lexicographicPlace_62 : decode cX6_lexicographicPlace 62 = .ok (.isub, 1) := by decide +kernel
theorem dX6_lexicographicPlace_63 : decode cX6_lexicographicPlace 63 = .ok (.invokevirtual 29, 3) := by decide +kernel
theorem dX6_lexicographicPlace_66 : decode cX6_lexicographicPlace 66 = .ok (.ladd, 1) := by decide +kernel
theorem dX6_lexicographicPlace_67 : decode cX6_lexicographicPlace 67 = .ok (.lstore_n 3, 1) := by decide +kernel
theorem dX6_lexicographicPlace_68 : decode cX6_lexicographicPlace 68 = .ok (.iinc 6 1, 3) := by decide +kernel
theorem dX6_lexicographicPlace_71 : decode cX6_lexicographicPlace 71 = .ok (.goto (-63), 3) := by decide +kernel
theorem dX6_lexicographicPlace_74 : decode cX6_lexicographicPlace 74 = .ok (.lload_n 3, 1) := by decide +kernel
theorem dX6_lexicographicPlace_75 : decode cX6_lexicographicPlace 75 = .ok (.lreturn, 1) := by decide +kernel
theorem dX6_lay_0 : decode cX6_lay 0 = .ok (.aload_n 0, 1) := by decide +kernel
theorem dX6_lay_1 : decode cX6_lay 1 = .ok (.getfield 15, 3) := by decide +kernel
theorem dX6_lay_4 : decode cX6_lay 4 = .ok (.ifCond .ne 12, 3) := by decide +kernel
theorem dX6_lay_7 : decode cX6_lay 7 = .ok (.aload_n 0, 1) := by decide +kernel
theorem dX6_lay_8 : decode cX6_lay 8 = .ok (.lload_n 1, 1) := by decide +kernel
theorem dX6_lay_9 : decode cX6_lay 9 = .ok (.aload_n 3, 1) := by decide +kernel
theorem dX6_lay_10 : decode cX6_lay 10 = .ok (.aload 4, 2) := by decide +kernel
theorem dX6_lay_12 : decode cX6_lay 12 = .ok (.invokevirtual 35, 3) := by decide +kernel
theorem dX6_lay_15 : decode cX6_lay 15 = .ok (.return_, 1) := by decide +kernel
theorem dX6_lay_16 : decode cX6_lay 16 = .ok (.lload_n 1, 1) := by decide +kernel
theorem dX6_lay_17 : decode cX6_lay 17 = .ok (.lstore 5, 2) := by decide +kernel
theorem dX6_lay_19 : decode cX6_lay 19 = .ok (.aload_n 0, 1) := by decide +kernel
theorem dX6_lay_20 : decode cX6_lay 20 = .ok (.getfield 18, 3) := by decide +kernel
theorem dX6_lay_23 : decode cX6_lay 23 = .ok (.iconst 1, 1) := by decide +kernel
theorem dX6_lay_24 : decode cX6_lay 24 = .ok (.isub, 1) := by decide +kernel
theorem dX6_lay_25 : decode cX6_lay 25 = .ok (.istore 7, 2) := by decide +kernel
theorem dX6_lay_27 : decode cX6_lay 27 = .ok (.aload_n 0, 1) := by decide +kernel
theorem dX6_lay_28 : decode cX6_lay 28 = .ok (.getfield 9, 3) := by decide +kernel
theorem dX6_lay_31 : decode cX6_lay 31 = .ok (.iconst 1, 1) := by decide +kernel
theorem dX6_lay_32 : decode cX6_lay 32 = .ok (.isub, 1) := by decide +kernel
theorem dX6_lay_33 : decode cX6_lay 33 = .ok (.istore 8, 2) := by decide +kernel
theorem dX6_lay_35 : decode cX6_lay 35 = .ok (.iload 8, 2) := by decide +kernel
theorem dX6_lay_37 : decode cX6_lay 37 = .ok (.ifCond .lt 82, 3) := by decide +kernel
theorem dX6_lay_40 : decode cX6_lay 40 = .ok (.iload 7, 2) := by decide +kernel
theorem dX6_lay_42 : decode cX6_lay 42 = .ok (.ifCond .lt 77, 3) := by decide +kernel
theorem dX6_lay_45 : decode cX6_lay 45 = .ok (.aload 4, 2) := by decide +kernel
theorem dX6_lay_47 : decode cX6_lay 47 = .ok (.iload 8, 2) := by decide +kernel
theorem dX6_lay_49 : decode cX6_lay 49 = .ok (.iload 7, 2) := by decide +kernel
theorem dX6_lay_51 : decode cX6_lay 51 = .ok (.iconst 1, 1) := by decide +kernel
theorem dX6_lay_52 : decode cX6_lay 52 = .ok (.iadd, 1) := by decide +kernel
theorem dX6_lay_53 : decode cX6_lay 53 = .ok (.invokevirtual 29, 3) := by decide +kernel
theorem dX6_lay_56 : decode cX6_lay 56 = .ok (.lstore 9, 2) := by decide +kernel
theorem dX6_lay_58 : decode cX6_lay 58 = .ok (.lload 5, 2) := by decide +kernel
theorem dX6_lay_60 : decode cX6_lay 60 = .ok (.lload 9, 2) := by decide +kernel
theorem dX6_lay_62 : decode cX6_lay 62 = .ok (.lcmp, 1) := by decide +kernel
theorem dX6_lay_63 : decode cX6_lay 63 = .ok (.ifCond .lt 50, 3) := by decide +kernel
theorem dX6_lay_66 : decode cX6_lay 66 = .ok (.aload_n 3, 1) := by decide +kernel
theorem dX6_lay_67 : decode cX6_lay 67 = .ok (.iload 7, 2) := by decide +kernel
theorem dX6_lay_69 : decode cX6_lay 69 = .ok (.iload 8, 2) := by decide +kernel
theorem dX6_lay_71 : decode cX6_lay 71 = .ok (.invokestatic 39, 3) := by decide +kernel
theorem dX6_lay_74 : decode cX6_lay 74 = .ok (.aload_n 0, 1) := by decide +kernel
theorem dX6_lay_75 : decode cX6_lay 75 = .ok (.getfield 15, 3) := by decide +kernel
theorem dX6_lay_78 : decode cX6_lay 78 = .ok (.iconst 2, 1) := by decide +kernel
theorem dX6_lay_79 : decode cX6_lay 79 = .ok (.if_icmp .ne 24, 3) := by decide +kernel
theorem dX6_lay_82 : decode cX6_lay 82 = .ok (.aload 4, 2) := by decide +kernel
theorem dX6_lay_84 : decode cX6_lay 84 = .ok (.iload 8, 2) := by decide +kernel
theorem dX6_lay_86 : decode cX6_lay 86 = .ok (.iconst 1, 1) := by decide +kernel
theorem dX6_lay_87 : decode cX6_lay 87 = .ok (.iadd, 1) := by decide +kernel
theorem dX6_lay_88 : decode cX6_lay 88 = .ok (.iload 7, 2) := by decide +kernel
theorem dX6_lay_90 : decode cX6_lay 90 = .ok (.iconst 1, 1) := by decide +kernel
theorem dX6_lay_91 : decode cX6_lay 91 = .ok (.iadd, 1) := by decide +kernel
theorem dX6_lay_92 : decode cX6_lay 92 = .ok (.invokevirtual 29, 3) := by decide +kernel
theorem dX6_lay_95 : decode cX6_lay 95 = .ok (.lconst 1, 1) := by decide +kernel
theorem dX6_lay_96 : decode cX6_lay 96 = .ok (.lsub, 1) := by decide +kernel
theorem dX6_lay_97 : decode cX6_lay 97 = .ok (.lload 5, 2) := by decide +kernel
theorem dX6_lay_99 : decode cX6_lay 99 = .ok (.lsub, 1) := by decide +kernel
theorem dX6_lay_100 : decode cX6_lay 100 = .ok (.goto 8, 3) := by decide +kernel
theorem dX6_lay_103 : decode cX6_lay 103 = .ok (.lload 5, 2) := by decide +kernel
theorem dX6_lay_105 : decode cX6_lay 105 = .ok (.lload 9, 2) := by decide +kernel
theorem dX6_lay_107 : decode cX6_lay 107 = .ok (.lsub, 1) := by decide +kernel
theorem dX6_lay_108 : decode cX6_lay 108 = .ok (.lstore 5, 2) := by decide +kernel
theorem dX6_lay_110 : decode cX6_lay 110 = .ok (.iinc 7 (-1), 3) := by decide +kernel
theorem dX6_lay_113 : decode cX6_lay 113 = .ok (.iinc 8 (-1), 3) := by decide +kernel
theorem dX6_lay_116 : decode cX6_lay 116 = .ok (.goto (-81), 3) := by decide +kernel
theorem dX6_lay_119 : decode cX6_lay 119 = .ok (.return_, 1) := by decide +kernel
theorem dX6_layLexicographic_0 : decode cX6_layLexicographic 0 = .ok (.lload_n 1, 1) := by decide +kernel
theorem dX6_layLexicographic_1 : decode cX6_layLexicographic 1 = .ok (.lstore 5, 2) := by decide +kernel
theorem dX6_layLexicographic_3 : decode cX6_layLexicographic 3 = .ok (.iconst 0, 1) := by decide +kernel
theorem dX6_layLexicographic_4 : decode cX6_layLexicographic 4 = .ok (.istore 7, 2) := by decide +kernel
theorem dX6_layLexicographic_6 : decode cX6_layLexicographic 6 = .ok (.iconst 0, 1) := by decide +kernel
theorem dX6_layLexicographic_7 : decode cX6_layLexicographic 7 = .ok (.istore 8, 2) := by decide +kernel
theorem dX6_layLexicographic_9 : decode cX6_layLexicographic 9 = .ok (.iload 8, 2) := by decide +kernel
theorem dX6_layLexicographic_11 : decode cX6_layLexicographic 11 = .ok (.aload_n 0, 1) := by decide +kernel
theorem dX6_layLexicographic_12 : decode cX6_layLexicographic 12 = .ok (.getfield 9, 3) := by decide +kernel
theorem dX6_layLexicographic_15 : decode cX6_layLexicographic 15 = .ok (.if_icmp .ge 72, 3) := by decide +kernel
theorem dX6_layLexicographic_18 : decode cX6_layLexicographic 18 = .ok (.iload 7, 2) := by decide +kernel
theorem dX6_layLexicographic_20 : decode cX6_layLexicographic 20 = .ok (.aload_n 0, 1) := by decide +kernel
theorem dX6_layLexicographic_21 : decode cX6_layLexicographic 21 = .ok (.getfield 18, 3) := by decide +kernel
theorem dX6_layLexicographic_24 : decode cX6_layLexicographic 24 = .ok (.if_icmp .ge 63, 3) := by decide +kernel
theorem dX6_layLexicographic_27 : decode cX6_layLexicographic 27 = .ok (.aload 4, 2) := by decide +kernel
theorem dX6_layLexicographic_29 : decode cX6_layLexicographic 29 = .ok (.aload_n 0, 1) := by decide +kernel
theorem dX6_layLexicographic_30 : decode cX6_layLexicographic 30 = .ok (.getfield 9, 3) := by decide +kernel
theorem dX6_layLexicographic_33 : decode cX6_layLexicographic 33 = .ok (.iconst 1, 1) := by decide +kernel
theorem dX6_layLexicographic_34 : decode cX6_layLexicographic 34 = .ok (.isub, 1) := by decide +kernel
theorem dX6_layLexicographic_35 : decode cX6_layLexicographic 35 = .ok (.iload 8, 2) := by decide +kernel
theorem dX6_layLexicographic_37 : decode cX6_layLexicographic 37 = .ok (.isub, 1) := by decide +kernel
theorem dX6_layLexicographic_38 : decode cX6_layLexicographic 38 = .ok (.aload_n 0, 1) := by decide +kernel
theorem dX6_layLexicographic_39 : decode cX6_layLexicographic 39 = .ok (.getfield 18, 3) := by decide +kernel
theorem dX6_layLexicographic_42 : decode cX6_layLexicographic 42 = .ok (.iconst 1, 1) := by decide +kernel
theorem dX6_layLexicographic_43 : decode cX6_layLexicographic 43 = .ok (.isub, 1) := by decide +kernel
theorem dX6_layLexicographic_44 : decode cX6_layLexicographic 44 = .ok (.iload 7, 2) := by decide +kernel
theorem dX6_layLexicographic_46 : decode cX6_layLexicographic 46 = .ok (.isub, 1) := by decide +kernel
theorem dX6_layLexicographic_47 : decode cX6_layLexicographic 47 = .ok (.invokevirtual 29, 3) := by decide +kernel
theorem dX6_layLexicographic_50 : decode cX6_layLexicographic 50 = .ok (.lstore 9, 2) := by decide +kernel
theorem dX6_layLexicographic_52 : decode cX6_layLexicographic 52 = .ok (.lload 5, 2) := by decide +kernel
theorem dX6_layLexicographic_54 : decode cX6_layLexicographic 54 = .ok (.lload 9, 2) := by decide +kernel
theorem dX6_layLexicographic_56 : decode cX6_layLexicographic 56 = .ok (.lcmp, 1) := by decide +kernel
theorem dX6_layLexicographic_57 : decode cX6_layLexicographic 57 = .ok (.ifCond .ge 17, 3) := by decide +kernel
theorem dX6_layLexicographic_60 : decode cX6_layLexicographic 60 = .ok (.aload_n 3, 1) := by decide +kernel
theorem dX6_layLexicographic_61 : decode cX6_layLexicographic 61 = .ok (.iload 7, 2) := by decide +kernel
theorem dX6_layLexicographic_63 : decode cX6_layLexicographic 63 = .ok (.iload 8, 2) := by decide +kernel
theorem dX6_layLexicographic_65 : decode cX6_layLexicographic 65 = .ok (.invokestatic 39, 3) := by decide +kernel
theorem dX6_layLexicographic_68 : decode cX6_layLexicographic 68 = .ok (.iinc 7 1, 3) := by decide +kernel
theorem dX6_layLexicographic_71 : decode cX6_layLexicographic 71 = .ok (.goto 10, 3) := by decide +kernel
theorem dX6_layLexicographic_74 : decode cX6_layLexicographic 74 = .ok (.lload 5, 2) := by decide +kernel
theorem dX6_layLexicographic_76 : decode cX6_layLexicographic 76 = .ok (.lload 9, 2) := by decide +kernel
theorem dX6_layLexicographic_78 : decode cX6_layLexicographic 78 = .ok (.lsub, 1) := by decide +kernel
theorem dX6_layLexicographic_79 : decode cX6_layLexicographic 79 = .ok (.lstore 5, 2) := by decide +kernel
theorem dX6_layLexicographic_81 : decode cX6_layLexicographic 81 = .ok (.iinc 8 1, 3) := by decide +kernel
theorem dX6_layLexicographic_84 : decode cX6_layLexicographic 84 = .ok (.goto (-75), 3) := by decide +kernel
theorem dX6_layLexicographic_87 : decode cX6_layLexicographic 87 = .ok (.return_, 1) := by decide +kernel
theorem dX6_turn_0 : decode cX6_turn 0 = .ok (.iconst 0, 1) := by decide +kernel
theorem dX6_turn_1 : decode cX6_turn 1 = .ok (.istore 4, 2) := by decide +kernel
theorem dX6_turn_3 : decode cX6_turn 3 = .ok (.iconst 0, 1) := by decide +kernel
theorem dX6_turn_4 : decode cX6_turn 4 = .ok (.istore 5, 2) := by decide +kernel
theorem dX6_turn_6 : decode cX6_turn 6 = .ok (.iconst 0, 1) := by decide +kernel
theorem dX6_turn_7 : decode cX6_turn 7 = .ok (.istore 6, 2) := by decide +kernel
theorem dX6_turn_9 : decode cX6_turn 9 = .ok (.iload 6, 2) := by decide +kernel
theorem dX6_turn_11 : decode cX6_turn 11 = .ok (.aload_n 0, 1) := by decide +kernel
theorem dX6_turn_12 : decode cX6_turn 12 = .ok (.getfield 9, 3) := by decide +kernel
theorem dX6_turn_15 : decode cX6_turn 15 = .ok (.if_icmp .ge 46, 3) := by decide +kernel
theorem dX6_turn_18 : decode cX6_turn 18 = .ok (.iload 4, 2) := by decide +kernel
theorem dX6_turn_20 : decode cX6_turn 20 = .ok (.aload_n 0, 1) := by decide +kernel
theorem dX6_turn_21 : decode cX6_turn 21 = .ok (.getfield 18, 3) := by decide +kernel
theorem dX6_turn_24 : decode cX6_turn 24 = .ok (.if_icmp .ge 20, 3) := by decide +kernel
theorem dX6_turn_27 : decode cX6_turn 27 = .ok (.aload_n 1, 1) := by decide +kernel
theorem dX6_turn_28 : decode cX6_turn 28 = .ok (.iload 4, 2) := by decide +kernel
theorem dX6_turn_30 : decode cX6_turn 30 = .ok (.invokestatic 21, 3) := by decide +kernel
theorem dX6_turn_33 : decode cX6_turn 33 = .ok (.iload 6, 2) := by decide +kernel
theorem dX6_turn_35 : decode cX6_turn 35 = .ok (.if_icmp .ne 9, 3) := by decide +kernel
theorem dX6_turn_38 : decode cX6_turn 38 = .ok (.iinc 4 1, 3) := by decide +kernel
theorem dX6_turn_41 : decode cX6_turn 41 = .ok (.goto 14, 3) := by decide +kernel
theorem dX6_turn_44 : decode cX6_turn 44 = .ok (.aload_n 2, 1) := by decide +kernel
theorem dX6_turn_45 : decode cX6_turn 45 = .ok (.iload 5, 2) := by decide +kernel
theorem dX6_turn_47 : decode cX6_turn 47 = .ok (.iload 6, 2) := by decide +kernel
theorem dX6_turn_49 : decode cX6_turn 49 = .ok (.invokestatic 39, 3) := by decide +kernel
theorem dX6_turn_52 : decode cX6_turn 52 = .ok (.iinc 5 1, 3) := by decide +kernel
theorem dX6_turn_55 : decode cX6_turn 55 = .ok (.iinc 6 1, 3) := by decide +kernel
theorem dX6_turn_58 : decode cX6_turn 58 = .ok (.goto (-49), 3) := by decide +kernel
theorem dX6_turn_61 : decode cX6_turn 61 = .ok (.return_, 1) := by decide +kernel
theorem dX6_turnedFamily_0 : decode cX6_turnedFamily 0 = .ok (.new 10, 3) := by decide +kernel
theorem dX6_turnedFamily_3 : decode cX6_turnedFamily 3 = .ok (.dup, 1) := by decide +kernel
theorem dX6_turnedFamily_4 : decode cX6_turnedFamily 4 = .ok (.aload_n 0, 1) := by decide +kernel
theorem dX6_turnedFamily_5 : decode cX6_turnedFamily 5 = .ok (.getfield 9, 3) := by decide +kernel
theorem dX6_turnedFamily_8 : decode cX6_turnedFamily 8 = .ok (.aload_n 0, 1) := by decide +kernel
theorem dX6_turnedFamily_9 : decode cX6_turnedFamily 9 = .ok (.getfield 9, 3) := by decide +kernel
theorem dX6_turnedFamily_12 : decode cX6_turnedFamily 12 = .ok (.aload_n 0, 1) := by decide +kernel
theorem dX6_turnedFamily_13 : decode cX6_turnedFamily 13 = .ok (.getfield 18, 3) := by decide +kernel
theorem dX6_turnedFamily_16 : decode cX6_turnedFamily 16 = .ok (.isub, 1) := by decide +kernel
theorem dX6_turnedFamily_17 : decode cX6_turnedFamily 17 = .ok (.aload_n 0, 1) := by decide +kernel
theorem dX6_turnedFamily_18 : decode cX6_turnedFamily 18 = .ok (.getfield 15, 3) := by decide +kernel
theorem dX6_turnedFamily_21 : decode cX6_turnedFamily 21 = .ok (.aload_n 0, 1) := by decide +kernel
theorem dX6_turnedFamily_22 : decode cX6_turnedFamily 22 = .ok (.getfield 43, 3) := by decide +kernel
theorem dX6_turnedFamily_25 : decode cX6_turnedFamily 25 = .ok (.invokespecial 47, 3) := by decide +kernel
theorem dX6_turnedFamily_28 : decode cX6_turnedFamily 28 = .ok (.areturn, 1) := by decide +kernel
theorem dX7_init_0 : decode cX7_init 0 = .ok (.aload_n 0, 1) := by decide +kernel
theorem dX7_init_1 : decode cX7_init 1 = .ok (.iconst 3, 1) := by decide +kernel
theorem dX7_init_2 : decode cX7_init 2 = .ok (.iload_n 1, 1) := by decide +kernel
theorem dX7_init_3 : decode cX7_init 3 = .ok (.lload_n 2, 1) := by decide +kernel
theorem dX7_init_4 : decode cX7_init 4 = .ok (.invokespecial 3, 3) := by decide +kernel
theorem dX7_init_7 : decode cX7_init 7 = .ok (.return_, 1) := by decide +kernel
theorem dX7_setting_0 : decode cX7_setting 0 = .ok (.iload_n 1, 1) := by decide +kernel
theorem dX7_setting_1 : decode cX7_setting 1 = .ok (.ifCond .ne 10, 3) := by decide +kernel
theorem dX7_setting_4 : decode cX7_setting 4 = .ok (.aload_n 0, 1) := by decide +kernel
theorem dX7_setting_5 : decode cX7_setting 5 = .ok (.getfield 9, 3) := by decide +kernel
theorem dX7_setting_8 : decode cX7_setting 8 = .ok (.goto 4, 3) := by decide +kernel
theorem dX7_setting_11 : decode cX7_setting 11 = .ok (.iconst 0, 1) := by decide +kernel
theorem dX7_setting_12 : decode cX7_setting 12 = .ok (.ireturn, 1) := by decide +kernel
theorem dX7_accepts_0 : decode cX7_accepts 0 = .ok (.aload_n 1, 1) := by decide +kernel
theorem dX7_accepts_1 : decode cX7_accepts 1 = .ok (.aload_n 0, 1) := by decide +kernel
theorem dX7_accepts_2 : decode cX7_accepts 2 = .ok (.getfield 9, 3) := by decide +kernel
theorem dX7_accepts_5 : decode cX7_accepts 5 = .ok (.aload_n 2, 1) := by decide +kernel
theorem dX7_accepts_6 : decode cX7_accepts 6 = .ok (.getfield 15, 3) := by decide +kernel
theorem dX7_accepts_9 : decode cX7_accepts 9 = .ok (.invokestatic 21, 3) := by decide +kernel
theorem dX7_accepts_12 : decode cX7_accepts 12 = .ok (.ireturn, 1) := by decide +kernel
theorem dX7_measure_0 : decode cX7_measure 0 = .ok (.aload_n 2, 1) := by decide +kernel
theorem dX7_measure_1 : decode cX7_measure 1 = .ok (.iconst 0, 1) := by decide +kernel
theorem dX7_measure_2 : decode cX7_measure 2 = .ok (.iload_n 1, 1) := by decide +kernel
theorem dX7_measure_3 : decode cX7_measure 3 = .ok (.invokestatic 25, 3) := by decide +kernel
theorem dX7_measure_6 : decode cX7_measure 6 = .ok (.iconst 0, 1) := by decide +kernel
theorem dX7_measure_7 : decode cX7_measure 7 = .ok (.istore_n 3, 1) := by decide +kernel
theorem dX7_measure_8 : decode cX7_measure 8 = .ok (.iload_n 3, 1) := by decide +kernel
theorem dX7_measure_9 : decode cX7_measure 9 = .ok (.iload_n 1, 1) := by decide +kernel
theorem dX7_measure_10 : decode cX7_measure 10 = .ok (.if_icmp .ge 47, 3) := by decide +kernel
theorem dX7_measure_13 : decode cX7_measure 13 = .ok (.aload_n 0, 1) := by decide +kernel
theorem dX7_measure_14 : decode cX7_measure 14 = .ok (.iload_n 3, 1) := by decide +kernel
theorem dX7_measure_15 : decode cX7_measure 15 = .ok (.invokestatic 29, 3) := by decide +kernel
theorem dX7_measure_18 : decode cX7_measure 18 = .ok (.istore 4, 2) := by decide +kernel
theorem dX7_measure_20 : decode cX7_measure 20 = .ok (.aload_n 2, 1) := by decide +kernel
theorem dX7_measure_21 : decode cX7_measure 21 = .ok (.iload_n 3, 1) := by decide +kernel
theorem dX7_measure_22 : decode cX7_measure 22 = .ok (.invokestatic 29, 3) := by decide +kernel
theorem dX7_measure_25 : decode cX7_measure 25 = .ok (.iconst 1, 1) := by decide +kernel
theorem dX7_measure_26 : decode cX7_measure 26 = .ok (.isub, 1) := by decide +kernel
theorem dX7_measure_27 : decode cX7_measure 27 = .ok (.iload 4, 2) := by decide +kernel
theorem dX7_measure_29 : decode cX7_measure 29 = .ok (.isub, 1) := by decide +kernel
theorem dX7_measure_30 : decode cX7_measure 30 = .ok (.istore 5, 2) := by decide +kernel
theorem dX7_measure_32 : decode cX7_measure 32 = .ok (.iload 4, 2) := by decide +kernel
theorem dX7_measure_34 : decode cX7_measure 34 = .ok (.ifCond .lt 8, 3) := by decide +kernel
theorem dX7_measure_37 : decode cX7_measure 37 = .ok (.iload 5, 2) := by decide +kernel
theorem dX7_measure_39 : decode cX7_measure 39 = .ok (.ifCond .ge 5, 3) := by decide +kernel
theorem dX7_measure_42 : decode cX7_measure 42 = .ok (.iconst 0, 1) := by decide +kernel
theorem dX7_measure_43 : decode cX7_measure 43 = .ok (.ireturn, 1) := by decide +kernel
theorem dX7_measure_44 : decode cX7_measure 44 = .ok (.aload_n 2, 1) := by decide +kernel
theorem dX7_measure_45 : decode cX7_measure 45 = .ok (.iload_n 3, 1) := by decide +kernel
theorem dX7_measure_46 : decode cX7_measure 46 = .ok (.iload 4, 2) := by decide +kernel
theorem dX7_measure_48 : decode cX7_measure 48 = .ok (.invokestatic 33, 3) := by decide +kernel
theorem dX7_measure_51 : decode cX7_measure 51 = .ok (.iinc 3 1, 3) := by decide +kernel
theorem dX7_measure_54 : decode cX7_measure 54 = .ok (.goto (-46), 3) := by decide +kernel
theorem dX7_measure_57 : decode cX7_measure 57 = .ok (.iconst 1, 1) := by decide +kernel
theorem dX7_measure_58 : decode cX7_measure 58 = .ok (.ireturn, 1) := by decide +kernel
theorem dX7_splitSize_0 : decode cX7_splitSize 0 = .ok (.aload_n 0, 1) := by decide +kernel
theorem dX7_splitSize_1 : decode cX7_splitSize 1 = .ok (.iload_n 1, 1) := by decide +kernel
theorem dX7_splitSize_2 : decode cX7_splitSize 2 = .ok (.invokestatic 29, 3) := by decide +kernel
theorem dX7_splitSize_5 : decode cX7_splitSize 5 = .ok (.iconst 1, 1) := by decide +kernel
theorem dX7_splitSize_6 : decode cX7_splitSize 6 = .ok (.isub, 1) := by decide +kernel
theorem dX7_splitSize_7 : decode cX7_splitSize 7 = .ok (.iload_n 2, 1) := by decide +kernel
theorem dX7_splitSize_8 : decode cX7_splitSize 8 = .ok (.isub, 1) := by decide +kernel
theorem dX7_splitSize_9 : decode cX7_splitSize 9 = .ok (.istore_n 3, 1) := by decide +kernel
theorem dX7_splitSize_10 : decode cX7_splitSize 10 = .ok (.iload_n 2, 1) := by decide +kernel
theorem dX7_splitSize_11 : decode cX7_splitSize 11 = .ok (.ifCond .le 11, 3) := by decide +kernel
theorem dX7_splitSize_14 : decode cX7_splitSize 14 = .ok (.aload_n 0, 1) := by decide +kernel
theorem dX7_splitSize_15 : decode cX7_splitSize 15 = .ok (.iload_n 1, 1) := by decide +kernel
theorem dX7_splitSize_16 : decode cX7_splitSize 16 = .ok (.iconst 1, 1) := by decide +kernel
theorem dX7_splitSize_17 : decode cX7_splitSize 17 = .ok (.iadd, 1) := by decide +kernel
theorem dX7_splitSize_18 : decode cX7_splitSize 18 = .ok (.iload_n 2, 1) := by decide +kernel
theorem dX7_splitSize_19 : decode cX7_splitSize 19 = .ok (.invokestatic 25, 3) := by decide +kernel
theorem dX7_splitSize_22 : decode cX7_splitSize 22 = .ok (.iload_n 3, 1) := by decide +kernel
theorem dX7_splitSize_23 : decode cX7_splitSize 23 = .ok (.ifCond .le 13, 3) := by decide +kernel
theorem dX7_splitSize_26 : decode cX7_splitSize 26 = .ok (.aload_n 0, 1) := by decide +kernel
theorem dX7_splitSize_27 : decode cX7_splitSize 27 = .ok (.iload_n 1, 1) := by decide +kernel
theorem dX7_splitSize_28 : decode cX7_splitSize 28 = .ok (.iconst 1, 1) := by decide +kernel
theorem dX7_splitSize_29 : decode cX7_splitSize 29 = .ok (.iadd, 1) := by decide +kernel
theorem dX7_splitSize_30 : decode cX7_splitSize 30 = .ok (.iload_n 2, 1) := by decide +kernel
theorem dX7_splitSize_31 : decode cX7_splitSize 31 = .ok (.iadd, 1) := by decide +kernel
theorem dX7_splitSize_32 : decode cX7_splitSize 32 = .ok (.iload_n 3, 1) := by decide +kernel
theorem dX7_splitSize_33 : decode cX7_splitSize 33 = .ok (.invokestatic 25, 3) := by decide +kernel
theorem dX7_splitSize_36 : decode cX7_splitSize 36 = .ok (.return_, 1) := by decide +kernel
theorem dX7_placeOf_0 : decode cX7_placeOf 0 = .ok (.aload_n 1, 1) := by decide +kernel
theorem dX7_placeOf_1 : decode cX7_placeOf 1 = .ok (.aload_n 0, 1) := by decide +kernel
theorem dX7_placeOf_2 : decode cX7_placeOf 2 = .ok (.getfield 9, 3) := by decide +kernel
theorem dX7_placeOf_5 : decode cX7_placeOf 5 = .ok (.aload_n 2, 1) := by decide +kernel
theorem dX7_placeOf_6 : decode cX7_placeOf 6 = .ok (.getfield 15, 3) := by decide +kernel
theorem dX7_placeOf_9 : decode cX7_placeOf 9 = .ok (.invokestatic 21, 3) := by decide +kernel
theorem dX7_placeOf_12 : decode cX7_placeOf 12 = .ok (.pop, 1) := by decide +kernel
theorem dX7_placeOf_13 : decode cX7_placeOf 13 = .ok (.aload_n 0, 1) := by decide +kernel
theorem dX7_placeOf_14 : decode cX7_placeOf 14 = .ok (.getfield 9, 3) := by decide +kernel
theorem dX7_placeOf_17 : decode cX7_placeOf 17 = .ok (.iconst 1, 1) := by decide +kernel
theorem dX7_placeOf_18 : decode cX7_placeOf 18 = .ok (.isub, 1) := by decide +kernel
theorem dX7_placeOf_19 : decode cX7_placeOf 19 = .ok (.istore_n 3, 1) := by decide +kernel
theorem dX7_placeOf_20 : decode cX7_placeOf 20 = .ok (.iload_n 3, 1) := by decide +kernel
theorem dX7_placeOf_21 : decode cX7_placeOf 21 = .ok (.ifCond .lt 134, 3) := by decide +kernel
theorem dX7_placeOf_24 : decode cX7_placeOf 24 = .ok (.aload_n 1, 1) := by decide +kernel
theorem dX7_placeOf_25 : decode cX7_placeOf 25 = .ok (.iload_n 3, 1) := by decide +kernel
theorem dX7_placeOf_26 : decode cX7_placeOf 26 = .ok (.invokestatic 29, 3) := by decide +kernel
theorem dX7_placeOf_29 : decode cX7_placeOf 29 = .ok (.istore 4, 2) := by decide +kernel
theorem dX7_placeOf_31 : decode cX7_placeOf 31 = .ok (.aload_n 2, 1) := by decide +kernel
theorem dX7_placeOf_32 : decode cX7_placeOf 32 = .ok (.getfield 15, 3) := by decide +kernel
theorem dX7_placeOf_35 : decode cX7_placeOf 35 = .ok (.iload_n 3, 1) := by decide +kernel
theorem dX7_placeOf_36 : decode cX7_placeOf 36 = .ok (.invokestatic 29, 3) := by decide +kernel
theorem dX7_placeOf_39 : decode cX7_placeOf 39 = .ok (.iconst 1, 1) := by decide +kernel
theorem dX7_placeOf_40 : decode cX7_placeOf 40 = .ok (.isub, 1) := by decide +kernel
theorem dX7_placeOf_41 : decode cX7_placeOf 41 = .ok (.iload 4, 2) := by decide +kernel
theorem dX7_placeOf_43 : decode cX7_placeOf 43 = .ok (.isub, 1) := by decide +kernel
theorem dX7_placeOf_44 : decode cX7_placeOf 44 = .ok (.istore 5, 2) := by decide +kernel
theorem dX7_placeOf_46 : decode cX7_placeOf 46 = .ok (.lconst 0, 1) := by decide +kernel
theorem dX7_placeOf_47 : decode cX7_placeOf 47 = .ok (.lstore 6, 2) := by decide +kernel
theorem dX7_placeOf_49 : decode cX7_placeOf 49 = .ok (.iconst 0, 1) := by decide +kernel
theorem dX7_placeOf_50 : decode cX7_placeOf 50 = .ok (.istore 8, 2) := by decide +kernel
theorem dX7_placeOf_52 : decode cX7_placeOf 52 = .ok (.iload 8, 2) := by decide +kernel
theorem dX7_placeOf_54 : decode cX7_placeOf 54 = .ok (.iload 4, 2) := by decide +kernel
theorem dX7_placeOf_56 : decode cX7_placeOf 56 = .ok (.if_icmp .ge 33, 3) := by decide +kernel
theorem dX7_placeOf_59 : decode cX7_placeOf 59 = .ok (.lload 6, 2) := by decide +kernel
theorem dX7_placeOf_61 : decode cX7_placeOf 61 = .ok (.aload_n 2, 1) := by decide +kernel
theorem dX7_placeOf_62 : decode cX7_placeOf 62 = .ok (.iload 8, 2) := by decide +kernel
theorem dX7_placeOf_64 : decode cX7_placeOf 64 = .ok (.invokevirtual 36, 3) := by decide +kernel
theorem dX7_placeOf_67 : decode cX7_placeOf 67 = .ok (.aload_n 2, 1) := by decide +kernel
theorem dX7_placeOf_68 : decode cX7_placeOf 68 = .ok (.iload 4, 2) := by decide +kernel
theorem dX7_placeOf_70 : decode cX7_placeOf 70 = .ok (.iload 5, 2) := by decide +kernel
theorem dX7_placeOf_72 : decode cX7_placeOf 72 = .ok (.iadd, 1) := by decide +kernel
theorem dX7_placeOf_73 : decode cX7_placeOf 73 = .ok (.iload 8, 2) := by decide +kernel
theorem dX7_placeOf_75 : decode cX7_placeOf 75 = .ok (.isub, 1) := by decide +kernel
theorem dX7_placeOf_76 : decode cX7_placeOf 76 = .ok (.invokevirtual 36, 3) := by decide +kernel
theorem dX7_placeOf_79 : decode cX7_placeOf 79 = .ok (.lmul, 1) := by decide +kernel
theorem dX7_placeOf_80 : decode cX7_placeOf 80 = .ok (.ladd, 1) := by decide +kernel
theorem dX7_placeOf_81 : decode cX7_placeOf 81 = .ok (.lstore 6, 2) := by decide +kernel
theorem dX7_placeOf_83 : decode cX7_placeOf 83 = .ok (.iinc 8 1, 3) := by decide +kernel
theorem dX7_placeOf_86 : decode cX7_placeOf 86 = .ok (.goto (-34), 3) := by decide +kernel
theorem dX7_placeOf_89 : decode cX7_placeOf 89 = .ok (.iload 4, 2) := by decide +kernel
theorem dX7_placeOf_91 : decode cX7_placeOf 91 = .ok (.ifCond .le 25, 3) := by decide +kernel
theorem dX7_placeOf_94 : decode cX7_placeOf 94 = .ok (.lload 6, 2) := by decide +kernel
theorem dX7_placeOf_96 : decode cX7_placeOf 96 = .ok (.aload_n 2, 1) := by decide +kernel
theorem dX7_placeOf_97 : decode cX7_placeOf 97 = .ok (.getfield 40, 3) := by decide +kernel
theorem dX7_placeOf_100 : decode cX7_placeOf 100 = .ok (.iload_n 3, 1) := by decide +kernel
theorem dX7_placeOf_101 : decode cX7_placeOf 101 = .ok (.iconst 1, 1) := by decide +kernel
theorem dX7_placeOf_102 : decode cX7_placeOf 102 = .ok (.iadd, 1) := by decide +kernel
theorem dX7_placeOf_103 : decode cX7_placeOf 103 = .ok (.invokestatic 44, 3) := by decide +kernel
theorem dX7_placeOf_106 : decode cX7_placeOf 106 = .ok (.aload_n 2, 1) := by decide +kernel
theorem dX7_placeOf_107 : decode cX7_placeOf 107 = .ok (.iload 5, 2) := by decide +kernel
theorem dX7_placeOf_109 : decode cX7_placeOf 109 = .ok (.invokevirtual 36, 3) := by decide +kernel
theorem dX7_placeOf_112 : decode cX7_placeOf 112 = .ok (.lmul, 1) := by decide +kernel
theorem dX7_placeOf_113 : decode cX7_placeOf 113 = .ok (.ladd, 1) := by decide +kernel
theorem dX7_placeOf_114 : decode cX7_placeOf 114 = .ok (.lstore 6, 2) := by decide +kernel
theorem dX7_placeOf_116 : decode cX7_placeOf 116 = .ok (.iload 5, 2) := by decide +kernel
theorem dX7_placeOf_118 : decode cX7_placeOf 118 = .ok (.ifCond .le 21, 3) := by decide +kernel
theorem dX7_placeOf_121 : decode cX7_placeOf 121 = .ok (.lload 6, 2) := by decide +kernel
theorem dX7_placeOf_123 : decode cX7_placeOf 123 = .ok (.aload_n 2, 1) := by decide +kernel
theorem dX7_placeOf_124 : decode cX7_placeOf 124 = .ok (.getfield 40, 3) := by decide +kernel
theorem dX7_placeOf_127 : decode cX7_placeOf 127 = .ok (.iload_n 3, 1) := by decide +kernel
theorem dX7_placeOf_128 : decode cX7_placeOf 128 = .ok (.iconst 1, 1) := by decide +kernel
theorem dX7_placeOf_129 : decode cX7_placeOf 129 = .ok (.iadd, 1) := by decide +kernel
theorem dX7_placeOf_130 : decode cX7_placeOf 130 = .ok (.iload 4, 2) := by decide +kernel
theorem dX7_placeOf_132 : decode cX7_placeOf 132 = .ok (.iadd, 1) := by decide +kernel
theorem dX7_placeOf_133 : decode cX7_placeOf 133 = .ok (.invokestatic 44, 3) := by decide +kernel
theorem dX7_placeOf_136 : decode cX7_placeOf 136 = .ok (.ladd, 1) := by decide +kernel
theorem dX7_placeOf_137 : decode cX7_placeOf 137 = .ok (.lstore 6, 2) := by decide +kernel
