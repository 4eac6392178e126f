theorem dX0_init_0 : decode cX0_init 0 = .ok (.aload_n 0, 1) := by decide +kernel
theorem dX0_init_1 : decode cX0_init 1 = .ok (.invokespecial 1, 3) := by decide +kernel
theorem dX0_init_4 : decode cX0_init 4 = .ok (.return_, 1) := by decide +kernel
theorem dX0_arrived_0 : decode cX0_arrived 0 = .ok (.aload_n 0, 1) := by decide +kernel
theorem dX0_arrived_1 : decode cX0_arrived 1 = .ok (.dup, 1) := by decide +kernel
theorem dX0_arrived_2 : decode cX0_arrived 2 = .ok (.getfield 7, 3) := by decide +kernel
theorem dX0_arrived_5 : decode cX0_arrived 5 = .ok (.lconst 1, 1) := by decide +kernel
theorem dX0_arrived_6 : decode cX0_arrived 6 = .ok (.ladd, 1) := by decide +kernel
theorem dX0_arrived_7 : decode cX0_arrived 7 = .ok (.putfield 7, 3) := by decide +kernel
theorem dX0_arrived_10 : decode cX0_arrived 10 = .ok (.return_, 1) := by decide +kernel
theorem dX1_init_0 : decode cX1_init 0 = .ok (.aload_n 0, 1) := by decide +kernel
theorem dX1_init_1 : decode cX1_init 1 = .ok (.invokespecial 3, 3) := by decide +kernel
theorem dX1_init_4 : decode cX1_init 4 = .ok (.aload_n 0, 1) := by decide +kernel
theorem dX1_init_5 : decode cX1_init 5 = .ok (.iconst 5, 1) := by decide +kernel
theorem dX1_init_6 : decode cX1_init 6 = .ok (.newarray .int, 2) := by decide +kernel
theorem dX1_init_8 : decode cX1_init 8 = .ok (.putfield 9, 3) := by decide +kernel
theorem dX1_init_11 : decode cX1_init 11 = .ok (.aload_n 0, 1) := by decide +kernel
theorem dX1_init_12 : decode cX1_init 12 = .ok (.iconst 1, 1) := by decide +kernel
theorem dX1_init_13 : decode cX1_init 13 = .ok (.putfield 15, 3) := by decide +kernel
theorem dX1_init_16 : decode cX1_init 16 = .ok (.aload_n 0, 1) := by decide +kernel
theorem dX1_init_17 : decode cX1_init 17 = .ok (.getfield 9, 3) := by decide +kernel
theorem dX1_init_20 : decode cX1_init 20 = .ok (.iconst 2, 1) := by decide +kernel
theorem dX1_init_21 : decode cX1_init 21 = .ok (.invokestatic 19, 3) := by decide +kernel
theorem dX1_init_24 : decode cX1_init 24 = .ok (.return_, 1) := by decide +kernel
theorem dX1_begin_0 : decode cX1_begin 0 = .ok (.aload_n 0, 1) := by decide +kernel
theorem dX1_begin_1 : decode cX1_begin 1 = .ok (.iconst 0, 1) := by decide +kernel
theorem dX1_begin_2 : decode cX1_begin 2 = .ok (.putfield 15, 3) := by decide +kernel
theorem dX1_begin_5 : decode cX1_begin 5 = .ok (.aload_n 0, 1) := by decide +kernel
theorem dX1_begin_6 : decode cX1_begin 6 = .ok (.iload_n 1, 1) := by decide +kernel
theorem dX1_begin_7 : decode cX1_begin 7 = .ok (.putfield 25, 3) := by decide +kernel
theorem dX1_begin_10 : decode cX1_begin 10 = .ok (.aload_n 0, 1) := by decide +kernel
theorem dX1_begin_11 : decode cX1_begin 11 = .ok (.getfield 9, 3) := by decide +kernel
theorem dX1_begin_14 : decode cX1_begin 14 = .ok (.iconst 2, 1) := by decide +kernel
theorem dX1_begin_15 : decode cX1_begin 15 = .ok (.invokestatic 19, 3) := by decide +kernel
theorem dX1_begin_18 : decode cX1_begin 18 = .ok (.return_, 1) := by decide +kernel
theorem dX1_partOf_0 : decode cX1_partOf 0 = .ok (.lload_n 1, 1) := by decide +kernel
theorem dX1_partOf_1 : decode cX1_partOf 1 = .ok (.lstore 4, 2) := by decide +kernel
theorem dX1_partOf_3 : decode cX1_partOf 3 = .ok (.aload_n 0, 1) := by decide +kernel
theorem dX1_partOf_4 : decode cX1_partOf 4 = .ok (.getfield 25, 3) := by decide +kernel
theorem dX1_partOf_7 : decode cX1_partOf 7 = .ok (.iconst 1, 1) := by decide +kernel
theorem dX1_partOf_8 : decode cX1_partOf 8 = .ok (.isub, 1) := by decide +kernel
theorem dX1_partOf_9 : decode cX1_partOf 9 = .ok (.istore 6, 2) := by decide +kernel
theorem dX1_partOf_11 : decode cX1_partOf 11 = .ok (.iload 6, 2) := by decide +kernel
theorem dX1_partOf_13 : decode cX1_partOf 13 = .ok (.iload_n 3, 1) := by decide +kernel
theorem dX1_partOf_14 : decode cX1_partOf 14 = .ok (.if_icmp .lt 21, 3) := by decide +kernel
theorem dX1_partOf_17 : decode cX1_partOf 17 = .ok (.lload 4, 2) := by decide +kernel
theorem dX1_partOf_19 : decode cX1_partOf 19 = .ok (.aload_n 0, 1) := by decide +kernel
theorem dX1_partOf_20 : decode cX1_partOf 20 = .ok (.iload 6, 2) := by decide +kernel
theorem dX1_partOf_22 : decode cX1_partOf 22 = .ok (.invokevirtual 29, 3) := by decide +kernel
theorem dX1_partOf_25 : decode cX1_partOf 25 = .ok (.i2l, 1) := by decide +kernel
theorem dX1_partOf_26 : decode cX1_partOf 26 = .ok (.ldiv, 1) := by decide +kernel
theorem dX1_partOf_27 : decode cX1_partOf 27 = .ok (.lstore 4, 2) := by decide +kernel
theorem dX1_partOf_29 : decode cX1_partOf 29 = .ok (.iinc 6 (-1), 3) := by decide +kernel
theorem dX1_partOf_32 : decode cX1_partOf 32 = .ok (.goto (-21), 3) := by decide +kernel
theorem dX1_partOf_35 : decode cX1_partOf 35 = .ok (.iload_n 3, 1) := by decide +kernel
theorem dX1_partOf_36 : decode cX1_partOf 36 = .ok (.ifCond .ne 8, 3) := by decide +kernel
theorem dX1_partOf_39 : decode cX1_partOf 39 = .ok (.lload 4, 2) := by decide +kernel
theorem dX1_partOf_41 : decode cX1_partOf 41 = .ok (.goto 14, 3) := by decide +kernel
theorem dX1_partOf_44 : decode cX1_partOf 44 = .ok (.lload 4, 2) := by decide +kernel
theorem dX1_partOf_46 : decode cX1_partOf 46 = .ok (.aload_n 0, 1) := by decide +kernel
theorem dX1_partOf_47 : decode cX1_partOf 47 = .ok (.iload_n 3, 1) := by decide +kernel
theorem dX1_partOf_48 : decode cX1_partOf 48 = .ok (.iconst 1, 1) := by decide +kernel
theorem dX1_partOf_49 : decode cX1_partOf 49 = .ok (.isub, 1) := by decide +kernel
theorem dX1_partOf_50 : decode cX1_partOf 50 = .ok (.invokevirtual 29, 3) := by decide +kernel
theorem dX1_partOf_53 : decode cX1_partOf 53 = .ok (.i2l, 1) := by decide +kernel
theorem dX1_partOf_54 : decode cX1_partOf 54 = .ok (.lrem, 1) := by decide +kernel
theorem dX1_partOf_55 : decode cX1_partOf 55 = .ok (.lreturn, 1) := by decide +kernel
theorem dX1_putTogether_0 : decode cX1_putTogether 0 = .ok (.lload_n 1, 1) := by decide +kernel
theorem dX1_putTogether_1 : decode cX1_putTogether 1 = .ok (.lstore_n 3, 1) := by decide +kernel
theorem dX1_putTogether_2 : decode cX1_putTogether 2 = .ok (.lconst 1, 1) := by decide +kernel
theorem dX1_putTogether_3 : decode cX1_putTogether 3 = .ok (.lstore 5, 2) := by decide +kernel
theorem dX1_putTogether_5 : decode cX1_putTogether 5 = .ok (.lconst 0, 1) := by decide +kernel
theorem dX1_putTogether_6 : decode cX1_putTogether 6 = .ok (.lstore 7, 2) := by decide +kernel
theorem dX1_putTogether_8 : decode cX1_putTogether 8 = .ok (.aload_n 0, 1) := by decide +kernel
theorem dX1_putTogether_9 : decode cX1_putTogether 9 = .ok (.getfield 25, 3) := by decide +kernel
theorem dX1_putTogether_12 : decode cX1_putTogether 12 = .ok (.istore 9, 2) := by decide +kernel
theorem dX1_putTogether_14 : decode cX1_putTogether 14 = .ok (.iload 9, 2) := by decide +kernel
theorem dX1_putTogether_16 : decode cX1_putTogether 16 = .ok (.ifCond .lt 47, 3) := by decide +kernel
theorem dX1_putTogether_19 : decode cX1_putTogether 19 = .ok (.lload 7, 2) := by decide +kernel
theorem dX1_putTogether_21 : decode cX1_putTogether 21 = .ok (.lload_n 3, 1) := by decide +kernel
theorem dX1_putTogether_22 : decode cX1_putTogether 22 = .ok (.ldc2_w 33, 3) := by decide +kernel
theorem dX1_putTogether_25 : decode cX1_putTogether 25 = .ok (.lrem, 1) := by decide +kernel
theorem dX1_putTogether_26 : decode cX1_putTogether 26 = .ok (.lload 5, 2) := by decide +kernel
theorem dX1_putTogether_28 : decode cX1_putTogether 28 = .ok (.lmul, 1) := by decide +kernel
theorem dX1_putTogether_29 : decode cX1_putTogether 29 = .ok (.ladd, 1) := by decide +kernel
theorem dX1_putTogether_30 : decode cX1_putTogether 30 = .ok (.lstore 7, 2) := by decide +kernel
theorem dX1_putTogether_32 : decode cX1_putTogether 32 = .ok (.lload_n 3, 1) := by decide +kernel
theorem dX1_putTogether_33 : decode cX1_putTogether 33 = .ok (.ldc2_w 33, 3) := by decide +kernel
theorem dX1_putTogether_36 : decode cX1_putTogether 36 = .ok (.ldiv, 1) := by decide +kernel
theorem dX1_putTogether_37 : decode cX1_putTogether 37 = .ok (.lstore_n 3, 1) := by decide +kernel
theorem dX1_putTogether_38 : decode cX1_putTogether 38 = .ok (.iload 9, 2) := by decide +kernel
theorem dX1_putTogether_40 : decode cX1_putTogether 40 = .ok (.ifCond .le 17, 3) := by decide +kernel
theorem dX1_putTogether_43 : decode cX1_putTogether 43 = .ok (.lload 5, 2) := by decide +kernel
theorem dX1_putTogether_45 : decode cX1_putTogether 45 = .ok (.aload_n 0, 1) := by decide +kernel
theorem dX1_putTogether_46 : decode cX1_putTogether 46 = .ok (.iload 9, 2) := by decide +kernel
theorem dX1_putTogether_48 : decode cX1_putTogether 48 = .ok (.iconst 1, 1) := by decide +kernel
theorem dX1_putTogether_49 : decode cX1_putTogether 49 = .ok (.isub, 1) := by decide +kernel
theorem dX1_putTogether_50 : decode cX1_putTogether 50 = .ok (.invokevirtual 29, 3) := by decide +kernel
theorem dX1_putTogether_53 : decode cX1_putTogether 53 = .ok (.i2l, 1) := by decide +kernel
theorem dX1_putTogether_54 : decode cX1_putTogether 54 = .ok (.lmul, 1) := by decide +kernel
theorem dX1_putTogether_55 : decode cX1_putTogether 55 = .ok (.lstore 5, 2) := by decide +kernel
theorem dX1_putTogether_57 : decode cX1_putTogether 57 = .ok (.iinc 9 (-1), 3) := by decide +kernel
theorem dX1_putTogether_60 : decode cX1_putTogether 60 = .ok (.goto (-46), 3) := by decide +kernel
theorem dX1_putTogether_63 : decode cX1_putTogether 63 = .ok (.lload 7, 2) := by decide +kernel
theorem dX1_putTogether_65 : decode cX1_putTogether 65 = .ok (.lreturn, 1) := by decide +kernel
theorem dX1_stepAt_0 : decode cX1_stepAt 0 = .ok (.iload_n 1, 1) := by decide +kernel
theorem dX1_stepAt_1 : decode cX1_stepAt 1 = .ok (.ifCond .lt 21, 3) := by decide +kernel
theorem dX1_stepAt_4 : decode cX1_stepAt 4 = .ok (.iload_n 1, 1) := by decide +kernel
theorem dX1_stepAt_5 : decode cX1_stepAt 5 = .ok (.iconst 5, 1) := by decide +kernel
theorem dX1_stepAt_6 : decode cX1_stepAt 6 = .ok (.if_icmp .ge 16, 3) := by decide +kernel
theorem dX1_stepAt_9 : decode cX1_stepAt 9 = .ok (.aload_n 0, 1) := by decide +kernel
theorem dX1_stepAt_10 : decode cX1_stepAt 10 = .ok (.getfield 9, 3) := by decide +kernel
theorem dX1_stepAt_13 : decode cX1_stepAt 13 = .ok (.iload_n 1, 1) := by decide +kernel
theorem dX1_stepAt_14 : decode cX1_stepAt 14 = .ok (.iaload, 1) := by decide +kernel
theorem dX1_stepAt_15 : decode cX1_stepAt 15 = .ok (.iconst 2, 1) := by decide +kernel
theorem dX1_stepAt_16 : decode cX1_stepAt 16 = .ok (.invokestatic 35, 3) := by decide +kernel
theorem dX1_stepAt_19 : decode cX1_stepAt 19 = .ok (.goto 4, 3) := by decide +kernel
theorem dX1_stepAt_22 : decode cX1_stepAt 22 = .ok (.iconst 2, 1) := by decide +kernel
theorem dX1_stepAt_23 : decode cX1_stepAt 23 = .ok (.ireturn, 1) := by decide +kernel
theorem dX2_init_0 : decode cX2_init 0 = .ok (.aload_n 0, 1) := by decide +kernel
theorem dX2_init_1 : decode cX2_init 1 = .ok (.invokespecial 1, 3) := by decide +kernel
theorem dX2_init_4 : decode cX2_init 4 = .ok (.aload_n 0, 1) := by decide +kernel
theorem dX2_init_5 : decode cX2_init 5 = .ok (.lconst 1, 1) := by decide +kernel
theorem dX2_init_6 : decode cX2_init 6 = .ok (.putfield 7, 3) := by decide +kernel
theorem dX2_init_9 : decode cX2_init 9 = .ok (.return_, 1) := by decide +kernel
theorem dX2_become_0 : decode cX2_become 0 = .ok (.lload_n 1, 1) := by decide +kernel
theorem dX2_become_1 : decode cX2_become 1 = .ok (.lload_n 3, 1) := by decide +kernel
theorem dX2_become_2 : decode cX2_become 2 = .ok (.invokestatic 13, 3) := by decide +kernel
theorem dX2_become_5 : decode cX2_become 5 = .ok (.lstore 5, 2) := by decide +kernel
theorem dX2_become_7 : decode cX2_become 7 = .ok (.aload_n 0, 1) := by decide +kernel
theorem dX2_become_8 : decode cX2_become 8 = .ok (.iconst 0, 1) := by decide +kernel
theorem dX2_become_9 : decode cX2_become 9 = .ok (.putfield 17, 3) := by decide +kernel
theorem dX2_become_12 : decode cX2_become 12 = .ok (.aload_n 0, 1) := by decide +kernel
theorem dX2_become_13 : decode cX2_become 13 = .ok (.lload_n 1, 1) := by decide +kernel
theorem dX2_become_14 : decode cX2_become 14 = .ok (.lload 5, 2) := by decide +kernel
theorem dX2_become_16 : decode cX2_become 16 = .ok (.ldiv, 1) := by decide +kernel
theorem dX2_become_17 : decode cX2_become 17 = .ok (.putfield 21, 3) := by decide +kernel
theorem dX2_become_20 : decode cX2_become 20 = .ok (.aload_n 0, 1) := by decide +kernel
theorem dX2_become_21 : decode cX2_become 21 = .ok (.lload_n 3, 1) := by decide +kernel
theorem dX2_become_22 : decode cX2_become 22 = .ok (.lload 5, 2) := by decide +kernel
theorem dX2_become_24 : decode cX2_become 24 = .ok (.ldiv, 1) := by decide +kernel
theorem dX2_become_25 : decode cX2_become 25 = .ok (.putfield 7, 3) := by decide +kernel
theorem dX2_become_28 : decode cX2_become 28 = .ok (.return_, 1) := by decide +kernel
theorem dX2_become__0 : decode cX2_become_ 0 = .ok (.aload_n 0, 1) := by decide +kernel
theorem dX2_become__1 : decode cX2_become_ 1 = .ok (.aload_n 1, 1) := by decide +kernel
theorem dX2_become__2 : decode cX2_become_ 2 = .ok (.getfield 17, 3) := by decide +kernel
theorem dX2_become__5 : decode cX2_become_ 5 = .ok (.putfield 17, 3) := by decide +kernel
theorem dX2_become__8 : decode cX2_become_ 8 = .ok (.aload_n 0, 1) := by decide +kernel
theorem dX2_become__9 : decode cX2_become_ 9 = .ok (.aload_n 1, 1) := by decide +kernel
theorem dX2_become__10 : decode cX2_become_ 10 = .ok (.getfield 21, 3) := by decide +kernel
theorem dX2_become__13 : decode cX2_become_ 13 = .ok (.putfield 21, 3) := by decide +kernel
theorem dX2_become__16 : decode cX2_become_ 16 = .ok (.aload_n 0, 1) := by decide +kernel
theorem dX2_become__17 : decode cX2_become_ 17 = .ok (.aload_n 1, 1) := by decide +kernel
theorem dX2_become__18 : decode cX2_become_ 18 = .ok (.getfield 7, 3) := by decide +kernel
theorem dX2_become__21 : decode cX2_become_ 21 = .ok (.putfield 7, 3) := by decide +kernel
theorem dX2_become__24 : decode cX2_become_ 24 = .ok (.return_, 1) := by decide +kernel
theorem dX2_becomeProduct_0 : decode cX2_becomeProduct 0 = .ok (.aload_n 1, 1) := by decide +kernel
theorem dX2_becomeProduct_1 : decode cX2_becomeProduct 1 = .ok (.getfield 21, 3) := by decide +kernel
theorem dX2_becomeProduct_4 : decode cX2_becomeProduct 4 = .ok (.lload 4, 2) := by decide +kernel
theorem dX2_becomeProduct_6 : decode cX2_becomeProduct 6 = .ok (.invokestatic 13, 3) := by decide +kernel
theorem dX2_becomeProduct_9 : decode cX2_becomeProduct 9 = .ok (.lstore 6, 2) := by decide +kernel
theorem dX2_becomeProduct_11 : decode cX2_becomeProduct 11 = .ok (.aload_n 1, 1) := by decide +kernel
theorem dX2_becomeProduct_12 : decode cX2_becomeProduct 12 = .ok (.getfield 7, 3) := by decide +kernel
theorem dX2_becomeProduct_15 : decode cX2_becomeProduct 15 = .ok (.lload_n 2, 1) := by decide +kernel
theorem dX2_becomeProduct_16 : decode cX2_becomeProduct 16 = .ok (.invokestatic 13, 3) := by decide +kernel
theorem dX2_becomeProduct_19 : decode cX2_becomeProduct 19 = .ok (.lstore 8, 2) := by decide +kernel
theorem dX2_becomeProduct_21 : decode cX2_becomeProduct 21 = .ok (.aload_n 0, 1) := by decide +kernel
theorem dX2_becomeProduct_22 : decode cX2_becomeProduct 22 = .ok (.aload_n 1, 1) := by decide +kernel
theorem dX2_becomeProduct_23 : decode cX2_becomeProduct 23 = .ok (.getfield 17, 3) := by decide +kernel
theorem dX2_becomeProduct_26 : decode cX2_becomeProduct 26 = .ok (.ifCond .ne 44, 3) := by decide +kernel
theorem dX2_becomeProduct_29 : decode cX2_becomeProduct 29 = .ok (.aload_n 1, 1) := by decide +kernel
theorem dX2_becomeProduct_30 : decode cX2_becomeProduct 30 = .ok (.getfield 21, 3) := by decide +kernel
theorem dX2_becomeProduct_33 : decode cX2_becomeProduct 33 = .ok (.lload 6, 2) := by decide +kernel
theorem dX2_becomeProduct_35 : decode cX2_becomeProduct 35 = .ok (.ldiv, 1) := by decide +kernel
theorem dX2_becomeProduct_36 : decode cX2_becomeProduct 36 = .ok (.lload_n 2, 1) := by decide +kernel
theorem dX2_becomeProduct_37 : decode cX2_becomeProduct 37 = .ok (.lload 8, 2) := by decide +kernel
theorem dX2_becomeProduct_39 : decode cX2_becomeProduct 39 = .ok (.ldiv, 1) := by decide +kernel
theorem dX2_becomeProduct_40 : decode cX2_becomeProduct 40 = .ok (.ldc2_w 24, 3) := by decide +kernel
theorem dX2_becomeProduct_43 : decode cX2_becomeProduct 43 = .ok (.invokestatic 26, 3) := by decide +kernel
theorem dX2_becomeProduct_46 : decode cX2_becomeProduct 46 = .ok (.ifCond .ne 24, 3) := by decide +kernel
theorem dX2_becomeProduct_49 : decode cX2_becomeProduct 49 = .ok (.aload_n 1, 1) := by decide +kernel
theorem dX2_becomeProduct_50 : decode cX2_becomeProduct 50 = .ok (.getfield 7, 3) := by decide +kernel
theorem dX2_becomeProduct_53 : decode cX2_becomeProduct 53 = .ok (.lload 8, 2) := by decide +kernel
theorem dX2_becomeProduct_55 : decode cX2_becomeProduct 55 = .ok (.ldiv, 1) := by decide +kernel
theorem dX2_becomeProduct_56 : decode cX2_becomeProduct 56 = .ok (.lload 4, 2) := by decide +kernel
theorem dX2_becomeProduct_58 : decode cX2_becomeProduct 58 = .ok (.lload 6, 2) := by decide +kernel
theorem dX2_becomeProduct_60 : decode cX2_becomeProduct 60 = .ok (.ldiv, 1) := by decide +kernel
theorem dX2_becomeProduct_61 : decode cX2_becomeProduct 61 = .ok (.ldc2_w 24, 3) := by decide +kernel
theorem dX2_becomeProduct_64 : decode cX2_becomeProduct 64 = .ok (.invokestatic 26, 3) := by decide +kernel
theorem dX2_becomeProduct_67 : decode cX2_becomeProduct 67 = .ok (.ifCond .eq 7, 3) := by decide +kernel
theorem dX2_becomeProduct_70 : decode cX2_becomeProduct 70 = .ok (.iconst 1, 1) := by decide +kernel
theorem dX2_becomeProduct_71 : decode cX2_becomeProduct 71 = .ok (.goto 4, 3) := by decide +kernel
theorem dX2_becomeProduct_74 : decode cX2_becomeProduct 74 = .ok (.iconst 0, 1) := by decide +kernel
theorem dX2_becomeProduct_75 : decode cX2_becomeProduct 75 = .ok (.aload_n 1, 1) := by decide +kernel
theorem dX2_becomeProduct_76 : decode cX2_becomeProduct 76 = .ok (.getfield 21, 3) := by decide +kernel
theorem dX2_becomeProduct_79 : decode cX2_becomeProduct 79 = .ok (.lload 6, 2) := by decide +kernel
theorem dX2_becomeProduct_81 : decode cX2_becomeProduct 81 = .ok (.ldiv, 1) := by decide +kernel
theorem dX2_becomeProduct_82 : decode cX2_becomeProduct 82 = .ok (.lload_n 2, 1) := by decide +kernel
theorem dX2_becomeProduct_83 : decode cX2_becomeProduct 83 = .ok (.lload 8, 2) := by decide +kernel
theorem dX2_becomeProduct_85 : decode cX2_becomeProduct 85 = .ok (.ldiv, 1) := by decide +kernel
theorem dX2_becomeProduct_86 : decode cX2_becomeProduct 86 = .ok (.lmul, 1) := by decide +kernel
theorem dX2_becomeProduct_87 : decode cX2_becomeProduct 87 = .ok (.aload_n 1, 1) := by decide +kernel
theorem dX2_becomeProduct_88 : decode cX2_becomeProduct 88 = .ok (.getfield 7, 3) := by decide +kernel
theorem dX2_becomeProduct_91 : decode cX2_becomeProduct 91 = .ok (.lload 8, 2) := by decide +kernel
theorem dX2_becomeProduct_93 : decode cX2_becomeProduct 93 = .ok (.ldiv, 1) := by decide +kernel
theorem dX2_becomeProduct_94 : decode cX2_becomeProduct 94 = .ok (.lload 4, 2) := by decide +kernel
theorem dX2_becomeProduct_96 : decode cX2_becomeProduct 96 = .ok (.lload 6, 2) := by decide +kernel
theorem dX2_becomeProduct_98 : decode cX2_becomeProduct 98 = .ok (.ldiv, 1) := by decide +kernel
theorem dX2_becomeProduct_99 : decode cX2_becomeProduct 99 = .ok (.lmul, 1) := by decide +kernel
theorem dX2_becomeProduct_100 : decode cX2_becomeProduct 100 = .ok (.invokevirtual 30, 3) := by decide +kernel
theorem dX2_becomeProduct_103 : decode cX2_becomeProduct 103 = .ok (.return_, 1) := by decide +kernel
theorem dX2_add_0 : decode cX2_add 0 = .ok (.aload_n 0, 1) := by decide +kernel
theorem dX2_add_1 : decode cX2_add 1 = .ok (.getfield 7, 3) := by decide +kernel
theorem dX2_add_4 : decode cX2_add 4 = .ok (.aload_n 1, 1) := by decide +kernel
theorem dX2_add_5 : decode cX2_add 5 = .ok (.getfield 7, 3) := by decide +kernel
theorem dX2_add_8 : decode cX2_add 8 = .ok (.invokestatic 13, 3) := by decide +kernel
theorem dX2_add_11 : decode cX2_add 11 = .ok (.lstore_n 2, 1) := by decide +kernel
theorem dX2_add_12 : decode cX2_add 12 = .ok (.aload_n 1, 1) := by decide +kernel
theorem dX2_add_13 : decode cX2_add 13 = .ok (.getfield 7, 3) := by decide +kernel
theorem dX2_add_16 : decode cX2_add 16 = .ok (.lload_n 2, 1) := by decide +kernel
theorem dX2_add_17 : decode cX2_add 17 = .ok (.ldiv, 1) := by decide +kernel
theorem dX2_add_18 : decode cX2_add 18 = .ok (.lstore 4, 2) := by decide +kernel
theorem dX2_add_20 : decode cX2_add 20 = .ok (.aload_n 0, 1) := by decide +kernel
theorem dX2_add_21 : decode cX2_add 21 = .ok (.getfield 7, 3) := by decide +kernel
theorem dX2_add_24 : decode cX2_add 24 = .ok (.lload_n 2, 1) := by decide +kernel
theorem dX2_add_25 : decode cX2_add 25 = .ok (.ldiv, 1) := by decide +kernel
theorem dX2_add_26 : decode cX2_add 26 = .ok (.lstore 6, 2) := by decide +kernel
theorem dX2_add_28 : decode cX2_add 28 = .ok (.aload_n 0, 1) := by decide +kernel
theorem dX2_add_29 : decode cX2_add 29 = .ok (.getfield 17, 3) := by decide +kernel
theorem dX2_add_32 : decode cX2_add 32 = .ok (.ifCond .ne 55, 3) := by decide +kernel
theorem dX2_add_35 : decode cX2_add 35 = .ok (.aload_n 1, 1) := by decide +kernel
theorem dX2_add_36 : decode cX2_add 36 = .ok (.getfield 17, 3) := by decide +kernel
theorem dX2_add_39 : decode cX2_add 39 = .ok (.ifCond .ne 48, 3) := by decide +kernel
theorem dX2_add_42 : decode cX2_add 42 = .ok (.aload_n 0, 1) := by decide +kernel
theorem dX2_add_43 : decode cX2_add 43 = .ok (.getfield 21, 3) := by decide +kernel
theorem dX2_add_46 : decode cX2_add 46 = .ok (.lload 4, 2) := by decide +kernel
theorem dX2_add_48 : decode cX2_add 48 = .ok (.ldc2_w 34, 3) := by decide +kernel
theorem dX2_add_51 : decode cX2_add 51 = .ok (.invokestatic 26, 3) := by decide +kernel
theorem dX2_add_54 : decode cX2_add 54 = .ok (.ifCond .ne 33, 3) := by decide +kernel
theorem dX2_add_57 : decode cX2_add 57 = .ok (.aload_n 1, 1) := by decide +kernel
theorem dX2_add_58 : decode cX2_add 58 = .ok (.getfield 21, 3) := by decide +kernel
theorem dX2_add_61 : decode cX2_add 61 = .ok (.lload 6, 2) := by decide +kernel
theorem dX2_add_63 : decode cX2_add 63 = .ok (.ldc2_w 34, 3) := by decide +kernel
theorem dX2_add_66 : decode cX2_add 66 = .ok (.invokestatic 26, 3) := by decide +kernel
theorem dX2_add_69 : decode cX2_add 69 = .ok (.ifCond .ne 18, 3) := by decide +kernel
theorem dX2_add_72 : decode cX2_add 72 = .ok (.aload_n 0, 1) := by decide +kernel
theorem dX2_add_73 : decode cX2_add 73 = .ok (.getfield 7, 3) := by decide +kernel
theorem dX2_add_76 : decode cX2_add 76 = .ok (.lload 4, 2) := by decide +kernel
theorem dX2_add_78 : decode cX2_add 78 = .ok (.ldc2_w 34, 3) := by decide +kernel
theorem dX2_add_81 : decode cX2_add 81 = .ok (.invokestatic 26, 3) := by decide +kernel
theorem dX2_add_84 : decode cX2_add 84 = .ok (.ifCond .eq 11, 3) := by decide +kernel
theorem dX2_add_87 : decode cX2_add 87 = .ok (.aload_n 0, 1) := by decide +kernel
theorem dX2_add_88 : decode cX2_add 88 = .ok (.iconst 1, 1) := by decide +kernel
theorem dX2_add_89 : decode cX2_add 89 = .ok (.lconst 0, 1) := by decide +kernel
theorem dX2_add_90 : decode cX2_add 90 = .ok (.lconst 1, 1) := by decide +kernel
theorem dX2_add_91 : decode cX2_add 91 = .ok (.invokevirtual 30, 3) := by decide +kernel
theorem dX2_add_94 : decode cX2_add 94 = .ok (.return_, 1) := by decide +kernel
theorem dX2_add_95 : decode cX2_add 95 = .ok (.aload_n 0, 1) := by decide +kernel
theorem dX2_add_96 : decode cX2_add 96 = .ok (.getfield 21, 3) := by decide +kernel
theorem dX2_add_99 : decode cX2_add 99 = .ok (.lload 4, 2) := by decide +kernel
theorem dX2_add_101 : decode cX2_add 101 = .ok (.lmul, 1) := by decide +kernel
theorem dX2_add_102 : decode cX2_add 102 = .ok (.aload_n 1, 1) := by decide +kernel
theorem dX2_add_103 : decode cX2_add 103 = .ok (.getfield 21, 3) := by decide +kernel
theorem dX2_add_106 : decode cX2_add 106 = .ok (.lload 6, 2) := by decide +kernel
theorem dX2_add_108 : decode cX2_add 108 = .ok (.lmul, 1) := by decide +kernel
theorem dX2_add_109 : decode cX2_add 109 = .ok (.ladd, 1) := by decide +kernel
theorem dX2_add_110 : decode cX2_add 110 = .ok (.lstore 8, 2) := by decide +kernel
theorem dX2_add_112 : decode cX2_add 112 = .ok (.aload_n 0, 1) := by decide +kernel
theorem dX2_add_113 : decode cX2_add 113 = .ok (.getfield 7, 3) := by decide +kernel
theorem dX2_add_116 : decode cX2_add 116 = .ok (.lload 4, 2) := by decide +kernel
theorem dX2_add_118 : decode cX2_add 118 = .ok (.lmul, 1) := by decide +kernel
theorem dX2_add_119 : decode cX2_add 119 = .ok (.lstore 10, 2) := by decide +kernel
theorem dX2_add_121 : decode cX2_add 121 = .ok (.lload 8, 2) := by decide +kernel
theorem dX2_add_123 : decode cX2_add 123 = .ok (.lload 10, 2) := by decide +kernel
theorem dX2_add_125 : decode cX2_add 125 = .ok (.invokestatic 13, 3) := by decide +kernel
theorem dX2_add_128 : decode cX2_add 128 = .ok (.lstore 12, 2) := by decide +kernel
theorem dX2_add_130 : decode cX2_add 130 = .ok (.aload_n 0, 1) := by decide +kernel
theorem dX2_add_131 : decode cX2_add 131 = .ok (.lload 8, 2) := by decide +kernel
theorem dX2_add_133 : decode cX2_add 133 = .ok (.lload 12, 2) := by decide +kernel
theorem dX2_add_135 : decode cX2_add 135 = .ok (.ldiv, 1) := by decide +kernel
theorem dX2_add_136 : decode cX2_add 136 = .ok (.lconst 1, 1) := by decide +kernel
theorem dX2_add_137 : decode cX2_add 137 = .ok (.ldc2_w 24, 3) := by decide +kernel
theorem dX2_add_140 : decode cX2_add 140 = .ok (.invokestatic 26, 3) := by decide +kernel
theorem dX2_add_143 : decode cX2_add 143 = .ok (.ifCond .ne 18, 3) := by decide +kernel
theorem dX2_add_146 : decode cX2_add 146 = .ok (.lload 10, 2) := by decide +kernel
theorem dX2_add_148 : decode cX2_add 148 = .ok (.lload 12, 2) := by decide +kernel
theorem dX2_add_150 : decode cX2_add 150 = .ok (.ldiv, 1) := by decide +kernel
theorem dX2_add_151 : decode cX2_add 151 = .ok (.lconst 1, 1) := by decide +kernel
theorem dX2_add_152 : decode cX2_add 152 = .ok (.ldc2_w 24, 3) := by decide +kernel
theorem dX2_add_155 : decode cX2_add 155 = .ok (.invokestatic 26, 3) := by decide +kernel
theorem dX2_add_158 : decode cX2_add 158 = .ok (.ifCond .eq 7, 3) := by decide +kernel
theorem dX2_add_161 : decode cX2_add 161 = .ok (.iconst 1, 1) := by decide +kernel
theorem dX2_add_162 : decode cX2_add 162 = .ok (.goto 4, 3) := by decide +kernel
theorem dX2_add_165 : decode cX2_add 165 = .ok (.iconst 0, 1) := by decide +kernel
theorem dX2_add_166 : decode cX2_add 166 = .ok (.lload 8, 2) := by decide +kernel
theorem dX2_add_168 : decode cX2_add 168 = .ok (.lload 12, 2) := by decide +kernel
theorem dX2_add_170 : decode cX2_add 170 = .ok (.ldiv, 1) := by decide +kernel
theorem dX2_add_171 : decode cX2_add 171 = .ok (.lload 10, 2) := by decide +kernel
theorem dX2_add_173 : decode cX2_add 173 = .ok (.lload 12, 2) := by decide +kernel
theorem dX2_add_175 : decode cX2_add 175 = .ok (.ldiv, 1) := by decide +kernel
theorem dX2_add_176 : decode cX2_add 176 = .ok (.invokevirtual 30, 3) := by decide +kernel
theorem dX2_add_179 : decode cX2_add 179 = .ok (.return_, 1) := by decide +kernel
theorem dX2_isAboveOne_0 : decode cX2_isAboveOne 0 = .ok (.aload_n 0, 1) := by decide +kernel
theorem dX2_isAboveOne_1 : decode cX2_isAboveOne 1 = .ok (.getfield 17, 3) := by decide +kernel
theorem dX2_isAboveOne_4 : decode cX2_isAboveOne 4 = .ok (.ifCond .ne 19, 3) := by decide +kernel
theorem dX2_isAboveOne_7 : decode cX2_isAboveOne 7 = .ok (.aload_n 0, 1) := by decide +kernel
theorem dX2_isAboveOne_8 : decode cX2_isAboveOne 8 = .ok (.getfield 21, 3) := by decide +kernel
theorem dX2_isAboveOne_11 : decode cX2_isAboveOne 11 = .ok (.aload_n 0, 1) := by decide +kernel
theorem dX2_isAboveOne_12 : decode cX2_isAboveOne 12 = .ok (.getfield 7, 3) := by decide +kernel
theorem dX2_isAboveOne_15 : decode cX2_isAboveOne 15 = .ok (.lcmp, 1) := by decide +kernel
theorem dX2_isAboveOne_16 : decode cX2_isAboveOne 16 = .ok (.ifCond .le 7, 3) := by decide +kernel
theorem dX2_isAboveOne_19 : decode cX2_isAboveOne 19 = .ok (.iconst 1, 1) := by decide +kernel
theorem dX2_isAboveOne_20 : decode cX2_isAboveOne 20 = .ok (.goto 4, 3) := by decide +kernel
theorem dX2_isAboveOne_23 : decode cX2_isAboveOne 23 = .ok (.iconst 0, 1) := by decide +kernel
theorem dX2_isAboveOne_24 : decode cX2_isAboveOne 24 = .ok (.ireturn, 1) := by decide +kernel
theorem dX2_isLess_0 : decode cX2_isLess 0 = .ok (.aload_n 0, 1) := by decide +kernel
theorem dX2_isLess_1 : decode cX2_isLess 1 = .ok (.getfield 21, 3) := by decide +kernel
theorem dX2_isLess_4 : decode cX2_isLess 4 = .ok (.lstore_n 2, 1) := by decide +kernel
theorem dX2_isLess_5 : decode cX2_isLess 5 = .ok (.aload_n 0, 1) := by decide +kernel
theorem dX2_isLess_6 : decode cX2_isLess 6 = .ok (.getfield 7, 3) := by decide +kernel
theorem dX2_isLess_9 : decode cX2_isLess 9 = .ok (.lstore 4, 2) := by decide +kernel
theorem dX2_isLess_11 : decode cX2_isLess 11 = .ok (.aload_n 1, 1) := by decide +kernel
theorem dX2_isLess_12 : decode cX2_isLess 12 = .ok (.getfield 21, 3) := by decide +kernel
theorem dX2_isLess_15 : decode cX2_isLess 15 = .ok (.lstore 6, 2) := by decide +kernel
theorem dX2_isLess_17 : decode cX2_isLess 17 = .ok (.aload_n 1, 1) := by decide +kernel
theorem dX2_isLess_18 : decode cX2_isLess 18 = .ok (.getfield 7, 3) := by decide +kernel
theorem dX2_isLess_21 : decode cX2_isLess 21 = .ok (.lstore 8, 2) := by decide +kernel
theorem dX2_isLess_23 : decode cX2_isLess 23 = .ok (.iconst 0, 1) := by decide +kernel
theorem dX2_isLess_24 : decode cX2_isLess 24 = .ok (.istore 10, 2) := by decide +kernel
theorem dX2_isLess_26 : decode cX2_isLess 26 = .ok (.iload 10, 2) := by decide +kernel
theorem dX2_isLess_28 : decode cX2_isLess 28 = .ok (.bipush 100, 2) := by decide +kernel
theorem dX2_isLess_30 : decode cX2_isLess 30 = .ok (.if_icmp .ge 111, 3) := by decide +kernel
theorem dX2_isLess_33 : decode cX2_isLess 33 = .ok (.lload 4, 2) := by decide +kernel
theorem dX2_isLess_35 : decode cX2_isLess 35 = .ok (.lconst 0, 1) := by decide +kernel
theorem dX2_isLess_36 : decode cX2_isLess 36 = .ok (.lcmp, 1) := by decide +kernel
theorem dX2_isLess_37 : decode cX2_isLess 37 = .ok (.ifCond .le 104, 3) := by decide +kernel
theorem dX2_isLess_40 : decode cX2_isLess 40 = .ok (.lload 8, 2) := by decide +kernel
theorem dX2_isLess_42 : decode cX2_isLess 42 = .ok (.lconst 0, 1) := by decide +kernel
theorem dX2_isLess_43 : decode cX2_isLess 43 = .ok (.lcmp, 1) := by decide +kernel
theorem dX2_isLess_44 : decode cX2_isLess 44 = .ok (.ifCond .le 97, 3) := by decide +kernel
theorem dX2_isLess_47 : decode cX2_isLess 47 = .ok (.lload_n 2, 1) := by decide +kernel
theorem dX2_isLess_48 : decode cX2_isLess 48 = .ok (.lload 4, 2) := by decide +kernel
theorem dX2_isLess_50 : decode cX2_isLess 50 = .ok (.ldiv, 1) := by decide +kernel
theorem dX2_isLess_51 : decode cX2_isLess 51 = .ok (.lload 6, 2) := by decide +kernel
theorem dX2_isLess_53 : decode cX2_isLess 53 = .ok (.lload 8, 2) := by decide +kernel
theorem dX2_isLess_55 : decode cX2_isLess 55 = .ok (.ldiv, 1) := by decide +kernel
theorem dX2_isLess_56 : decode cX2_isLess 56 = .ok (.lcmp, 1) := by decide +kernel
theorem dX2_isLess_57 : decode cX2_isLess 57 = .ok (.ifCond .eq 22, 3) := by decide +kernel
theorem dX2_isLess_60 : decode cX2_isLess 60 = .ok (.lload_n 2, 1) := by decide +kernel
theorem dX2_isLess_61 : decode cX2_isLess 61 = .ok (.lload 4, 2) := by decide +kernel
theorem dX2_isLess_63 : decode cX2_isLess 63 = .ok (.ldiv, 1) := by decide +kernel
theorem dX2_isLess_64 : decode cX2_isLess 64 = .ok (.lload 6, 2) := by decide +kernel
theorem dX2_isLess_66 : decode cX2_isLess 66 = .ok (.lload 8, 2) := by decide +kernel
theorem dX2_isLess_68 : decode cX2_isLess 68 = .ok (.ldiv, 1) := by decide +kernel
theorem dX2_isLess_69 : decode cX2_isLess 69 = .ok (.lcmp, 1) := by decide +kernel
theorem dX2_isLess_70 : decode cX2_isLess 70 = .ok (.ifCond .ge 7, 3) := by decide +kernel
theorem dX2_isLess_73 : decode cX2_isLess 73 = .ok (.iconst 1, 1) := by decide +kernel
theorem dX2_isLess_74 : decode cX2_isLess 74 = .ok (.goto 4, 3) := by decide +kernel
theorem dX2_isLess_77 : decode cX2_isLess 77 = .ok (.iconst 0, 1) := by decide +kernel
theorem dX2_isLess_78 : decode cX2_isLess 78 = .ok (.ireturn, 1) := by decide +kernel
theorem dX2_isLess_79 : decode cX2_isLess 79 = .ok (.lload_n 2, 1) := by decide +kernel
theorem dX2_isLess_80 : decode cX2_isLess 80 = .ok (.lload 4, 2) := by decide +kernel
theorem dX2_isLess_82 : decode cX2_isLess 82 = .ok (.lrem, 1) := by decide +kernel
theorem dX2_isLess_83 : decode cX2_isLess 83 = .ok (.lstore 11, 2) := by decide +kernel
theorem dX2_isLess_85 : decode cX2_isLess 85 = .ok (.lload 6, 2) := by decide +kernel
theorem dX2_isLess_87 : decode cX2_isLess 87 = .ok (.lload 8, 2) := by decide +kernel
theorem dX2_isLess_89 : decode cX2_isLess 89 = .ok (.lrem, 1) := by decide +kernel
theorem dX2_isLess_90 : decode cX2_isLess 90 = .ok (.lstore 13, 2) := by decide +kernel
theorem dX2_isLess_92 : decode cX2_isLess 92 = .ok (.lload 11, 2) := by decide +kernel
theorem dX2_isLess_94 : decode cX2_isLess 94 = .ok (.lconst 0, 1) := by decide +kernel
theorem dX2_isLess_95 : decode cX2_isLess 95 = .ok (.lcmp, 1) := by decide +kernel
theorem dX2_isLess_96 : decode cX2_isLess 96 = .ok (.ifCond .eq 10, 3) := by decide +kernel
theorem dX2_isLess_99 : decode cX2_isLess 99 = .ok (.lload 13, 2) := by decide +kernel
theorem dX2_isLess_101 : decode cX2_isLess 101 = .ok (.lconst 0, 1) := by decide +kernel
theorem dX2_isLess_102 : decode cX2_isLess 102 = .ok (.lcmp, 1) := by decide +kernel
theorem dX2_isLess_103 : decode cX2_isLess 103 = .ok (.ifCond .ne 17, 3) := by decide +kernel
theorem dX2_isLess_106 : decode cX2_isLess 106 = .ok (.lload 11, 2) := by decide +kernel
theorem dX2_isLess_108 : decode cX2_isLess 108 = .ok (.lload 13, 2) := by decide +kernel
theorem dX2_isLess_110 : decode cX2_isLess 110 = .ok (.lcmp, 1) := by decide +kernel
theorem dX2_isLess_111 : decode cX2_isLess 111 = .ok (.ifCond .ge 7, 3) := by decide +kernel
theorem dX2_isLess_114 : decode cX2_isLess 114 = .ok (.iconst 1, 1) := by decide +kernel
theorem dX2_isLess_115 : decode cX2_isLess 115 = .ok (.goto 4, 3) := by decide +kernel
theorem dX2_isLess_118 : decode cX2_isLess 118 = .ok (.iconst 0, 1) := by decide +kernel
theorem dX2_isLess_119 : decode cX2_isLess 119 = .ok (.ireturn, 1) := by decide +kernel
theorem dX2_isLess_120 : decode cX2_isLess 120 = .ok (.lload 8, 2) := by decide +kernel
theorem dX2_isLess_122 : decode cX2_isLess 122 = .ok (.lstore_n 2, 1) := by decide +kernel
theorem dX2_isLess_123 : decode cX2_isLess 123 = .ok (.lload 4, 2) := by decide +kernel
theorem dX2_isLess_125 : decode cX2_isLess 125 = .ok (.lstore 6, 2) := by decide +kernel
theorem dX2_isLess_127 : decode cX2_isLess 127 = .ok (.lload 13, 2) := by decide +kernel
theorem dX2_isLess_129 : decode cX2_isLess 129 = .ok (.lstore 4, 2) := by decide +kernel
theorem dX2_isLess_131 : decode cX2_isLess 131 = .ok (.lload 11, 2) := by decide +kernel
theorem dX2_isLess_133 : decode cX2_isLess 133 = .ok (.lstore 8, 2) := by decide +kernel
theorem dX2_isLess_135 : decode cX2_isLess 135 = .ok (.iinc 10 1, 3) := by decide +kernel
theorem dX2_isLess_138 : decode cX2_isLess 138 = .ok (.goto (-112), 3) := by decide +kernel
theorem dX2_isLess_141 : decode cX2_isLess 141 = .ok (.iconst 0, 1) := by decide +kernel
theorem dX2_isLess_142 : decode cX2_isLess 142 = .ok (.ireturn, 1) := by decide +kernel
theorem dX2_floor_0 : decode cX2_floor 0 = .ok (.aload_n 0, 1) := by decide +kernel
theorem dX2_floor_1 : decode cX2_floor 1 = .ok (.getfield 7, 3) := by decide +kernel
theorem dX2_floor_4 : decode cX2_floor 4 = .ok (.lconst 0, 1) := by decide +kernel
theorem dX2_floor_5 : decode cX2_floor 5 = .ok (.lcmp, 1) := by decide +kernel
theorem dX2_floor_6 : decode cX2_floor 6 = .ok (.ifCond .le 17, 3) := by decide +kernel
theorem dX2_floor_9 : decode cX2_floor 9 = .ok (.aload_n 0, 1) := by decide +kernel
theorem dX2_floor_10 : decode cX2_floor 10 = .ok (.getfield 21, 3) := by decide +kernel
theorem dX2_floor_13 : decode cX2_floor 13 = .ok (.aload_n 0, 1) := by decide +kernel
theorem dX2_floor_14 : decode cX2_floor 14 = .ok (.getfield 7, 3) := by decide +kernel
theorem dX2_floor_17 : decode cX2_floor 17 = .ok (.invokestatic 36, 3) := by decide +kernel
theorem dX2_floor_20 : decode cX2_floor 20 = .ok (.goto 4, 3) := by decide +kernel
theorem dX2_floor_23 : decode cX2_floor 23 = .ok (.lconst 0, 1) := by decide +kernel
theorem dX2_floor_24 : decode cX2_floor 24 = .ok (.lreturn, 1) := by decide +kernel
theorem dX2_ceiling_0 : decode cX2_ceiling 0 = .ok (.aload_n 0, 1) := by decide +kernel
theorem dX2_ceiling_1 : decode cX2_ceiling 1 = .ok (.getfield 7, 3) := by decide +kernel
theorem dX2_ceiling_4 : decode cX2_ceiling 4 = .ok (.lconst 0, 1) := by decide +kernel
theorem dX2_ceiling_5 : decode cX2_ceiling 5 = .ok (.lcmp, 1) := by decide +kernel
theorem dX2_ceiling_6 : decode cX2_ceiling 6 = .ok (.ifCond .le 19, 3) := by decide +kernel
theorem dX2_ceiling_9 : decode cX2_ceiling 9 = .ok (.aload_n 0, 1) := by decide +kernel
theorem dX2_ceiling_10 : decode cX2_ceiling 10 = .ok (.getfield 21, 3) := by decide +kernel
theorem dX2_ceiling_13 : decode cX2_ceiling 13 = .ok (.lneg, 1) := by decide +kernel
theorem dX2_ceiling_14 : decode cX2_ceiling 14 = .ok (.aload_n 0, 1) := by decide +kernel
theorem dX2_ceiling_15 : decode cX2_ceiling 15 = .ok (.getfield 7, 3) := by decide +kernel
theorem dX2_ceiling_18 : decode cX2_ceiling 18 = .ok (.invokestatic 36, 3) := by decide +kernel
theorem dX2_ceiling_21 : decode cX2_ceiling 21 = .ok (.lneg, 1) := by decide +kernel
theorem dX2_ceiling_22 : decode cX2_ceiling 22 = .ok (.goto 4, 3) := by decide +kernel
theorem dX2_ceiling_25 : decode cX2_ceiling 25 = .ok (.lconst 0, 1) := by decide +kernel
theorem dX2_ceiling_26 : decode cX2_ceiling 26 = .ok (.lreturn, 1) := by decide +kernel
theorem dX2_settle_0 : decode cX2_settle 0 = .ok (.aload_n 0, 1) := by decide +kernel
theorem dX2_settle_1 : decode cX2_settle 1 = .ok (.iload_n 1, 1) := by decide +kernel
theorem dX2_settle_2 : decode cX2_settle 2 = .ok (.putfield 17, 3) := by decide +kernel
theorem dX2_settle_5 : decode cX2_settle 5 = .ok (.aload_n 0, 1) := by decide +kernel
theorem dX2_settle_6 : decode cX2_settle 6 = .ok (.iload_n 1, 1) := by decide +kernel
theorem dX2_settle_7 : decode cX2_settle 7 = .ok (.ifCond .eq 7, 3) := by decide +kernel
theorem dX2_settle_10 : decode cX2_settle 10 = .ok (.lconst 0, 1) := by decide +kernel
theorem dX2_settle_11 : decode cX2_settle 11 = .ok (.goto 4, 3) := by decide +kernel
theorem dX2_settle_14 : decode cX2_settle 14 = .ok (.lload_n 2, 1) := by decide +kernel
theorem dX2_settle_15 : decode cX2_settle 15 = .ok (.putfield 21, 3) := by decide +kernel
theorem dX2_settle_18 : decode cX2_settle 18 = .ok (.aload_n 0, 1) := by decide +kernel
theorem dX2_settle_19 : decode cX2_settle 19 = .ok (.iload_n 1, 1) := by decide +kernel
theorem dX2_settle_20 : decode cX2_settle 20 = .ok (.ifCond .eq 7, 3) := by decide +kernel
theorem dX2_settle_23 : decode cX2_settle 23 = .ok (.lconst 1, 1) := by decide +kernel
theorem dX2_settle_24 : decode cX2_settle 24 = .ok (.goto 5, 3) := by decide +kernel
theorem dX2_settle_27 : decode cX2_settle 27 = .ok (.lload 4, 2) := by decide +kernel
theorem dX2_settle_29 : decode cX2_settle 29 = .ok (.putfield 7, 3) := by decide +kernel
theorem dX2_settle_32 : decode cX2_settle 32 = .ok (.return_, 1) := by decide +kernel
theorem dX2_reaches_0 : decode cX2_reaches 0 = .ok (.lload_n 0, 1) := by decide +kernel
theorem dX2_reaches_1 : decode cX2_reaches 1 = .ok (.invokestatic 41, 3) := by decide +kernel
theorem dX2_reaches_4 : decode cX2_reaches 4 = .ok (.lstore 6, 2) := by decide +kernel
theorem dX2_reaches_6 : decode cX2_reaches 6 = .ok (.lload 6, 2) := by decide +kernel
theorem dX2_reaches_8 : decode cX2_reaches 8 = .ok (.lconst 0, 1) := by decide +kernel
theorem dX2_reaches_9 : decode cX2_reaches 9 = .ok (.lcmp, 1) := by decide +kernel
theorem dX2_reaches_10 : decode cX2_reaches 10 = .ok (.ifCond .le 22, 3) := by decide +kernel
theorem dX2_reaches_13 : decode cX2_reaches 13 = .ok (.lload_n 2, 1) := by decide +kernel
theorem dX2_reaches_14 : decode cX2_reaches 14 = .ok (.invokestatic 41, 3) := by decide +kernel
theorem dX2_reaches_17 : decode cX2_reaches 17 = .ok (.lload 4, 2) := by decide +kernel
theorem dX2_reaches_19 : decode cX2_reaches 19 = .ok (.lconst 1, 1) := by decide +kernel
theorem dX2_reaches_20 : decode cX2_reaches 20 = .ok (.lsub, 1) := by decide +kernel
theorem dX2_reaches_21 : decode cX2_reaches 21 = .ok (.lload 6, 2) := by decide +kernel
theorem dX2_reaches_23 : decode cX2_reaches 23 = .ok (.ldiv, 1) := by decide +kernel
theorem dX2_reaches_24 : decode cX2_reaches 24 = .ok (.lcmp, 1) := by decide +kernel
theorem dX2_reaches_25 : decode cX2_reaches 25 = .ok (.ifCond .le 7, 3) := by decide +kernel
theorem dX2_reaches_28 : decode cX2_reaches 28 = .ok (.iconst 1, 1) := by decide +kernel
theorem dX2_reaches_29 : decode cX2_reaches 29 = .ok (.goto 4, 3) := by decide +kernel
theorem dX2_reaches_32 : decode cX2_reaches 32 = .ok (.iconst 0, 1) := by decide +kernel
theorem dX2_reaches_33 : decode cX2_reaches 33 = .ok (.ireturn, 1) := by decide +kernel
theorem dX2_commonDivisor_0 : decode cX2_commonDivisor 0 = .ok (.lload_n 0, 1) := by decide +kernel
theorem dX2_commonDivisor_1 : decode cX2_commonDivisor 1 = .ok (.invokestatic 41, 3) := by decide +kernel
theorem dX2_commonDivisor_4 : decode cX2_commonDivisor 4 = .ok (.lstore 4, 2) := by decide +kernel
theorem dX2_commonDivisor_6 : decode cX2_commonDivisor 6 = .ok (.lload_n 2, 1) := by decide +kernel
theorem dX2_commonDivisor_7 : decode cX2_commonDivisor 7 = .ok (.invokestatic 41, 3) := by decide +kernel
theorem dX2_commonDivisor_10 : decode cX2_commonDivisor 10 = .ok (.lstore 6, 2) := by decide +kernel
theorem dX2_commonDivisor_12 : decode cX2_commonDivisor 12 = .ok (.iconst 0, 1) := by decide +kernel
theorem dX2_commonDivisor_13 : decode cX2_commonDivisor 13 = .ok (.istore 8, 2) := by decide +kernel
theorem dX2_commonDivisor_15 : decode cX2_commonDivisor 15 = .ok (.iload 8, 2) := by decide +kernel
theorem dX2_commonDivisor_17 : decode cX2_commonDivisor 17 = .ok (.bipush 100, 2) := by decide +kernel
theorem dX2_commonDivisor_19 : decode cX2_commonDivisor 19 = .ok (.if_icmp .ge 31, 3) := by decide +kernel
theorem dX2_commonDivisor_22 : decode cX2_commonDivisor 22 = .ok (.lload 6, 2) := by decide +kernel
theorem dX2_commonDivisor_24 : decode cX2_commonDivisor 24 = .ok (.lconst 0, 1) := by decide +kernel
theorem dX2_commonDivisor_25 : decode cX2_commonDivisor 25 = .ok (.lcmp, 1) := by decide +kernel
theorem dX2_commonDivisor_26 : decode cX2_commonDivisor 26 = .ok (.ifCond .le 24, 3) := by decide +kernel
theorem dX2_commonDivisor_29 : decode cX2_commonDivisor 29 = .ok (.lload 4, 2) := by decide +kernel
theorem dX2_commonDivisor_31 : decode cX2_commonDivisor 31 = .ok (.lload 6, 2) := by decide +kernel
theorem dX2_commonDivisor_33 : decode cX2_commonDivisor 33 = .ok (.lrem, 1) := by decide +kernel
theorem dX2_commonDivisor_34 : decode cX2_commonDivisor 34 = .ok (.lstore 9, 2) := by decide +kernel
theorem dX2_commonDivisor_36 : decode cX2_commonDivisor 36 = .ok (.lload 6, 2) := by decide +kernel
theorem dX2_commonDivisor_38 : decode cX2_commonDivisor 38 = .ok (.lstore 4, 2) := by decide +kernel
theorem dX2_commonDivisor_40 : decode cX2_commonDivisor 40 = .ok (.lload 9, 2) := by decide +kernel
theorem dX2_commonDivisor_42 : decode cX2_commonDivisor 42 = .ok (.lstore 6, 2) := by decide +kernel
theorem dX2_commonDivisor_44 : decode cX2_commonDivisor 44 = .ok (.iinc 8 1, 3) := by decide +kernel
theorem dX2_commonDivisor_47 : decode cX2_commonDivisor 47 = .ok (.goto (-32), 3) := by decide +kernel
theorem dX2_commonDivisor_50 : decode cX2_commonDivisor 50 = .ok (.lload 4, 2) := by decide +kernel
theorem dX2_commonDivisor_52 : decode cX2_commonDivisor 52 = .ok (.lconst 1, 1) := by decide +kernel
theorem dX2_commonDivisor_53 : decode cX2_commonDivisor 53 = .ok (.invokestatic 45, 3) := by decide +kernel
theorem dX2_commonDivisor_56 : decode cX2_commonDivisor 56 = .ok (.lreturn, 1) := by decide +kernel
theorem dX3_init_0 : decode cX3_init 0 = .ok (.aload_n 0, 1) := by decide +kernel
theorem dX3_init_1 : decode cX3_init 1 = .ok (.invokespecial 1, 3) := by decide +kernel
theorem dX3_init_4 : decode cX3_init 4 = .ok (.return_, 1) := by decide +kernel
theorem dX4_init_0 : decode cX4_init 0 = .ok (.aload_n 0, 1) := by decide +kernel
theorem dX4_init_1 : decode cX4_init 1 = .ok (.invokespecial 3, 3) := by decide +kernel
theorem dX4_init_4 : decode cX4_init 4 = .ok (.aload_n 0, 1) := by decide +kernel
theorem dX4_init_5 : decode cX4_init 5 = .ok (.bipush 10, 2) := by decide +kernel
theorem dX4_init_7 : decode cX4_init 7 = .ok (.newarray .int, 2) := by decide +kernel
theorem dX4_init_9 : decode cX4_init 9 = .ok (.putfield 9, 3) := by decide +kernel
theorem dX4_init_12 : decode cX4_init 12 = .ok (.aload_n 0, 1) := by decide +kernel
theorem dX4_init_13 : decode cX4_init 13 = .ok (.bipush 10, 2) := by decide +kernel
theorem dX4_init_15 : decode cX4_init 15 = .ok (.anewarray 15, 3) := by decide +kernel
theorem dX4_init_18 : decode cX4_init 18 = .ok (.putfield 17, 3) := by decide +kernel
theorem dX4_init_21 : decode cX4_init 21 = .ok (.aload_n 0, 1) := by decide +kernel
theorem dX4_init_22 : decode cX4_init 22 = .ok (.bipush 24, 2) := by decide +kernel
theorem dX4_init_24 : decode cX4_init 24 = .ok (.newarray .int, 2) := by decide +kernel
theorem dX4_init_26 : decode cX4_init 26 = .ok (.putfield 21, 3) := by decide +kernel
theorem dX4_init_29 : decode cX4_init 29 = .ok (.aload_n 0, 1) := by decide +kernel
theorem dX4_init_30 : decode cX4_init 30 = .ok (.sipush 1024, 3) := by decide +kernel
theorem dX4_init_33 : decode cX4_init 33 = .ok (.newarray .boolean, 2) := by decide +kernel
theorem dX4_init_35 : decode cX4_init 35 = .ok (.putfield 24, 3) := by decide +kernel
theorem dX4_init_38 : decode cX4_init 38 = .ok (.return_, 1) := by decide +kernel
theorem dX4_begin_0 : decode cX4_begin 0 = .ok (.aload_n 0, 1) := by decide +kernel
theorem dX4_begin_1 : decode cX4_begin 1 = .ok (.iconst 0, 1) := by decide +kernel
theorem dX4_begin_2 : decode cX4_begin 2 = .ok (.putfield 28, 3) := by decide +kernel
theorem dX4_begin_5 : decode cX4_begin 5 = .ok (.aload_n 0, 1) := by decide +kernel
theorem dX4_begin_6 : decode cX4_begin 6 = .ok (.iconst 0, 1) := by decide +kernel
theorem dX4_begin_7 : decode cX4_begin 7 = .ok (.putfield 32, 3) := by decide +kernel
theorem dX4_begin_10 : decode cX4_begin 10 = .ok (.aload_n 0, 1) := by decide +kernel
theorem dX4_begin_11 : decode cX4_begin 11 = .ok (.iconst 0, 1) := by decide +kernel
theorem dX4_begin_12 : decode cX4_begin 12 = .ok (.putfield 36, 3) := by decide +kernel
theorem dX4_begin_15 : decode cX4_begin 15 = .ok (.aload_n 0, 1) := by decide +kernel
theorem dX4_begin_16 : decode cX4_begin 16 = .ok (.getfield 21, 3) := by decide +kernel
theorem dX4_begin_19 : decode cX4_begin 19 = .ok (.iconst 0, 1) := by decide +kernel
theorem dX4_begin_20 : decode cX4_begin 20 = .ok (.invokestatic 39, 3) := by decide +kernel
theorem dX4_begin_23 : decode cX4_begin 23 = .ok (.return_, 1) := by decide +kernel
theorem dX4_choose_0 : decode cX4_choose 0 = .ok (.iconst 0, 1) := by decide +kernel
theorem dX4_choose_1 : decode cX4_choose 1 = .ok (.istore_n 2, 1) := by decide +kernel
theorem dX4_choose_2 : decode cX4_choose 2 = .ok (.iload_n 2, 1) := by decide +kernel
theorem dX4_choose_3 : decode cX4_choose 3 = .ok (.aload_n 1, 1) := by decide +kernel
theorem dX4_choose_4 : decode cX4_choose 4 = .ok (.getfield 45, 3) := by decide +kernel
theorem dX4_choose_7 : decode cX4_choose 7 = .ok (.if_icmp .ge 74, 3) := by decide +kernel
theorem dX4_choose_10 : decode cX4_choose 10 = .ok (.aload_n 1, 1) := by decide +kernel
theorem dX4_choose_11 : decode cX4_choose 11 = .ok (.getfield 50, 3) := by decide +kernel
theorem dX4_choose_14 : decode cX4_choose 14 = .ok (.iload_n 2, 1) := by decide +kernel
theorem dX4_choose_15 : decode cX4_choose 15 = .ok (.aaload, 1) := by decide +kernel
theorem dX4_choose_16 : decode cX4_choose 16 = .ok (.astore_n 3, 1) := by decide +kernel
theorem dX4_choose_17 : decode cX4_choose 17 = .ok (.aload_n 3, 1) := by decide +kernel
theorem dX4_choose_18 : decode cX4_choose 18 = .ok (.ifnull 57, 3) := by decide +kernel
theorem dX4_choose_21 : decode cX4_choose 21 = .ok (.aload_n 3, 1) := by decide +kernel
theorem dX4_choose_22 : decode cX4_choose 22 = .ok (.iconst 2, 1) := by decide +kernel
theorem dX4_choose_23 : decode cX4_choose 23 = .ok (.invokevirtual 53, 3) := by decide +kernel
theorem dX4_choose_26 : decode cX4_choose 26 = .ok (.ifCond .eq 49, 3) := by decide +kernel
theorem dX4_choose_29 : decode cX4_choose 29 = .ok (.aload_n 0, 1) := by decide +kernel
theorem dX4_choose_30 : decode cX4_choose 30 = .ok (.getfield 36, 3) := by decide +kernel
theorem dX4_choose_33 : decode cX4_choose 33 = .ok (.bipush 10, 2) := by decide +kernel
theorem dX4_choose_35 : decode cX4_choose 35 = .ok (.if_icmp .lt 5, 3) := by decide +kernel
theorem dX4_choose_38 : decode cX4_choose 38 = .ok (.iconst 0, 1) := by decide +kernel
theorem dX4_choose_39 : decode cX4_choose 39 = .ok (.ireturn, 1) := by decide +kernel
theorem dX4_choose_40 : decode cX4_choose 40 = .ok (.aload_n 0, 1) := by decide +kernel
theorem dX4_choose_41 : decode cX4_choose 41 = .ok (.getfield 21, 3) := by decide +kernel
theorem dX4_choose_44 : decode cX4_choose 44 = .ok (.aload_n 3, 1) := by decide +kernel
theorem dX4_choose_45 : decode cX4_choose 45 = .ok (.getfield 57, 3) := by decide +kernel
theorem dX4_choose_48 : decode cX4_choose 48 = .ok (.iconst 1, 1) := by decide +kernel
theorem dX4_choose_49 : decode cX4_choose 49 = .ok (.aload_n 0, 1) := by decide +kernel
theorem dX4_choose_50 : decode cX4_choose 50 = .ok (.getfield 36, 3) := by decide +kernel
theorem dX4_choose_53 : decode cX4_choose 53 = .ok (.ishl, 1) := by decide +kernel
theorem dX4_choose_54 : decode cX4_choose 54 = .ok (.iastore, 1) := by decide +kernel
theorem dX4_choose_55 : decode cX4_choose 55 = .ok (.aload_n 0, 1) := by decide +kernel
theorem dX4_choose_56 : decode cX4_choose 56 = .ok (.getfield 17, 3) := by decide +kernel
theorem dX4_choose_59 : decode cX4_choose 59 = .ok (.aload_n 0, 1) := by decide +kernel
theorem dX4_choose_60 : decode cX4_choose 60 = .ok (.getfield 36, 3) := by decide +kernel
theorem dX4_choose_63 : decode cX4_choose 63 = .ok (.aload_n 3, 1) := by decide +kernel
theorem dX4_choose_64 : decode cX4_choose 64 = .ok (.aastore, 1) := by decide +kernel
theorem dX4_choose_65 : decode cX4_choose 65 = .ok (.aload_n 0, 1) := by decide +kernel
theorem dX4_choose_66 : decode cX4_choose 66 = .ok (.dup, 1) := by decide +kernel
theorem dX4_choose_67 : decode cX4_choose 67 = .ok (.getfield 36, 3) := by decide +kernel
theorem dX4_choose_70 : decode cX4_choose 70 = .ok (.iconst 1, 1) := by decide +kernel
theorem dX4_choose_71 : decode cX4_choose 71 = .ok (.iadd, 1) := by decide +kernel
theorem dX4_choose_72 : decode cX4_choose 72 = .ok (.putfield 36, 3) := by decide +kernel
theorem dX4_choose_75 : decode cX4_choose 75 = .ok (.iinc 2 1, 3) := by decide +kernel
theorem dX4_choose_78 : decode cX4_choose 78 = .ok (.goto (-76), 3) := by decide +kernel
theorem dX4_choose_81 : decode cX4_choose 81 = .ok (.iconst 0, 1) := by decide +kernel
theorem dX4_choose_82 : decode cX4_choose 82 = .ok (.istore_n 2, 1) := by decide +kernel
theorem dX4_choose_83 : decode cX4_choose 83 = .ok (.iload_n 2, 1) := by decide +kernel
theorem dX4_choose_84 : decode cX4_choose 84 = .ok (.iconst 1, 1) := by decide +kernel
theorem dX4_choose_85 : decode cX4_choose 85 = .ok (.aload_n 0, 1) := by decide +kernel
theorem dX4_choose_86 : decode cX4_choose 86 = .ok (.getfield 36, 3) := by decide +kernel
theorem dX4_choose_89 : decode cX4_choose 89 = .ok (.ishl, 1) := by decide +kernel
theorem dX4_choose_90 : decode cX4_choose 90 = .ok (.if_icmp .ge 16, 3) := by decide +kernel
theorem dX4_choose_93 : decode cX4_choose 93 = .ok (.aload_n 0, 1) := by decide +kernel
theorem dX4_choose_94 : decode cX4_choose 94 = .ok (.getfield 24, 3) := by decide +kernel
theorem dX4_choose_97 : decode cX4_choose 97 = .ok (.iload_n 2, 1) := by decide +kernel
theorem dX4_choose_98 : decode cX4_choose 98 = .ok (.iconst 0, 1) := by decide +kernel
theorem dX4_choose_99 : decode cX4_choose 99 = .ok (.bastore, 1) := by decide +kernel
theorem dX4_choose_100 : decode cX4_choose 100 = .ok (.iinc 2 1, 3) := by decide +kernel
theorem dX4_choose_103 : decode cX4_choose 103 = .ok (.goto (-20), 3) := by decide +kernel
theorem dX4_choose_106 : decode cX4_choose 106 = .ok (.iconst 1, 1) := by decide +kernel
theorem dX4_choose_107 : decode cX4_choose 107 = .ok (.ireturn, 1) := by decide +kernel
theorem dX4_arrived_0 : decode cX4_arrived 0 = .ok (.aload_n 1, 1) := by decide +kernel
theorem dX4_arrived_1 : decode cX4_arrived 1 = .ok (.invokevirtual 60, 3) := by decide +kernel
theorem dX4_arrived_4 : decode cX4_arrived 4 = .ok (.getfield 64, 3) := by decide +kernel
theorem dX4_arrived_7 : decode cX4_arrived 7 = .ok (.ifCond .ne 13, 3) := by decide +kernel
theorem dX4_arrived_10 : decode cX4_arrived 10 = .ok (.aload_n 1, 1) := by decide +kernel
theorem dX4_arrived_11 : decode cX4_arrived 11 = .ok (.invokevirtual 67, 3) := by decide +kernel
theorem dX4_arrived_14 : decode cX4_arrived 14 = .ok (.getfield 64, 3) := by decide +kernel
theorem dX4_arrived_17 : decode cX4_arrived 17 = .ok (.ifCond .eq 16, 3) := by decide +kernel
theorem dX4_arrived_20 : decode cX4_arrived 20 = .ok (.aload_n 0, 1) := by decide +kernel
theorem dX4_arrived_21 : decode cX4_arrived 21 = .ok (.iconst 1, 1) := by decide +kernel
theorem dX4_arrived_22 : decode cX4_arrived 22 = .ok (.putfield 32, 3) := by decide +kernel
theorem dX4_arrived_25 : decode cX4_arrived 25 = .ok (.aload_n 1, 1) := by decide +kernel
theorem dX4_arrived_26 : decode cX4_arrived 26 = .ok (.iconst 1, 1) := by decide +kernel
theorem dX4_arrived_27 : decode cX4_arrived 27 = .ok (.putfield 70, 3) := by decide +kernel
theorem dX4_arrived_30 : decode cX4_arrived 30 = .ok (.goto 64, 3) := by decide +kernel
theorem dX4_arrived_33 : decode cX4_arrived 33 = .ok (.aload_n 1, 1) := by decide +kernel
theorem dX4_arrived_34 : decode cX4_arrived 34 = .ok (.invokevirtual 60, 3) := by decide +kernel
theorem dX4_arrived_37 : decode cX4_arrived 37 = .ok (.invokevirtual 73, 3) := by decide +kernel
theorem dX4_arrived_40 : decode cX4_arrived 40 = .ok (.ifCond .eq 54, 3) := by decide +kernel
theorem dX4_arrived_43 : decode cX4_arrived 43 = .ok (.aload_n 0, 1) := by decide +kernel
theorem dX4_arrived_44 : decode cX4_arrived 44 = .ok (.getfield 24, 3) := by decide +kernel
theorem dX4_arrived_47 : decode cX4_arrived 47 = .ok (.aload_n 0, 1) := by decide +kernel
theorem dX4_arrived_48 : decode cX4_arrived 48 = .ok (.aload_n 1, 1) := by decide +kernel
theorem dX4_arrived_49 : decode cX4_arrived 49 = .ok (.invokevirtual 77, 3) := by decide +kernel
theorem dX4_arrived_52 : decode cX4_arrived 52 = .ok (.iconst 1, 1) := by decide +kernel
theorem dX4_arrived_53 : decode cX4_arrived 53 = .ok (.bastore, 1) := by decide +kernel
theorem dX4_arrived_54 : decode cX4_arrived 54 = .ok (.aload_n 0, 1) := by decide +kernel
theorem dX4_arrived_55 : decode cX4_arrived 55 = .ok (.getfield 28, 3) := by decide +kernel
theorem dX4_arrived_58 : decode cX4_arrived 58 = .ok (.ifCond .eq 11, 3) := by decide +kernel
theorem dX4_arrived_61 : decode cX4_arrived 61 = .ok (.aload_n 0, 1) := by decide +kernel
theorem dX4_arrived_62 : decode cX4_arrived 62 = .ok (.aload_n 1, 1) := by decide +kernel
theorem dX4_arrived_63 : decode cX4_arrived 63 = .ok (.invokevirtual 81, 3) := by decide +kernel
theorem dX4_arrived_66 : decode cX4_arrived 66 = .ok (.ifCond .eq 28, 3) := by decide +kernel
theorem dX4_arrived_69 : decode cX4_arrived 69 = .ok (.aload_n 0, 1) := by decide +kernel
theorem dX4_arrived_70 : decode cX4_arrived 70 = .ok (.aload_n 1, 1) := by decide +kernel
theorem dX4_arrived_71 : decode cX4_arrived 71 = .ok (.getfield 85, 3) := by decide +kernel
theorem dX4_arrived_74 : decode cX4_arrived 74 = .ok (.putfield 28, 3) := by decide +kernel
theorem dX4_arrived_77 : decode cX4_arrived 77 = .ok (.aload_n 1, 1) := by decide +kernel
theorem dX4_arrived_78 : decode cX4_arrived 78 = .ok (.getfield 86, 3) := by decide +kernel
theorem dX4_arrived_81 : decode cX4_arrived 81 = .ok (.iconst 0, 1) := by decide +kernel
theorem dX4_arrived_82 : decode cX4_arrived 82 = .ok (.aload_n 0, 1) := by decide +kernel
theorem dX4_arrived_83 : decode cX4_arrived 83 = .ok (.getfield 9, 3) := by decide +kernel
theorem dX4_arrived_86 : decode cX4_arrived 86 = .ok (.iconst 0, 1) := by decide +kernel
theorem dX4_arrived_87 : decode cX4_arrived 87 = .ok (.aload_n 0, 1) := by decide +kernel
theorem dX4_arrived_88 : decode cX4_arrived 88 = .ok (.getfield 28, 3) := by decide +kernel
theorem dX4_arrived_91 : decode cX4_arrived 91 = .ok (.invokestatic 87, 3) := by decide +kernel
theorem dX4_arrived_94 : decode cX4_arrived 94 = .ok (.return_, 1) := by decide +kernel
theorem dX4_choicesIn_0 : decode cX4_choicesIn 0 = .ok (.iconst 0, 1) := by decide +kernel
theorem dX4_choicesIn_1 : decode cX4_choicesIn 1 = .ok (.istore_n 2, 1) := by decide +kernel
theorem dX4_choicesIn_2 : decode cX4_choicesIn 2 = .ok (.iconst 0, 1) := by decide +kernel
theorem dX4_choicesIn_3 : decode cX4_choicesIn 3 = .ok (.istore_n 3, 1) := by decide +kernel
theorem dX4_choicesIn_4 : decode cX4_choicesIn 4 = .ok (.iload_n 3, 1) := by decide +kernel
theorem dX4_choicesIn_5 : decode cX4_choicesIn 5 = .ok (.aload_n 1, 1) := by decide +kernel
theorem dX4_choicesIn_6 : decode cX4_choicesIn 6 = .ok (.getfield 85, 3) := by decide +kernel
theorem dX4_choicesIn_9 : decode cX4_choicesIn 9 = .ok (.if_icmp .ge 22, 3) := by decide +kernel
theorem dX4_choicesIn_12 : decode cX4_choicesIn 12 = .ok (.iload_n 2, 1) := by decide +kernel
theorem dX4_choicesIn_13 : decode cX4_choicesIn 13 = .ok (.aload_n 0, 1) := by decide +kernel
theorem dX4_choicesIn_14 : decode cX4_choicesIn 14 = .ok (.getfield 21, 3) := by decide +kernel
theorem dX4_choicesIn_17 : decode cX4_choicesIn 17 = .ok (.aload_n 1, 1) := by decide +kernel
theorem dX4_choicesIn_18 : decode cX4_choicesIn 18 = .ok (.iload_n 3, 1) := by decide +kernel
theorem dX4_choicesIn_19 : decode cX4_choicesIn 19 = .ok (.invokevirtual 93, 3) := by decide +kernel
theorem dX4_choicesIn_22 : decode cX4_choicesIn 22 = .ok (.iaload, 1) := by decide +kernel
theorem dX4_choicesIn_23 : decode cX4_choicesIn 23 = .ok (.ior, 1) := by decide +kernel
theorem dX4_choicesIn_24 : decode cX4_choicesIn 24 = .ok (.istore_n 2, 1) := by decide +kernel
theorem dX4_choicesIn_25 : decode cX4_choicesIn 25 = .ok (.iinc 3 1, 3) := by decide +kernel
theorem dX4_choicesIn_28 : decode cX4_choicesIn 28 = .ok (.goto (-24), 3) := by decide +kernel
theorem dX4_choicesIn_31 : decode cX4_choicesIn 31 = .ok (.iload_n 2, 1) := by decide +kernel
theorem dX4_choicesIn_32 : decode cX4_choicesIn 32 = .ok (.ireturn, 1) := by decide +kernel
theorem dX4_isAhead_0 : decode cX4_isAhead 0 = .ok (.aload_n 1, 1) := by decide +kernel
theorem dX4_isAhead_1 : decode cX4_isAhead 1 = .ok (.getfield 85, 3) := by decide +kernel
theorem dX4_isAhead_4 : decode cX4_isAhead 4 = .ok (.aload_n 0, 1) := by decide +kernel
theorem dX4_isAhead_5 : decode cX4_isAhead 5 = .ok (.getfield 28, 3) := by decide +kernel
theorem dX4_isAhead_8 : decode cX4_isAhead 8 = .ok (.if_icmp .eq 20, 3) := by decide +kernel
theorem dX4_isAhead_11 : decode cX4_isAhead 11 = .ok (.aload_n 1, 1) := by decide +kernel
theorem dX4_isAhead_12 : decode cX4_isAhead 12 = .ok (.getfield 85, 3) := by decide +kernel
theorem dX4_isAhead_15 : decode cX4_isAhead 15 = .ok (.aload_n 0, 1) := by decide +kernel
theorem dX4_isAhead_16 : decode cX4_isAhead 16 = .ok (.getfield 28, 3) := by decide +kernel
theorem dX4_isAhead_19 : decode cX4_isAhead 19 = .ok (.if_icmp .ge 7, 3) := by decide +kernel
theorem dX4_isAhead_22 : decode cX4_isAhead 22 = .ok (.iconst 1, 1) := by decide +kernel
theorem dX4_isAhead_23 : decode cX4_isAhead 23 = .ok (.goto 4, 3) := by decide +kernel
theorem dX4_isAhead_26 : decode cX4_isAhead 26 = .ok (.iconst 0, 1) := by decide +kernel
theorem dX4_isAhead_27 : decode cX4_isAhead 27 = .ok (.ireturn, 1) := by decide +kernel
theorem dX4_isAhead_28 : decode cX4_isAhead 28 = .ok (.iconst 0, 1) := by decide +kernel
theorem dX4_isAhead_29 : decode cX4_isAhead 29 = .ok (.istore_n 2, 1) := by decide +kernel
theorem dX4_isAhead_30 : decode cX4_isAhead 30 = .ok (.iload_n 2, 1) := by decide +kernel
theorem dX4_isAhead_31 : decode cX4_isAhead 31 = .ok (.aload_n 0, 1) := by decide +kernel
theorem dX4_isAhead_32 : decode cX4_isAhead 32 = .ok (.getfield 28, 3) := by decide +kernel
theorem dX4_isAhead_35 : decode cX4_isAhead 35 = .ok (.if_icmp .ge 43, 3) := by decide +kernel
theorem dX4_isAhead_38 : decode cX4_isAhead 38 = .ok (.aload_n 0, 1) := by decide +kernel
theorem dX4_isAhead_39 : decode cX4_isAhead 39 = .ok (.getfield 9, 3) := by decide +kernel
theorem dX4_isAhead_42 : decode cX4_isAhead 42 = .ok (.iload_n 2, 1) := by decide +kernel
theorem dX4_isAhead_43 : decode cX4_isAhead 43 = .ok (.iaload, 1) := by decide +kernel
theorem dX4_isAhead_44 : decode cX4_isAhead 44 = .ok (.bipush 100, 2) := by decide +kernel
theorem dX4_isAhead_46 : decode cX4_isAhead 46 = .ok (.irem, 1) := by decide +kernel
theorem dX4_isAhead_47 : decode cX4_isAhead 47 = .ok (.istore_n 3, 1) := by decide +kernel
theorem dX4_isAhead_48 : decode cX4_isAhead 48 = .ok (.aload_n 1, 1) := by decide +kernel
theorem dX4_isAhead_49 : decode cX4_isAhead 49 = .ok (.iload_n 2, 1) := by decide +kernel
theorem dX4_isAhead_50 : decode cX4_isAhead 50 = .ok (.invokevirtual 93, 3) := by decide +kernel
theorem dX4_isAhead_53 : decode cX4_isAhead 53 = .ok (.iload_n 3, 1) := by decide +kernel
theorem dX4_isAhead_54 : decode cX4_isAhead 54 = .ok (.if_icmp .eq 18, 3) := by decide +kernel
theorem dX4_isAhead_57 : decode cX4_isAhead 57 = .ok (.aload_n 1, 1) := by decide +kernel
theorem dX4_isAhead_58 : decode cX4_isAhead 58 = .ok (.iload_n 2, 1) := by decide +kernel
theorem dX4_isAhead_59 : decode cX4_isAhead 59 = .ok (.invokevirtual 93, 3) := by decide +kernel
theorem dX4_isAhead_62 : decode cX4_isAhead 62 = .ok (.iload_n 3, 1) := by decide +kernel
theorem dX4_isAhead_63 : decode cX4_isAhead 63 = .ok (.if_icmp .ge 7, 3) := by decide +kernel
theorem dX4_isAhead_66 : decode cX4_isAhead 66 = .ok (.iconst 1, 1) := by decide +kernel
theorem dX4_isAhead_67 : decode cX4_isAhead 67 = .ok (.goto 4, 3) := by decide +kernel
theorem dX4_isAhead_70 : decode cX4_isAhead 70 = .ok (.iconst 0, 1) := by decide +kernel
theorem dX4_isAhead_71 : decode cX4_isAhead 71 = .ok (.ireturn, 1) := by decide +kernel
theorem dX4_isAhead_72 : decode cX4_isAhead 72 = .ok (.iinc 2 1, 3) := by decide +kernel
theorem dX4_isAhead_75 : decode cX4_isAhead 75 = .ok (.goto (-45), 3) := by decide +kernel
theorem dX4_isAhead_78 : decode cX4_isAhead 78 = .ok (.iconst 0, 1) := by decide +kernel
theorem dX4_isAhead_79 : decode cX4_isAhead 79 = .ok (.ireturn, 1) := by decide +kernel
theorem dX4_cheapest_0 : decode cX4_cheapest 0 = .ok (.aload_n 0, 1) := by decide +kernel
theorem dX4_cheapest_1 : decode cX4_cheapest 1 = .ok (.invokevirtual 97, 3) := by decide +kernel
theorem dX4_cheapest_4 : decode cX4_cheapest 4 = .ok (.iconst 1, 1) := by decide +kernel
theorem dX4_cheapest_5 : decode cX4_cheapest 5 = .ok (.aload_n 0, 1) := by decide +kernel
theorem dX4_cheapest_6 : decode cX4_cheapest 6 = .ok (.getfield 36, 3) := by decide +kernel
theorem dX4_cheapest_9 : decode cX4_cheapest 9 = .ok (.ishl, 1) := by decide +kernel
theorem dX4_cheapest_10 : decode cX4_cheapest 10 = .ok (.iconst 1, 1) := by decide +kernel
theorem dX4_cheapest_11 : decode cX4_cheapest 11 = .ok (.isub, 1) := by decide +kernel
theorem dX4_cheapest_12 : decode cX4_cheapest 12 = .ok (.istore_n 1, 1) := by decide +kernel
theorem dX4_cheapest_13 : decode cX4_cheapest 13 = .ok (.iconst (-1), 1) := by decide +kernel
theorem dX4_cheapest_14 : decode cX4_cheapest 14 = .ok (.istore_n 2, 1) := by decide +kernel
theorem dX4_cheapest_15 : decode cX4_cheapest 15 = .ok (.iconst 0, 1) := by decide +kernel
theorem dX4_cheapest_16 : decode cX4_cheapest 16 = .ok (.istore_n 3, 1) := by decide +kernel
theorem dX4_cheapest_17 : decode cX4_cheapest 17 = .ok (.iload_n 3, 1) := by decide +kernel
theorem dX4_cheapest_18 : decode cX4_cheapest 18 = .ok (.iload_n 1, 1) := by decide +kernel
theorem dX4_cheapest_19 : decode cX4_cheapest 19 = .ok (.if_icmp .gt 35, 3) := by decide +kernel
theorem dX4_cheapest_22 : decode cX4_cheapest 22 = .ok (.aload_n 0, 1) := by decide +kernel
theorem dX4_cheapest_23 : decode cX4_cheapest 23 = .ok (.getfield 24, 3) := by decide +kernel
theorem dX4_cheapest_26 : decode cX4_cheapest 26 = .ok (.iload_n 1, 1) := by decide +kernel
theorem dX4_cheapest_27 : decode cX4_cheapest 27 = .ok (.iload_n 3, 1) := by decide +kernel
theorem dX4_cheapest_28 : decode cX4_cheapest 28 = .ok (.ixor, 1) := by decide +kernel
theorem dX4_cheapest_29 : decode cX4_cheapest 29 = .ok (.baload, 1) := by decide +kernel
theorem dX4_cheapest_30 : decode cX4_cheapest 30 = .ok (.ifCond .ne 18, 3) := by decide +kernel
theorem dX4_cheapest_33 : decode cX4_cheapest 33 = .ok (.iload_n 2, 1) := by decide +kernel
theorem dX4_cheapest_34 : decode cX4_cheapest 34 = .ok (.ifCond .lt 12, 3) := by decide +kernel
theorem dX4_cheapest_37 : decode cX4_cheapest 37 = .ok (.aload_n 0, 1) := by decide +kernel
theorem dX4_cheapest_38 : decode cX4_cheapest 38 = .ok (.iload_n 3, 1) := by decide +kernel
theorem dX4_cheapest_39 : decode cX4_cheapest 39 = .ok (.iload_n 2, 1) := by decide +kernel
theorem dX4_cheapest_40 : decode cX4_cheapest 40 = .ok (.invokevirtual 100, 3) := by decide +kernel
theorem dX4_cheapest_43 : decode cX4_cheapest 43 = .ok (.ifCond .eq 5, 3) := by decide +kernel
theorem dX4_cheapest_46 : decode cX4_cheapest 46 = .ok (.iload_n 3, 1) := by decide +kernel
theorem dX4_cheapest_47 : decode cX4_cheapest 47 = .ok (.istore_n 2, 1) := by decide +kernel
theorem dX4_cheapest_48 : decode cX4_cheapest 48 = .ok (.iinc 3 1, 3) := by decide +kernel
theorem dX4_cheapest_51 : decode cX4_cheapest 51 = .ok (.goto (-34), 3) := by decide +kernel
theorem dX4_cheapest_54 : decode cX4_cheapest 54 = .ok (.iload_n 2, 1) := by decide +kernel
theorem dX4_cheapest_55 : decode cX4_cheapest 55 = .ok (.ifCond .ge 9, 3) := by decide +kernel
theorem dX4_cheapest_58 : decode cX4_cheapest 58 = .ok (.ldc2_w 104, 3) := by decide +kernel
theorem dX4_cheapest_61 : decode cX4_cheapest 61 = .ok (.goto 8, 3) := by decide +kernel
theorem dX4_cheapest_64 : decode cX4_cheapest 64 = .ok (.aload_n 0, 1) := by decide +kernel
theorem dX4_cheapest_65 : decode cX4_cheapest 65 = .ok (.iload_n 2, 1) := by decide +kernel
theorem dX4_cheapest_66 : decode cX4_cheapest 66 = .ok (.invokevirtual 106, 3) := by decide +kernel
theorem dX4_cheapest_69 : decode cX4_cheapest 69 = .ok (.lreturn, 1) := by decide +kernel
theorem dX4_spreadToMore_0 : decode cX4_spreadToMore 0 = .ok (.iconst 0, 1) := by decide +kernel
theorem dX4_spreadToMore_1 : decode cX4_spreadToMore 1 = .ok (.istore_n 1, 1) := by decide +kernel
theorem dX4_spreadToMore_2 : decode cX4_spreadToMore 2 = .ok (.iload_n 1, 1) := by decide +kernel
theorem dX4_spreadToMore_3 : decode cX4_spreadToMore 3 = .ok (.iconst 1, 1) := by decide +kernel
theorem dX4_spreadToMore_4 : decode cX4_spreadToMore 4 = .ok (.aload_n 0, 1) := by decide +kernel
theorem dX4_spreadToMore_5 : decode cX4_spreadToMore 5 = .ok (.getfield 36, 3) := by decide +kernel
theorem dX4_spreadToMore_8 : decode cX4_spreadToMore 8 = .ok (.ishl, 1) := by decide +kernel
theorem dX4_spreadToMore_9 : decode cX4_spreadToMore 9 = .ok (.if_icmp .ge 60, 3) := by decide +kernel
theorem dX4_spreadToMore_12 : decode cX4_spreadToMore 12 = .ok (.iconst 0, 1) := by decide +kernel
theorem dX4_spreadToMore_13 : decode cX4_spreadToMore 13 = .ok (.istore_n 2, 1) := by decide +kernel
theorem dX4_spreadToMore_14 : decode cX4_spreadToMore 14 = .ok (.iload_n 2, 1) := by decide +kernel
theorem dX4_spreadToMore_15 : decode cX4_spreadToMore 15 = .ok (.aload_n 0, 1) := by decide +kernel
theorem dX4_spreadToMore_16 : decode cX4_spreadToMore 16 = .ok (.getfield 36, 3) := by decide +kernel
theorem dX4_spreadToMore_19 : decode cX4_spreadToMore 19 = .ok (.if_icmp .ge 44, 3) := by decide +kernel
theorem dX4_spreadToMore_22 : decode cX4_spreadToMore 22 = .ok (.iload_n 1, 1) := by decide +kernel
theorem dX4_spreadToMore_23 : decode cX4_spreadToMore 23 = .ok (.iconst 1, 1) := by decide +kernel
theorem dX4_spreadToMore_24 : decode cX4_spreadToMore 24 = .ok (.iload_n 2, 1) := by decide +kernel
theorem dX4_spreadToMore_25 : decode cX4_spreadToMore 25 = .ok (.ishl, 1) := by decide +kernel
theorem dX4_spreadToMore_26 : decode cX4_spreadToMore 26 = .ok (.ior, 1) := by decide +kernel
theorem dX4_spreadToMore_27 : decode cX4_spreadToMore 27 = .ok (.istore_n 3, 1) := by decide +kernel
theorem dX4_spreadToMore_28 : decode cX4_spreadToMore 28 = .ok (.aload_n 0, 1) := by decide +kernel
theorem dX4_spreadToMore_29 : decode cX4_spreadToMore 29 = .ok (.getfield 24, 3) := by decide +kernel
theorem dX4_spreadToMore_32 : decode cX4_spreadToMore 32 = .ok (.iload_n 3, 1) := by decide +kernel
theorem dX4_spreadToMore_33 : decode cX4_spreadToMore 33 = .ok (.aload_n 0, 1) := by decide +kernel
theorem dX4_spreadToMore_34 : decode cX4_spreadToMore 34 = .ok (.getfield 24, 3) := by decide +kernel
theorem dX4_spreadToMore_37 : decode cX4_spreadToMore 37 = .ok (.iload_n 3, 1) := by decide +kernel
theorem dX4_spreadToMore_38 : decode cX4_spreadToMore 38 = .ok (.baload, 1) := by decide +kernel
theorem dX4_spreadToMore_39 : decode cX4_spreadToMore 39 = .ok (.ifCond .ne 12, 3) := by decide +kernel
theorem dX4_spreadToMore_42 : decode cX4_spreadToMore 42 = .ok (.aload_n 0, 1) := by decide +kernel
theorem dX4_spreadToMore_43 : decode cX4_spreadToMore 43 = .ok (.getfield 24, 3) := by decide +kernel
theorem dX4_spreadToMore_46 : decode cX4_spreadToMore 46 = .ok (.iload_n 1, 1) := by decide +kernel
theorem dX4_spreadToMore_47 : decode cX4_spreadToMore 47 = .ok (.baload, 1) := by decide +kernel
theorem dX4_spreadToMore_48 : decode cX4_spreadToMore 48 = .ok (.ifCond .eq 7, 3) := by decide +kernel
theorem dX4_spreadToMore_51 : decode cX4_spreadToMore 51 = .ok (.iconst 1, 1) := by decide +kernel
theorem dX4_spreadToMore_52 : decode cX4_spreadToMore 52 = .ok (.goto 4, 3) := by decide +kernel
theorem dX4_spreadToMore_55 : decode cX4_spreadToMore 55 = .ok (.iconst 0, 1) := by decide +kernel
theorem dX4_spreadToMore_56 : decode cX4_spreadToMore 56 = .ok (.bastore, 1) := by decide +kernel
theorem dX4_spreadToMore_57 : decode cX4_spreadToMore 57 = .ok (.iinc 2 1, 3) := by decide +kernel
theorem dX4_spreadToMore_60 : decode cX4_spreadToMore 60 = .ok (.goto (-46), 3) := by decide +kernel
theorem dX4_spreadToMore_63 : decode cX4_spreadToMore 63 = .ok (.iinc 1 1, 3) := by decide +kernel
theorem dX4_spreadToMore_66 : decode cX4_spreadToMore 66 = .ok (.goto (-64), 3) := by decide +kernel
theorem dX4_spreadToMore_69 : decode cX4_spreadToMore 69 = .ok (.return_, 1) := by decide +kernel
theorem dX4_isCheaper_0 : decode cX4_isCheaper 0 = .ok (.aload_n 0, 1) := by decide +kernel
theorem dX4_isCheaper_1 : decode cX4_isCheaper 1 = .ok (.iload_n 1, 1) := by decide +kernel
theorem dX4_isCheaper_2 : decode cX4_isCheaper 2 = .ok (.invokevirtual 110, 3) := by decide +kernel
theorem dX4_isCheaper_5 : decode cX4_isCheaper 5 = .ok (.istore_n 3, 1) := by decide +kernel
theorem dX4_isCheaper_6 : decode cX4_isCheaper 6 = .ok (.aload_n 0, 1) := by decide +kernel
theorem dX4_isCheaper_7 : decode cX4_isCheaper 7 = .ok (.iload_n 2, 1) := by decide +kernel
theorem dX4_isCheaper_8 : decode cX4_isCheaper 8 = .ok (.invokevirtual 110, 3) := by decide +kernel
theorem dX4_isCheaper_11 : decode cX4_isCheaper 11 = .ok (.istore 4, 2) := by decide +kernel
theorem dX4_isCheaper_13 : decode cX4_isCheaper 13 = .ok (.iload_n 3, 1) := by decide +kernel
theorem dX4_isCheaper_14 : decode cX4_isCheaper 14 = .ok (.iload 4, 2) := by decide +kernel
theorem dX4_isCheaper_16 : decode cX4_isCheaper 16 = .ok (.if_icmp .lt 20, 3) := by decide +kernel
theorem dX4_isCheaper_19 : decode cX4_isCheaper 19 = .ok (.iload_n 3, 1) := by decide +kernel
theorem dX4_isCheaper_20 : decode cX4_isCheaper 20 = .ok (.iload 4, 2) := by decide +kernel
theorem dX4_isCheaper_22 : decode cX4_isCheaper 22 = .ok (.if_icmp .ne 18, 3) := by decide +kernel
theorem dX4_isCheaper_25 : decode cX4_isCheaper 25 = .ok (.iload_n 1, 1) := by decide +kernel
theorem dX4_isCheaper_26 : decode cX4_isCheaper 26 = .ok (.invokestatic 113, 3) := by decide +kernel
theorem dX4_isCheaper_29 : decode cX4_isCheaper 29 = .ok (.iload_n 2, 1) := by decide +kernel
theorem dX4_isCheaper_30 : decode cX4_isCheaper 30 = .ok (.invokestatic 113, 3) := by decide +kernel
theorem dX4_isCheaper_33 : decode cX4_isCheaper 33 = .ok (.if_icmp .ge 7, 3) := by decide +kernel
theorem dX4_isCheaper_36 : decode cX4_isCheaper 36 = .ok (.iconst 1, 1) := by decide +kernel
theorem dX4_isCheaper_37 : decode cX4_isCheaper 37 = .ok (.goto 4, 3) := by decide +kernel
theorem dX4_isCheaper_40 : decode cX4_isCheaper 40 = .ok (.iconst 0, 1) := by decide +kernel
theorem dX4_isCheaper_41 : decode cX4_isCheaper 41 = .ok (.ireturn, 1) := by decide +kernel
theorem dX4_worthOf_0 : decode cX4_worthOf 0 = .ok (.iconst 0, 1) := by decide +kernel
theorem dX4_worthOf_1 : decode cX4_worthOf 1 = .ok (.istore_n 2, 1) := by decide +kernel
theorem dX4_worthOf_2 : decode cX4_worthOf 2 = .ok (.iconst 0, 1) := by decide +kernel
theorem dX4_worthOf_3 : decode cX4_worthOf 3 = .ok (.istore_n 3, 1) := by decide +kernel
theorem dX4_worthOf_4 : decode cX4_worthOf 4 = .ok (.iload_n 3, 1) := by decide +kernel
theorem dX4_worthOf_5 : decode cX4_worthOf 5 = .ok (.aload_n 0, 1) := by decide +kernel
theorem dX4_worthOf_6 : decode cX4_worthOf 6 = .ok (.getfield 36, 3) := by decide +kernel
theorem dX4_worthOf_9 : decode cX4_worthOf 9 = .ok (.if_icmp .ge 39, 3) := by decide +kernel
theorem dX4_worthOf_12 : decode cX4_worthOf 12 = .ok (.aload_n 0, 1) := by decide +kernel
theorem dX4_worthOf_13 : decode cX4_worthOf 13 = .ok (.getfield 17, 3) := by decide +kernel
theorem dX4_worthOf_16 : decode cX4_worthOf 16 = .ok (.iload_n 3, 1) := by decide +kernel
theorem dX4_worthOf_17 : decode cX4_worthOf 17 = .ok (.aaload, 1) := by decide +kernel
theorem dX4_worthOf_18 : decode cX4_worthOf 18 = .ok (.astore 4, 2) := by decide +kernel
theorem dX4_worthOf_20 : decode cX4_worthOf 20 = .ok (.aload 4, 2) := by decide +kernel
theorem dX4_worthOf_22 : decode cX4_worthOf 22 = .ok (.ifnull 20, 3) := by decide +kernel
theorem dX4_worthOf_25 : decode cX4_worthOf 25 = .ok (.iload_n 1, 1) := by decide +kernel
theorem dX4_worthOf_26 : decode cX4_worthOf 26 = .ok (.iload_n 3, 1) := by decide +kernel
theorem dX4_worthOf_27 : decode cX4_worthOf 27 = .ok (.ishr, 1) := by decide +kernel
theorem dX4_worthOf_28 : decode cX4_worthOf 28 = .ok (.iconst 1, 1) := by decide +kernel
theorem dX4_worthOf_29 : decode cX4_worthOf 29 = .ok (.iand, 1) := by decide +kernel
theorem dX4_worthOf_30 : decode cX4_worthOf 30 = .ok (.iconst 1, 1) := by decide +kernel
theorem dX4_worthOf_31 : decode cX4_worthOf 31 = .ok (.if_icmp .ne 11, 3) := by decide +kernel
theorem dX4_worthOf_34 : decode cX4_worthOf 34 = .ok (.iload_n 2, 1) := by decide +kernel
theorem dX4_worthOf_35 : decode cX4_worthOf 35 = .ok (.aload 4, 2) := by decide +kernel
theorem dX4_worthOf_37 : decode cX4_worthOf 37 = .ok (.getfield 118, 3) := by decide +kernel
theorem dX4_worthOf_40 : decode cX4_worthOf 40 = .ok (.iadd, 1) := by decide +kernel
theorem dX4_worthOf_41 : decode cX4_worthOf 41 = .ok (.istore_n 2, 1) := by decide +kernel
theorem dX4_worthOf_42 : decode cX4_worthOf 42 = .ok (.iinc 3 1, 3) := by decide +kernel
theorem dX4_worthOf_45 : decode cX4_worthOf 45 = .ok (.goto (-41), 3) := by decide +kernel
theorem dX4_worthOf_48 : decode cX4_worthOf 48 = .ok (.iload_n 2, 1) := by decide +kernel
theorem dX4_worthOf_49 : decode cX4_worthOf 49 = .ok (.ireturn, 1) := by decide +kernel
theorem dX4_byNumbers_0 : decode cX4_byNumbers 0 = .ok (.lconst 0, 1) := by decide +kernel
theorem dX4_byNumbers_1 : decode cX4_byNumbers 1 = .ok (.lstore_n 2, 1) := by decide +kernel
theorem dX4_byNumbers_2 : decode cX4_byNumbers 2 = .ok (.iconst 0, 1) := by decide +kernel
theorem dX4_byNumbers_3 : decode cX4_byNumbers 3 = .ok (.istore 4, 2) := by decide +kernel
theorem dX4_byNumbers_5 : decode cX4_byNumbers 5 = .ok (.iload 4, 2) := by decide +kernel
theorem dX4_byNumbers_7 : decode cX4_byNumbers 7 = .ok (.aload_n 0, 1) := by decide +kernel
theorem dX4_byNumbers_8 : decode cX4_byNumbers 8 = .ok (.getfield 36, 3) := by decide +kernel
theorem dX4_byNumbers_11 : decode cX4_byNumbers 11 = .ok (.if_icmp .ge 43, 3) := by decide +kernel
theorem dX4_byNumbers_14 : decode cX4_byNumbers 14 = .ok (.aload_n 0, 1) := by decide +kernel
theorem dX4_byNumbers_15 : decode cX4_byNumbers 15 = .ok (.getfield 17, 3) := by decide +kernel
theorem dX4_byNumbers_18 : decode cX4_byNumbers 18 = .ok (.iload 4, 2) := by decide +kernel
theorem dX4_byNumbers_20 : decode cX4_byNumbers 20 = .ok (.aaload, 1) := by decide +kernel
theorem dX4_byNumbers_21 : decode cX4_byNumbers 21 = .ok (.astore 5, 2) := by decide +kernel
theorem dX4_byNumbers_23 : decode cX4_byNumbers 23 = .ok (.aload 5, 2) := by decide +kernel
theorem dX4_byNumbers_25 : decode cX4_byNumbers 25 = .ok (.ifnull 23, 3) := by decide +kernel
theorem dX4_byNumbers_28 : decode cX4_byNumbers 28 = .ok (.iload_n 1, 1) := by decide +kernel
theorem dX4_byNumbers_29 : decode cX4_byNumbers 29 = .ok (.iload 4, 2) := by decide +kernel
theorem dX4_byNumbers_31 : decode cX4_byNumbers 31 = .ok (.ishr, 1) := by decide +kernel
theorem dX4_byNumbers_32 : decode cX4_byNumbers 32 = .ok (.iconst 1, 1) := by decide +kernel
theorem dX4_byNumbers_33 : decode cX4_byNumbers 33 = .ok (.iand, 1) := by decide +kernel
theorem dX4_byNumbers_34 : decode cX4_byNumbers 34 = .ok (.iconst 1, 1) := by decide +kernel
theorem dX4_byNumbers_35 : decode cX4_byNumbers 35 = .ok (.if_icmp .ne 13, 3) := by decide +kernel
theorem dX4_byNumbers_38 : decode cX4_byNumbers 38 = .ok (.lload_n 2, 1) := by decide +kernel
theorem dX4_byNumbers_39 : decode cX4_byNumbers 39 = .ok (.lconst 1, 1) := by decide +kernel
theorem dX4_byNumbers_40 : decode cX4_byNumbers 40 = .ok (.aload 5, 2) := by decide +kernel
theorem dX4_byNumbers_42 : decode cX4_byNumbers 42 = .ok (.getfield 57, 3) := by decide +kernel
theorem dX4_byNumbers_45 : decode cX4_byNumbers 45 = .ok (.lshl, 1) := by decide +kernel
theorem dX4_byNumbers_46 : decode cX4_byNumbers 46 = .ok (.lor, 1) := by decide +kernel
theorem dX4_byNumbers_47 : decode cX4_byNumbers 47 = .ok (.lstore_n 2, 1) := by decide +kernel
theorem dX4_byNumbers_48 : decode cX4_byNumbers 48 = .ok (.iinc 4 1, 3) := by decide +kernel
theorem dX4_byNumbers_51 : decode cX4_byNumbers 51 = .ok (.goto (-46), 3) := by decide +kernel
theorem dX4_byNumbers_54 : decode cX4_byNumbers 54 = .ok (.lload_n 2, 1) := by decide +kernel
theorem dX4_byNumbers_55 : decode cX4_byNumbers 55 = .ok (.lreturn, 1) := by decide +kernel
theorem dX5_init_0 : decode cX5_init 0 = .ok (.aload_n 0, 1) := by decide +kernel
theorem dX5_init_1 : decode cX5_init 1 = .ok (.invokespecial 3, 3) := by decide +kernel
theorem dX5_init_4 : decode cX5_init 4 = .ok (.aload_n 0, 1) := by decide +kernel
theorem dX5_init_5 : decode cX5_init 5 = .ok (.new 9, 3) := by decide +kernel
theorem dX5_init_8 : decode cX5_init 8 = .ok (.dup, 1) := by decide +kernel
theorem dX5_init_9 : decode cX5_init 9 = .ok (.invokespecial 11, 3) := by decide +kernel
theorem dX5_init_12 : decode cX5_init 12 = .ok (.putfield 12, 3) := by decide +kernel
theorem dX5_init_15 : decode cX5_init 15 = .ok (.aload_n 0, 1) := by decide +kernel
theorem dX5_init_16 : decode cX5_init 16 = .ok (.new 9, 3) := by decide +kernel
theorem dX5_init_19 : decode cX5_init 19 = .ok (.dup, 1) := by decide +kernel
theorem dX5_init_20 : decode cX5_init 20 = .ok (.invokespecial 11, 3) := by decide +kernel
theorem dX5_init_23 : decode cX5_init 23 = .ok (.putfield 18, 3) := by decide +kernel
theorem dX5_init_26 : decode cX5_init 26 = .ok (.aload_n 0, 1) := by decide +kernel
theorem dX5_init_27 : decode cX5_init 27 = .ok (.sipush 9999, 3) := by decide +kernel
theorem dX5_init_30 : decode cX5_init 30 = .ok (.putfield 21, 3) := by decide +kernel
theorem dX5_init_33 : decode cX5_init 33 = .ok (.aload_n 0, 1) := by decide +kernel
theorem dX5_init_34 : decode cX5_init 34 = .ok (.iconst 1, 1) := by decide +kernel
theorem dX5_init_35 : decode cX5_init 35 = .ok (.putfield 25, 3) := by decide +kernel
theorem dX5_init_38 : decode cX5_init 38 = .ok (.aload_n 0, 1) := by decide +kernel
theorem dX5_init_39 : decode cX5_init 39 = .ok (.iload_n 1, 1) := by decide +kernel
theorem dX5_init_40 : decode cX5_init 40 = .ok (.putfield 28, 3) := by decide +kernel
theorem dX5_init_43 : decode cX5_init 43 = .ok (.aload_n 0, 1) := by decide +kernel
theorem dX5_init_44 : decode cX5_init 44 = .ok (.iload_n 2, 1) := by decide +kernel
theorem dX5_init_45 : decode cX5_init 45 = .ok (.putfield 31, 3) := by decide +kernel
theorem dX5_init_48 : decode cX5_init 48 = .ok (.aload_n 0, 1) := by decide +kernel
theorem dX5_init_49 : decode cX5_init 49 = .ok (.iload_n 3, 1) := by decide +kernel
