theorem dX11_endOf_40 : decode cX11_endOf 40 = .ok (.i2l, 1) := by decide +kernel
theorem dX11_endOf_41 : decode cX11_endOf 41 = .ok (.ladd, 1) := by decide +kernel
theorem dX11_endOf_42 : decode cX11_endOf 42 = .ok (.lmul, 1) := by decide +kernel
theorem dX11_endOf_43 : decode cX11_endOf 43 = .ok (.aload_n 0, 1) := by decide +kernel
theorem dX11_endOf_44 : decode cX11_endOf 44 = .ok (.getfield 98, 3) := by decide +kernel
theorem dX11_endOf_47 : decode cX11_endOf 47 = .ok (.ldc2_w 124, 3) := by decide +kernel
theorem dX11_endOf_50 : decode cX11_endOf 50 = .ok (.lmul, 1) := by decide +kernel
theorem dX11_endOf_51 : decode cX11_endOf 51 = .ok (.invokevirtual 186, 3) := by decide +kernel
theorem dX11_endOf_54 : decode cX11_endOf 54 = .ok (.goto 57, 3) := by decide +kernel
theorem dX11_endOf_57 : decode cX11_endOf 57 = .ok (.aload_n 0, 1) := by decide +kernel
theorem dX11_endOf_58 : decode cX11_endOf 58 = .ok (.iload_n 1, 1) := by decide +kernel
theorem dX11_endOf_59 : decode cX11_endOf 59 = .ok (.invokevirtual 178, 3) := by decide +kernel
theorem dX11_endOf_62 : decode cX11_endOf 62 = .ok (.ifCond .eq 49, 3) := by decide +kernel
theorem dX11_endOf_65 : decode cX11_endOf 65 = .ok (.aload_n 0, 1) := by decide +kernel
theorem dX11_endOf_66 : decode cX11_endOf 66 = .ok (.aload_n 0, 1) := by decide +kernel
theorem dX11_endOf_67 : decode cX11_endOf 67 = .ok (.getfield 94, 3) := by decide +kernel
theorem dX11_endOf_70 : decode cX11_endOf 70 = .ok (.iload_n 2, 1) := by decide +kernel
theorem dX11_endOf_71 : decode cX11_endOf 71 = .ok (.ifCond .ne 17, 3) := by decide +kernel
theorem dX11_endOf_74 : decode cX11_endOf 74 = .ok (.ldc2_w 124, 3) := by decide +kernel
theorem dX11_endOf_77 : decode cX11_endOf 77 = .ok (.aload_n 0, 1) := by decide +kernel
theorem dX11_endOf_78 : decode cX11_endOf 78 = .ok (.getfield 40, 3) := by decide +kernel
theorem dX11_endOf_81 : decode cX11_endOf 81 = .ok (.iload_n 1, 1) := by decide +kernel
theorem dX11_endOf_82 : decode cX11_endOf 82 = .ok (.iaload, 1) := by decide +kernel
theorem dX11_endOf_83 : decode cX11_endOf 83 = .ok (.i2l, 1) := by decide +kernel
theorem dX11_endOf_84 : decode cX11_endOf 84 = .ok (.lsub, 1) := by decide +kernel
theorem dX11_endOf_85 : decode cX11_endOf 85 = .ok (.goto 14, 3) := by decide +kernel
theorem dX11_endOf_88 : decode cX11_endOf 88 = .ok (.ldc2_w 124, 3) := by decide +kernel
theorem dX11_endOf_91 : decode cX11_endOf 91 = .ok (.aload_n 0, 1) := by decide +kernel
theorem dX11_endOf_92 : decode cX11_endOf 92 = .ok (.getfield 40, 3) := by decide +kernel
theorem dX11_endOf_95 : decode cX11_endOf 95 = .ok (.iload_n 1, 1) := by decide +kernel
theorem dX11_endOf_96 : decode cX11_endOf 96 = .ok (.iaload, 1) := by decide +kernel
theorem dX11_endOf_97 : decode cX11_endOf 97 = .ok (.i2l, 1) := by decide +kernel
theorem dX11_endOf_98 : decode cX11_endOf 98 = .ok (.ladd, 1) := by decide +kernel
theorem dX11_endOf_99 : decode cX11_endOf 99 = .ok (.lmul, 1) := by decide +kernel
theorem dX11_endOf_100 : decode cX11_endOf 100 = .ok (.aload_n 0, 1) := by decide +kernel
theorem dX11_endOf_101 : decode cX11_endOf 101 = .ok (.getfield 98, 3) := by decide +kernel
theorem dX11_endOf_104 : decode cX11_endOf 104 = .ok (.ldc2_w 124, 3) := by decide +kernel
theorem dX11_endOf_107 : decode cX11_endOf 107 = .ok (.lmul, 1) := by decide +kernel
theorem dX11_endOf_108 : decode cX11_endOf 108 = .ok (.invokevirtual 186, 3) := by decide +kernel
theorem dX11_endOf_111 : decode cX11_endOf 111 = .ok (.aload_n 0, 1) := by decide +kernel
theorem dX11_endOf_112 : decode cX11_endOf 112 = .ok (.getfield 13, 3) := by decide +kernel
theorem dX11_endOf_115 : decode cX11_endOf 115 = .ok (.iload_n 1, 1) := by decide +kernel
theorem dX11_endOf_116 : decode cX11_endOf 116 = .ok (.iaload, 1) := by decide +kernel
theorem dX11_endOf_117 : decode cX11_endOf 117 = .ok (.iconst 4, 1) := by decide +kernel
theorem dX11_endOf_118 : decode cX11_endOf 118 = .ok (.if_icmp .ne 45, 3) := by decide +kernel
theorem dX11_endOf_121 : decode cX11_endOf 121 = .ok (.aload_n 0, 1) := by decide +kernel
theorem dX11_endOf_122 : decode cX11_endOf 122 = .ok (.iload_n 2, 1) := by decide +kernel
theorem dX11_endOf_123 : decode cX11_endOf 123 = .ok (.ifCond .ne 10, 3) := by decide +kernel
theorem dX11_endOf_126 : decode cX11_endOf 126 = .ok (.aload_n 0, 1) := by decide +kernel
theorem dX11_endOf_127 : decode cX11_endOf 127 = .ok (.getfield 94, 3) := by decide +kernel
theorem dX11_endOf_130 : decode cX11_endOf 130 = .ok (.goto 11, 3) := by decide +kernel
theorem dX11_endOf_133 : decode cX11_endOf 133 = .ok (.ldc2_w 189, 3) := by decide +kernel
theorem dX11_endOf_136 : decode cX11_endOf 136 = .ok (.aload_n 0, 1) := by decide +kernel
theorem dX11_endOf_137 : decode cX11_endOf 137 = .ok (.getfield 94, 3) := by decide +kernel
theorem dX11_endOf_140 : decode cX11_endOf 140 = .ok (.lmul, 1) := by decide +kernel
theorem dX11_endOf_141 : decode cX11_endOf 141 = .ok (.iload_n 2, 1) := by decide +kernel
theorem dX11_endOf_142 : decode cX11_endOf 142 = .ok (.ifCond .ne 14, 3) := by decide +kernel
theorem dX11_endOf_145 : decode cX11_endOf 145 = .ok (.ldc2_w 189, 3) := by decide +kernel
theorem dX11_endOf_148 : decode cX11_endOf 148 = .ok (.aload_n 0, 1) := by decide +kernel
theorem dX11_endOf_149 : decode cX11_endOf 149 = .ok (.getfield 98, 3) := by decide +kernel
theorem dX11_endOf_152 : decode cX11_endOf 152 = .ok (.lmul, 1) := by decide +kernel
theorem dX11_endOf_153 : decode cX11_endOf 153 = .ok (.goto 7, 3) := by decide +kernel
theorem dX11_endOf_156 : decode cX11_endOf 156 = .ok (.aload_n 0, 1) := by decide +kernel
theorem dX11_endOf_157 : decode cX11_endOf 157 = .ok (.getfield 98, 3) := by decide +kernel
theorem dX11_endOf_160 : decode cX11_endOf 160 = .ok (.invokevirtual 186, 3) := by decide +kernel
theorem dX11_endOf_163 : decode cX11_endOf 163 = .ok (.return_, 1) := by decide +kernel
theorem dX11_end_0 : decode cX11_end 0 = .ok (.aload_n 0, 1) := by decide +kernel
theorem dX11_end_1 : decode cX11_end 1 = .ok (.iload_n 1, 1) := by decide +kernel
theorem dX11_end_2 : decode cX11_end 2 = .ok (.invokevirtual 169, 3) := by decide +kernel
theorem dX11_end_5 : decode cX11_end 5 = .ok (.ifCond .eq 23, 3) := by decide +kernel
theorem dX11_end_8 : decode cX11_end 8 = .ok (.iload_n 2, 1) := by decide +kernel
theorem dX11_end_9 : decode cX11_end 9 = .ok (.i2l, 1) := by decide +kernel
theorem dX11_end_10 : decode cX11_end 10 = .ok (.lconst 0, 1) := by decide +kernel
theorem dX11_end_11 : decode cX11_end 11 = .ok (.lconst 1, 1) := by decide +kernel
theorem dX11_end_12 : decode cX11_end 12 = .ok (.invokestatic 145, 3) := by decide +kernel
theorem dX11_end_15 : decode cX11_end 15 = .ok (.ifCond .eq 13, 3) := by decide +kernel
theorem dX11_end_18 : decode cX11_end 18 = .ok (.iload_n 3, 1) := by decide +kernel
theorem dX11_end_19 : decode cX11_end 19 = .ok (.i2l, 1) := by decide +kernel
theorem dX11_end_20 : decode cX11_end 20 = .ok (.lconst 0, 1) := by decide +kernel
theorem dX11_end_21 : decode cX11_end 21 = .ok (.lconst 1, 1) := by decide +kernel
theorem dX11_end_22 : decode cX11_end 22 = .ok (.invokestatic 145, 3) := by decide +kernel
theorem dX11_end_25 : decode cX11_end 25 = .ok (.ifCond .ne 7, 3) := by decide +kernel
theorem dX11_end_28 : decode cX11_end 28 = .ok (.ldc2_w 149, 3) := by decide +kernel
theorem dX11_end_31 : decode cX11_end 31 = .ok (.lreturn, 1) := by decide +kernel
theorem dX11_end_32 : decode cX11_end 32 = .ok (.aload_n 0, 1) := by decide +kernel
theorem dX11_end_33 : decode cX11_end 33 = .ok (.iload_n 1, 1) := by decide +kernel
theorem dX11_end_34 : decode cX11_end 34 = .ok (.iload_n 2, 1) := by decide +kernel
theorem dX11_end_35 : decode cX11_end 35 = .ok (.invokevirtual 191, 3) := by decide +kernel
theorem dX11_end_38 : decode cX11_end 38 = .ok (.iload_n 3, 1) := by decide +kernel
theorem dX11_end_39 : decode cX11_end 39 = .ok (.ifCond .ne 10, 3) := by decide +kernel
theorem dX11_end_42 : decode cX11_end 42 = .ok (.aload_n 0, 1) := by decide +kernel
theorem dX11_end_43 : decode cX11_end 43 = .ok (.getfield 94, 3) := by decide +kernel
theorem dX11_end_46 : decode cX11_end 46 = .ok (.goto 7, 3) := by decide +kernel
theorem dX11_end_49 : decode cX11_end 49 = .ok (.aload_n 0, 1) := by decide +kernel
theorem dX11_end_50 : decode cX11_end 50 = .ok (.getfield 98, 3) := by decide +kernel
theorem dX11_end_53 : decode cX11_end 53 = .ok (.lreturn, 1) := by decide +kernel
theorem dX11_doesCount_0 : decode cX11_doesCount 0 = .ok (.aload_n 0, 1) := by decide +kernel
theorem dX11_doesCount_1 : decode cX11_doesCount 1 = .ok (.getfield 43, 3) := by decide +kernel
theorem dX11_doesCount_4 : decode cX11_doesCount 4 = .ok (.iload_n 1, 1) := by decide +kernel
theorem dX11_doesCount_5 : decode cX11_doesCount 5 = .ok (.baload, 1) := by decide +kernel
theorem dX11_doesCount_6 : decode cX11_doesCount 6 = .ok (.ifCond .ne 23, 3) := by decide +kernel
theorem dX11_doesCount_9 : decode cX11_doesCount 9 = .ok (.iload_n 3, 1) := by decide +kernel
theorem dX11_doesCount_10 : decode cX11_doesCount 10 = .ok (.aload_n 0, 1) := by decide +kernel
theorem dX11_doesCount_11 : decode cX11_doesCount 11 = .ok (.getfield 31, 3) := by decide +kernel
theorem dX11_doesCount_14 : decode cX11_doesCount 14 = .ok (.iload_n 1, 1) := by decide +kernel
theorem dX11_doesCount_15 : decode cX11_doesCount 15 = .ok (.iaload, 1) := by decide +kernel
theorem dX11_doesCount_16 : decode cX11_doesCount 16 = .ok (.if_icmp .lt 13, 3) := by decide +kernel
theorem dX11_doesCount_19 : decode cX11_doesCount 19 = .ok (.iload_n 3, 1) := by decide +kernel
theorem dX11_doesCount_20 : decode cX11_doesCount 20 = .ok (.aload_n 0, 1) := by decide +kernel
theorem dX11_doesCount_21 : decode cX11_doesCount 21 = .ok (.getfield 34, 3) := by decide +kernel
theorem dX11_doesCount_24 : decode cX11_doesCount 24 = .ok (.iload_n 1, 1) := by decide +kernel
theorem dX11_doesCount_25 : decode cX11_doesCount 25 = .ok (.iaload, 1) := by decide +kernel
theorem dX11_doesCount_26 : decode cX11_doesCount 26 = .ok (.if_icmp .le 5, 3) := by decide +kernel
theorem dX11_doesCount_29 : decode cX11_doesCount 29 = .ok (.iconst 0, 1) := by decide +kernel
theorem dX11_doesCount_30 : decode cX11_doesCount 30 = .ok (.ireturn, 1) := by decide +kernel
theorem dX11_doesCount_31 : decode cX11_doesCount 31 = .ok (.aload_n 0, 1) := by decide +kernel
theorem dX11_doesCount_32 : decode cX11_doesCount 32 = .ok (.getfield 13, 3) := by decide +kernel
theorem dX11_doesCount_35 : decode cX11_doesCount 35 = .ok (.iload_n 1, 1) := by decide +kernel
theorem dX11_doesCount_36 : decode cX11_doesCount 36 = .ok (.iaload, 1) := by decide +kernel
theorem dX11_doesCount_37 : decode cX11_doesCount 37 = .ok (.iconst 3, 1) := by decide +kernel
theorem dX11_doesCount_38 : decode cX11_doesCount 38 = .ok (.if_icmp .ne 21, 3) := by decide +kernel
theorem dX11_doesCount_41 : decode cX11_doesCount 41 = .ok (.iload_n 2, 1) := by decide +kernel
theorem dX11_doesCount_42 : decode cX11_doesCount 42 = .ok (.aload_n 0, 1) := by decide +kernel
theorem dX11_doesCount_43 : decode cX11_doesCount 43 = .ok (.getfield 28, 3) := by decide +kernel
theorem dX11_doesCount_46 : decode cX11_doesCount 46 = .ok (.iload_n 1, 1) := by decide +kernel
theorem dX11_doesCount_47 : decode cX11_doesCount 47 = .ok (.iaload, 1) := by decide +kernel
theorem dX11_doesCount_48 : decode cX11_doesCount 48 = .ok (.if_icmp .ne 7, 3) := by decide +kernel
theorem dX11_doesCount_51 : decode cX11_doesCount 51 = .ok (.iconst 1, 1) := by decide +kernel
theorem dX11_doesCount_52 : decode cX11_doesCount 52 = .ok (.goto 18, 3) := by decide +kernel
theorem dX11_doesCount_55 : decode cX11_doesCount 55 = .ok (.iconst 0, 1) := by decide +kernel
theorem dX11_doesCount_56 : decode cX11_doesCount 56 = .ok (.goto 14, 3) := by decide +kernel
theorem dX11_doesCount_59 : decode cX11_doesCount 59 = .ok (.aload_n 0, 1) := by decide +kernel
theorem dX11_doesCount_60 : decode cX11_doesCount 60 = .ok (.iload_n 2, 1) := by decide +kernel
theorem dX11_doesCount_61 : decode cX11_doesCount 61 = .ok (.aload_n 0, 1) := by decide +kernel
theorem dX11_doesCount_62 : decode cX11_doesCount 62 = .ok (.getfield 28, 3) := by decide +kernel
theorem dX11_doesCount_65 : decode cX11_doesCount 65 = .ok (.iload_n 1, 1) := by decide +kernel
theorem dX11_doesCount_66 : decode cX11_doesCount 66 = .ok (.iaload, 1) := by decide +kernel
theorem dX11_doesCount_67 : decode cX11_doesCount 67 = .ok (.invokevirtual 155, 3) := by decide +kernel
theorem dX11_doesCount_70 : decode cX11_doesCount 70 = .ok (.ireturn, 1) := by decide +kernel
theorem dX11_isDay_0 : decode cX11_isDay 0 = .ok (.iload_n 0, 1) := by decide +kernel
theorem dX11_isDay_1 : decode cX11_isDay 1 = .ok (.i2l, 1) := by decide +kernel
theorem dX11_isDay_2 : decode cX11_isDay 2 = .ok (.lconst 0, 1) := by decide +kernel
theorem dX11_isDay_3 : decode cX11_isDay 3 = .ok (.ldc2_w 172, 3) := by decide +kernel
theorem dX11_isDay_6 : decode cX11_isDay 6 = .ok (.invokestatic 145, 3) := by decide +kernel
theorem dX11_isDay_9 : decode cX11_isDay 9 = .ok (.ireturn, 1) := by decide +kernel
theorem dX11_counts_0 : decode cX11_counts 0 = .ok (.aload_n 0, 1) := by decide +kernel
theorem dX11_counts_1 : decode cX11_counts 1 = .ok (.iload_n 1, 1) := by decide +kernel
theorem dX11_counts_2 : decode cX11_counts 2 = .ok (.invokevirtual 169, 3) := by decide +kernel
theorem dX11_counts_5 : decode cX11_counts 5 = .ok (.ifCond .eq 17, 3) := by decide +kernel
theorem dX11_counts_8 : decode cX11_counts 8 = .ok (.iload_n 2, 1) := by decide +kernel
theorem dX11_counts_9 : decode cX11_counts 9 = .ok (.invokestatic 151, 3) := by decide +kernel
theorem dX11_counts_12 : decode cX11_counts 12 = .ok (.ifCond .eq 10, 3) := by decide +kernel
theorem dX11_counts_15 : decode cX11_counts 15 = .ok (.iload_n 3, 1) := by decide +kernel
theorem dX11_counts_16 : decode cX11_counts 16 = .ok (.invokestatic 195, 3) := by decide +kernel
theorem dX11_counts_19 : decode cX11_counts 19 = .ok (.ifCond .ne 7, 3) := by decide +kernel
theorem dX11_counts_22 : decode cX11_counts 22 = .ok (.ldc2_w 149, 3) := by decide +kernel
theorem dX11_counts_25 : decode cX11_counts 25 = .ok (.lreturn, 1) := by decide +kernel
theorem dX11_counts_26 : decode cX11_counts 26 = .ok (.aload_n 0, 1) := by decide +kernel
theorem dX11_counts_27 : decode cX11_counts 27 = .ok (.iload_n 1, 1) := by decide +kernel
theorem dX11_counts_28 : decode cX11_counts 28 = .ok (.iload_n 2, 1) := by decide +kernel
theorem dX11_counts_29 : decode cX11_counts 29 = .ok (.iload_n 3, 1) := by decide +kernel
theorem dX11_counts_30 : decode cX11_counts 30 = .ok (.invokevirtual 198, 3) := by decide +kernel
theorem dX11_counts_33 : decode cX11_counts 33 = .ok (.ifCond .eq 7, 3) := by decide +kernel
theorem dX11_counts_36 : decode cX11_counts 36 = .ok (.lconst 1, 1) := by decide +kernel
theorem dX11_counts_37 : decode cX11_counts 37 = .ok (.goto 4, 3) := by decide +kernel
theorem dX11_counts_40 : decode cX11_counts 40 = .ok (.lconst 0, 1) := by decide +kernel
theorem dX11_counts_41 : decode cX11_counts 41 = .ok (.lreturn, 1) := by decide +kernel
theorem dX11_findCounted_0 : decode cX11_findCounted 0 = .ok (.iconst 0, 1) := by decide +kernel
theorem dX11_findCounted_1 : decode cX11_findCounted 1 = .ok (.istore_n 3, 1) := by decide +kernel
theorem dX11_findCounted_2 : decode cX11_findCounted 2 = .ok (.iload_n 3, 1) := by decide +kernel
theorem dX11_findCounted_3 : decode cX11_findCounted 3 = .ok (.aload_n 0, 1) := by decide +kernel
theorem dX11_findCounted_4 : decode cX11_findCounted 4 = .ok (.getfield 159, 3) := by decide +kernel
theorem dX11_findCounted_7 : decode cX11_findCounted 7 = .ok (.if_icmp .ge 22, 3) := by decide +kernel
theorem dX11_findCounted_10 : decode cX11_findCounted 10 = .ok (.aload_n 0, 1) := by decide +kernel
theorem dX11_findCounted_11 : decode cX11_findCounted 11 = .ok (.getfield 69, 3) := by decide +kernel
theorem dX11_findCounted_14 : decode cX11_findCounted 14 = .ok (.iload_n 3, 1) := by decide +kernel
theorem dX11_findCounted_15 : decode cX11_findCounted 15 = .ok (.aload_n 0, 1) := by decide +kernel
theorem dX11_findCounted_16 : decode cX11_findCounted 16 = .ok (.iload_n 3, 1) := by decide +kernel
theorem dX11_findCounted_17 : decode cX11_findCounted 17 = .ok (.iload_n 1, 1) := by decide +kernel
theorem dX11_findCounted_18 : decode cX11_findCounted 18 = .ok (.iload_n 2, 1) := by decide +kernel
theorem dX11_findCounted_19 : decode cX11_findCounted 19 = .ok (.invokevirtual 198, 3) := by decide +kernel
theorem dX11_findCounted_22 : decode cX11_findCounted 22 = .ok (.bastore, 1) := by decide +kernel
theorem dX11_findCounted_23 : decode cX11_findCounted 23 = .ok (.iinc 3 1, 3) := by decide +kernel
theorem dX11_findCounted_26 : decode cX11_findCounted 26 = .ok (.goto (-24), 3) := by decide +kernel
theorem dX11_findCounted_29 : decode cX11_findCounted 29 = .ok (.return_, 1) := by decide +kernel
theorem dX11_product_0 : decode cX11_product 0 = .ok (.aload_n 0, 1) := by decide +kernel
theorem dX11_product_1 : decode cX11_product 1 = .ok (.lconst 1, 1) := by decide +kernel
theorem dX11_product_2 : decode cX11_product 2 = .ok (.lconst 1, 1) := by decide +kernel
theorem dX11_product_3 : decode cX11_product 3 = .ok (.invokevirtual 186, 3) := by decide +kernel
theorem dX11_product_6 : decode cX11_product 6 = .ok (.lconst 1, 1) := by decide +kernel
theorem dX11_product_7 : decode cX11_product 7 = .ok (.lstore 4, 2) := by decide +kernel
theorem dX11_product_9 : decode cX11_product 9 = .ok (.lconst 1, 1) := by decide +kernel
theorem dX11_product_10 : decode cX11_product 10 = .ok (.lstore 6, 2) := by decide +kernel
theorem dX11_product_12 : decode cX11_product 12 = .ok (.iconst 0, 1) := by decide +kernel
theorem dX11_product_13 : decode cX11_product 13 = .ok (.istore 8, 2) := by decide +kernel
theorem dX11_product_15 : decode cX11_product 15 = .ok (.iload 8, 2) := by decide +kernel
theorem dX11_product_17 : decode cX11_product 17 = .ok (.iload_n 2, 1) := by decide +kernel
theorem dX11_product_18 : decode cX11_product 18 = .ok (.if_icmp .ge 123, 3) := by decide +kernel
theorem dX11_product_21 : decode cX11_product 21 = .ok (.aload_n 0, 1) := by decide +kernel
theorem dX11_product_22 : decode cX11_product 22 = .ok (.getfield 103, 3) := by decide +kernel
theorem dX11_product_25 : decode cX11_product 25 = .ok (.ifCond .ne 116, 3) := by decide +kernel
theorem dX11_product_28 : decode cX11_product 28 = .ok (.aload_n 1, 1) := by decide +kernel
theorem dX11_product_29 : decode cX11_product 29 = .ok (.iload 8, 2) := by decide +kernel
theorem dX11_product_31 : decode cX11_product 31 = .ok (.iaload, 1) := by decide +kernel
theorem dX11_product_32 : decode cX11_product 32 = .ok (.bipush 100, 2) := by decide +kernel
theorem dX11_product_34 : decode cX11_product 34 = .ok (.if_icmp .lt 7, 3) := by decide +kernel
theorem dX11_product_37 : decode cX11_product 37 = .ok (.iconst 1, 1) := by decide +kernel
theorem dX11_product_38 : decode cX11_product 38 = .ok (.goto 4, 3) := by decide +kernel
theorem dX11_product_41 : decode cX11_product 41 = .ok (.iconst 0, 1) := by decide +kernel
theorem dX11_product_42 : decode cX11_product 42 = .ok (.istore 9, 2) := by decide +kernel
theorem dX11_product_44 : decode cX11_product 44 = .ok (.aload_n 0, 1) := by decide +kernel
theorem dX11_product_45 : decode cX11_product 45 = .ok (.aload_n 1, 1) := by decide +kernel
theorem dX11_product_46 : decode cX11_product 46 = .ok (.iload 8, 2) := by decide +kernel
theorem dX11_product_48 : decode cX11_product 48 = .ok (.iaload, 1) := by decide +kernel
theorem dX11_product_49 : decode cX11_product 49 = .ok (.bipush 100, 2) := by decide +kernel
theorem dX11_product_51 : decode cX11_product 51 = .ok (.irem, 1) := by decide +kernel
theorem dX11_product_52 : decode cX11_product 52 = .ok (.iload 9, 2) := by decide +kernel
theorem dX11_product_54 : decode cX11_product 54 = .ok (.ifCond .eq 9, 3) := by decide +kernel
theorem dX11_product_57 : decode cX11_product 57 = .ok (.iconst 1, 1) := by decide +kernel
theorem dX11_product_58 : decode cX11_product 58 = .ok (.iload_n 3, 1) := by decide +kernel
theorem dX11_product_59 : decode cX11_product 59 = .ok (.isub, 1) := by decide +kernel
theorem dX11_product_60 : decode cX11_product 60 = .ok (.goto 4, 3) := by decide +kernel
theorem dX11_product_63 : decode cX11_product 63 = .ok (.iload_n 3, 1) := by decide +kernel
theorem dX11_product_64 : decode cX11_product 64 = .ok (.invokevirtual 191, 3) := by decide +kernel
theorem dX11_product_67 : decode cX11_product 67 = .ok (.iload 9, 2) := by decide +kernel
theorem dX11_product_69 : decode cX11_product 69 = .ok (.ifCond .eq 10, 3) := by decide +kernel
theorem dX11_product_72 : decode cX11_product 72 = .ok (.aload_n 0, 1) := by decide +kernel
theorem dX11_product_73 : decode cX11_product 73 = .ok (.getfield 98, 3) := by decide +kernel
theorem dX11_product_76 : decode cX11_product 76 = .ok (.goto 7, 3) := by decide +kernel
theorem dX11_product_79 : decode cX11_product 79 = .ok (.aload_n 0, 1) := by decide +kernel
theorem dX11_product_80 : decode cX11_product 80 = .ok (.getfield 94, 3) := by decide +kernel
theorem dX11_product_83 : decode cX11_product 83 = .ok (.lstore 10, 2) := by decide +kernel
theorem dX11_product_85 : decode cX11_product 85 = .ok (.iload 9, 2) := by decide +kernel
theorem dX11_product_87 : decode cX11_product 87 = .ok (.ifCond .eq 10, 3) := by decide +kernel
theorem dX11_product_90 : decode cX11_product 90 = .ok (.aload_n 0, 1) := by decide +kernel
theorem dX11_product_91 : decode cX11_product 91 = .ok (.getfield 94, 3) := by decide +kernel
theorem dX11_product_94 : decode cX11_product 94 = .ok (.goto 7, 3) := by decide +kernel
theorem dX11_product_97 : decode cX11_product 97 = .ok (.aload_n 0, 1) := by decide +kernel
theorem dX11_product_98 : decode cX11_product 98 = .ok (.getfield 98, 3) := by decide +kernel
theorem dX11_product_101 : decode cX11_product 101 = .ok (.lstore 12, 2) := by decide +kernel
theorem dX11_product_103 : decode cX11_product 103 = .ok (.aload_n 0, 1) := by decide +kernel
theorem dX11_product_104 : decode cX11_product 104 = .ok (.lload 4, 2) := by decide +kernel
theorem dX11_product_106 : decode cX11_product 106 = .ok (.putfield 94, 3) := by decide +kernel
theorem dX11_product_109 : decode cX11_product 109 = .ok (.aload_n 0, 1) := by decide +kernel
theorem dX11_product_110 : decode cX11_product 110 = .ok (.lload 6, 2) := by decide +kernel
theorem dX11_product_112 : decode cX11_product 112 = .ok (.putfield 98, 3) := by decide +kernel
theorem dX11_product_115 : decode cX11_product 115 = .ok (.aload_n 0, 1) := by decide +kernel
theorem dX11_product_116 : decode cX11_product 116 = .ok (.lload 10, 2) := by decide +kernel
theorem dX11_product_118 : decode cX11_product 118 = .ok (.lload 12, 2) := by decide +kernel
theorem dX11_product_120 : decode cX11_product 120 = .ok (.invokevirtual 202, 3) := by decide +kernel
theorem dX11_product_123 : decode cX11_product 123 = .ok (.aload_n 0, 1) := by decide +kernel
theorem dX11_product_124 : decode cX11_product 124 = .ok (.getfield 94, 3) := by decide +kernel
theorem dX11_product_127 : decode cX11_product 127 = .ok (.lstore 4, 2) := by decide +kernel
theorem dX11_product_129 : decode cX11_product 129 = .ok (.aload_n 0, 1) := by decide +kernel
theorem dX11_product_130 : decode cX11_product 130 = .ok (.getfield 98, 3) := by decide +kernel
theorem dX11_product_133 : decode cX11_product 133 = .ok (.lstore 6, 2) := by decide +kernel
theorem dX11_product_135 : decode cX11_product 135 = .ok (.iinc 8 1, 3) := by decide +kernel
theorem dX11_product_138 : decode cX11_product 138 = .ok (.goto (-123), 3) := by decide +kernel
theorem dX11_product_141 : decode cX11_product 141 = .ok (.return_, 1) := by decide +kernel
theorem dX11_widen_0 : decode cX11_widen 0 = .ok (.aload_n 0, 1) := by decide +kernel
theorem dX11_widen_1 : decode cX11_widen 1 = .ok (.aload_n 0, 1) := by decide +kernel
theorem dX11_widen_2 : decode cX11_widen 2 = .ok (.getfield 75, 3) := by decide +kernel
theorem dX11_widen_5 : decode cX11_widen 5 = .ok (.aload_n 0, 1) := by decide +kernel
theorem dX11_widen_6 : decode cX11_widen 6 = .ok (.getfield 205, 3) := by decide +kernel
theorem dX11_widen_9 : decode cX11_widen 9 = .ok (.iconst 0, 1) := by decide +kernel
theorem dX11_widen_10 : decode cX11_widen 10 = .ok (.invokevirtual 208, 3) := by decide +kernel
theorem dX11_widen_13 : decode cX11_widen 13 = .ok (.aload_n 0, 1) := by decide +kernel
theorem dX11_widen_14 : decode cX11_widen 14 = .ok (.getfield 212, 3) := by decide +kernel
theorem dX11_widen_17 : decode cX11_widen 17 = .ok (.ifCond .eq 26, 3) := by decide +kernel
theorem dX11_widen_20 : decode cX11_widen 20 = .ok (.aload_n 0, 1) := by decide +kernel
theorem dX11_widen_21 : decode cX11_widen 21 = .ok (.aload_n 0, 1) := by decide +kernel
theorem dX11_widen_22 : decode cX11_widen 22 = .ok (.getfield 94, 3) := by decide +kernel
theorem dX11_widen_25 : decode cX11_widen 25 = .ok (.aload_n 0, 1) := by decide +kernel
theorem dX11_widen_26 : decode cX11_widen 26 = .ok (.getfield 98, 3) := by decide +kernel
theorem dX11_widen_29 : decode cX11_widen 29 = .ok (.aload_n 0, 1) := by decide +kernel
theorem dX11_widen_30 : decode cX11_widen 30 = .ok (.getfield 215, 3) := by decide +kernel
theorem dX11_widen_33 : decode cX11_widen 33 = .ok (.aload_n 0, 1) := by decide +kernel
theorem dX11_widen_34 : decode cX11_widen 34 = .ok (.getfield 218, 3) := by decide +kernel
theorem dX11_widen_37 : decode cX11_widen 37 = .ok (.invokevirtual 221, 3) := by decide +kernel
theorem dX11_widen_40 : decode cX11_widen 40 = .ok (.ifCond .eq 19, 3) := by decide +kernel
theorem dX11_widen_43 : decode cX11_widen 43 = .ok (.aload_n 0, 1) := by decide +kernel
theorem dX11_widen_44 : decode cX11_widen 44 = .ok (.aload_n 0, 1) := by decide +kernel
theorem dX11_widen_45 : decode cX11_widen 45 = .ok (.getfield 94, 3) := by decide +kernel
theorem dX11_widen_48 : decode cX11_widen 48 = .ok (.putfield 215, 3) := by decide +kernel
theorem dX11_widen_51 : decode cX11_widen 51 = .ok (.aload_n 0, 1) := by decide +kernel
theorem dX11_widen_52 : decode cX11_widen 52 = .ok (.aload_n 0, 1) := by decide +kernel
theorem dX11_widen_53 : decode cX11_widen 53 = .ok (.getfield 98, 3) := by decide +kernel
theorem dX11_widen_56 : decode cX11_widen 56 = .ok (.putfield 218, 3) := by decide +kernel
theorem dX11_widen_59 : decode cX11_widen 59 = .ok (.aload_n 0, 1) := by decide +kernel
theorem dX11_widen_60 : decode cX11_widen 60 = .ok (.aload_n 0, 1) := by decide +kernel
theorem dX11_widen_61 : decode cX11_widen 61 = .ok (.getfield 75, 3) := by decide +kernel
theorem dX11_widen_64 : decode cX11_widen 64 = .ok (.aload_n 0, 1) := by decide +kernel
theorem dX11_widen_65 : decode cX11_widen 65 = .ok (.getfield 205, 3) := by decide +kernel
theorem dX11_widen_68 : decode cX11_widen 68 = .ok (.iconst 1, 1) := by decide +kernel
theorem dX11_widen_69 : decode cX11_widen 69 = .ok (.invokevirtual 208, 3) := by decide +kernel
theorem dX11_widen_72 : decode cX11_widen 72 = .ok (.aload_n 0, 1) := by decide +kernel
theorem dX11_widen_73 : decode cX11_widen 73 = .ok (.getfield 212, 3) := by decide +kernel
theorem dX11_widen_76 : decode cX11_widen 76 = .ok (.ifCond .eq 26, 3) := by decide +kernel
theorem dX11_widen_79 : decode cX11_widen 79 = .ok (.aload_n 0, 1) := by decide +kernel
theorem dX11_widen_80 : decode cX11_widen 80 = .ok (.aload_n 0, 1) := by decide +kernel
theorem dX11_widen_81 : decode cX11_widen 81 = .ok (.getfield 225, 3) := by decide +kernel
theorem dX11_widen_84 : decode cX11_widen 84 = .ok (.aload_n 0, 1) := by decide +kernel
theorem dX11_widen_85 : decode cX11_widen 85 = .ok (.getfield 228, 3) := by decide +kernel
theorem dX11_widen_88 : decode cX11_widen 88 = .ok (.aload_n 0, 1) := by decide +kernel
theorem dX11_widen_89 : decode cX11_widen 89 = .ok (.getfield 94, 3) := by decide +kernel
theorem dX11_widen_92 : decode cX11_widen 92 = .ok (.aload_n 0, 1) := by decide +kernel
theorem dX11_widen_93 : decode cX11_widen 93 = .ok (.getfield 98, 3) := by decide +kernel
theorem dX11_widen_96 : decode cX11_widen 96 = .ok (.invokevirtual 221, 3) := by decide +kernel
theorem dX11_widen_99 : decode cX11_widen 99 = .ok (.ifCond .eq 19, 3) := by decide +kernel
theorem dX11_widen_102 : decode cX11_widen 102 = .ok (.aload_n 0, 1) := by decide +kernel
theorem dX11_widen_103 : decode cX11_widen 103 = .ok (.aload_n 0, 1) := by decide +kernel
theorem dX11_widen_104 : decode cX11_widen 104 = .ok (.getfield 94, 3) := by decide +kernel
theorem dX11_widen_107 : decode cX11_widen 107 = .ok (.putfield 225, 3) := by decide +kernel
theorem dX11_widen_110 : decode cX11_widen 110 = .ok (.aload_n 0, 1) := by decide +kernel
theorem dX11_widen_111 : decode cX11_widen 111 = .ok (.aload_n 0, 1) := by decide +kernel
theorem dX11_widen_112 : decode cX11_widen 112 = .ok (.getfield 98, 3) := by decide +kernel
theorem dX11_widen_115 : decode cX11_widen 115 = .ok (.putfield 228, 3) := by decide +kernel
theorem dX11_widen_118 : decode cX11_widen 118 = .ok (.aload_n 0, 1) := by decide +kernel
theorem dX11_widen_119 : decode cX11_widen 119 = .ok (.iconst 1, 1) := by decide +kernel
theorem dX11_widen_120 : decode cX11_widen 120 = .ok (.putfield 212, 3) := by decide +kernel
theorem dX11_widen_123 : decode cX11_widen 123 = .ok (.return_, 1) := by decide +kernel
theorem dX11_isMet_0 : decode cX11_isMet 0 = .ok (.iconst 0, 1) := by decide +kernel
theorem dX11_isMet_1 : decode cX11_isMet 1 = .ok (.istore_n 3, 1) := by decide +kernel
theorem dX11_isMet_2 : decode cX11_isMet 2 = .ok (.iload_n 3, 1) := by decide +kernel
theorem dX11_isMet_3 : decode cX11_isMet 3 = .ok (.iload_n 1, 1) := by decide +kernel
theorem dX11_isMet_4 : decode cX11_isMet 4 = .ok (.if_icmp .gt 21, 3) := by decide +kernel
theorem dX11_isMet_7 : decode cX11_isMet 7 = .ok (.aload_n 0, 1) := by decide +kernel
theorem dX11_isMet_8 : decode cX11_isMet 8 = .ok (.getfield 72, 3) := by decide +kernel
theorem dX11_isMet_11 : decode cX11_isMet 11 = .ok (.iload_n 3, 1) := by decide +kernel
theorem dX11_isMet_12 : decode cX11_isMet 12 = .ok (.iaload, 1) := by decide +kernel
theorem dX11_isMet_13 : decode cX11_isMet 13 = .ok (.iload_n 2, 1) := by decide +kernel
theorem dX11_isMet_14 : decode cX11_isMet 14 = .ok (.if_icmp .ne 5, 3) := by decide +kernel
theorem dX11_isMet_17 : decode cX11_isMet 17 = .ok (.iconst 1, 1) := by decide +kernel
theorem dX11_isMet_18 : decode cX11_isMet 18 = .ok (.ireturn, 1) := by decide +kernel
theorem dX11_isMet_19 : decode cX11_isMet 19 = .ok (.iinc 3 1, 3) := by decide +kernel
theorem dX11_isMet_22 : decode cX11_isMet 22 = .ok (.goto (-20), 3) := by decide +kernel
theorem dX11_isMet_25 : decode cX11_isMet 25 = .ok (.iconst 0, 1) := by decide +kernel
theorem dX11_isMet_26 : decode cX11_isMet 26 = .ok (.ireturn, 1) := by decide +kernel
theorem dX11_go_0 : decode cX11_go 0 = .ok (.iload_n 1, 1) := by decide +kernel
theorem dX11_go_1 : decode cX11_go 1 = .ok (.aload_n 0, 1) := by decide +kernel
theorem dX11_go_2 : decode cX11_go 2 = .ok (.getfield 205, 3) := by decide +kernel
theorem dX11_go_5 : decode cX11_go 5 = .ok (.if_icmp .ne 81, 3) := by decide +kernel
theorem dX11_go_8 : decode cX11_go 8 = .ok (.aload_n 0, 1) := by decide +kernel
theorem dX11_go_9 : decode cX11_go 9 = .ok (.getfield 72, 3) := by decide +kernel
theorem dX11_go_12 : decode cX11_go 12 = .ok (.iload_n 1, 1) := by decide +kernel
theorem dX11_go_13 : decode cX11_go 13 = .ok (.iaload, 1) := by decide +kernel
theorem dX11_go_14 : decode cX11_go 14 = .ok (.iload_n 2, 1) := by decide +kernel
theorem dX11_go_15 : decode cX11_go 15 = .ok (.if_icmp .ne 70, 3) := by decide +kernel
theorem dX11_go_18 : decode cX11_go 18 = .ok (.aload_n 0, 1) := by decide +kernel
theorem dX11_go_19 : decode cX11_go 19 = .ok (.getfield 231, 3) := by decide +kernel
theorem dX11_go_22 : decode cX11_go 22 = .ok (.aload_n 0, 1) := by decide +kernel
theorem dX11_go_23 : decode cX11_go 23 = .ok (.getfield 234, 3) := by decide +kernel
theorem dX11_go_26 : decode cX11_go 26 = .ok (.if_icmp .ne 38, 3) := by decide +kernel
theorem dX11_go_29 : decode cX11_go 29 = .ok (.aload_n 0, 1) := by decide +kernel
theorem dX11_go_30 : decode cX11_go 30 = .ok (.iconst 1, 1) := by decide +kernel
theorem dX11_go_31 : decode cX11_go 31 = .ok (.putfield 237, 3) := by decide +kernel
theorem dX11_go_34 : decode cX11_go 34 = .ok (.aload_n 0, 1) := by decide +kernel
theorem dX11_go_35 : decode cX11_go 35 = .ok (.iload_n 1, 1) := by decide +kernel
theorem dX11_go_36 : decode cX11_go 36 = .ok (.putfield 240, 3) := by decide +kernel
theorem dX11_go_39 : decode cX11_go 39 = .ok (.iconst 0, 1) := by decide +kernel
theorem dX11_go_40 : decode cX11_go 40 = .ok (.istore_n 3, 1) := by decide +kernel
theorem dX11_go_41 : decode cX11_go 41 = .ok (.iload_n 3, 1) := by decide +kernel
theorem dX11_go_42 : decode cX11_go 42 = .ok (.iload_n 1, 1) := by decide +kernel
theorem dX11_go_43 : decode cX11_go 43 = .ok (.if_icmp .ge 21, 3) := by decide +kernel
theorem dX11_go_46 : decode cX11_go 46 = .ok (.aload_n 0, 1) := by decide +kernel
theorem dX11_go_47 : decode cX11_go 47 = .ok (.getfield 78, 3) := by decide +kernel
theorem dX11_go_50 : decode cX11_go 50 = .ok (.iload_n 3, 1) := by decide +kernel
theorem dX11_go_51 : decode cX11_go 51 = .ok (.aload_n 0, 1) := by decide +kernel
theorem dX11_go_52 : decode cX11_go 52 = .ok (.getfield 75, 3) := by decide +kernel
theorem dX11_go_55 : decode cX11_go 55 = .ok (.iload_n 3, 1) := by decide +kernel
theorem dX11_go_56 : decode cX11_go 56 = .ok (.iaload, 1) := by decide +kernel
theorem dX11_go_57 : decode cX11_go 57 = .ok (.iastore, 1) := by decide +kernel
theorem dX11_go_58 : decode cX11_go 58 = .ok (.iinc 3 1, 3) := by decide +kernel
theorem dX11_go_61 : decode cX11_go 61 = .ok (.goto (-20), 3) := by decide +kernel
theorem dX11_go_64 : decode cX11_go 64 = .ok (.aload_n 0, 1) := by decide +kernel
theorem dX11_go_65 : decode cX11_go 65 = .ok (.getfield 243, 3) := by decide +kernel
theorem dX11_go_68 : decode cX11_go 68 = .ok (.ifCond .eq 7, 3) := by decide +kernel
theorem dX11_go_71 : decode cX11_go 71 = .ok (.aload_n 0, 1) := by decide +kernel
theorem dX11_go_72 : decode cX11_go 72 = .ok (.invokevirtual 246, 3) := by decide +kernel
theorem dX11_go_75 : decode cX11_go 75 = .ok (.aload_n 0, 1) := by decide +kernel
theorem dX11_go_76 : decode cX11_go 76 = .ok (.dup, 1) := by decide +kernel
theorem dX11_go_77 : decode cX11_go 77 = .ok (.getfield 231, 3) := by decide +kernel
theorem dX11_go_80 : decode cX11_go 80 = .ok (.iconst 1, 1) := by decide +kernel
theorem dX11_go_81 : decode cX11_go 81 = .ok (.iadd, 1) := by decide +kernel
theorem dX11_go_82 : decode cX11_go 82 = .ok (.putfield 231, 3) := by decide +kernel
theorem dX11_go_85 : decode cX11_go 85 = .ok (.return_, 1) := by decide +kernel
theorem dX11_go_86 : decode cX11_go 86 = .ok (.iload_n 1, 1) := by decide +kernel
theorem dX11_go_87 : decode cX11_go 87 = .ok (.ifCond .le 14, 3) := by decide +kernel
theorem dX11_go_90 : decode cX11_go 90 = .ok (.aload_n 0, 1) := by decide +kernel
theorem dX11_go_91 : decode cX11_go 91 = .ok (.getfield 72, 3) := by decide +kernel
theorem dX11_go_94 : decode cX11_go 94 = .ok (.iload_n 1, 1) := by decide +kernel
theorem dX11_go_95 : decode cX11_go 95 = .ok (.iaload, 1) := by decide +kernel
theorem dX11_go_96 : decode cX11_go 96 = .ok (.iload_n 2, 1) := by decide +kernel
theorem dX11_go_97 : decode cX11_go 97 = .ok (.if_icmp .ne 4, 3) := by decide +kernel
theorem dX11_go_100 : decode cX11_go 100 = .ok (.return_, 1) := by decide +kernel
theorem dX11_go_101 : decode cX11_go 101 = .ok (.iconst 0, 1) := by decide +kernel
theorem dX11_go_102 : decode cX11_go 102 = .ok (.istore_n 3, 1) := by decide +kernel
theorem dX11_go_103 : decode cX11_go 103 = .ok (.iload_n 3, 1) := by decide +kernel
theorem dX11_go_104 : decode cX11_go 104 = .ok (.aload_n 0, 1) := by decide +kernel
theorem dX11_go_105 : decode cX11_go 105 = .ok (.getfield 159, 3) := by decide +kernel
theorem dX11_go_108 : decode cX11_go 108 = .ok (.if_icmp .ge 154, 3) := by decide +kernel
theorem dX11_go_111 : decode cX11_go 111 = .ok (.aload_n 0, 1) := by decide +kernel
theorem dX11_go_112 : decode cX11_go 112 = .ok (.getfield 69, 3) := by decide +kernel
theorem dX11_go_115 : decode cX11_go 115 = .ok (.iload_n 3, 1) := by decide +kernel
theorem dX11_go_116 : decode cX11_go 116 = .ok (.baload, 1) := by decide +kernel
theorem dX11_go_117 : decode cX11_go 117 = .ok (.ifCond .eq 139, 3) := by decide +kernel
theorem dX11_go_120 : decode cX11_go 120 = .ok (.aload_n 0, 1) := by decide +kernel
theorem dX11_go_121 : decode cX11_go 121 = .ok (.getfield 16, 3) := by decide +kernel
theorem dX11_go_124 : decode cX11_go 124 = .ok (.iload_n 3, 1) := by decide +kernel
theorem dX11_go_125 : decode cX11_go 125 = .ok (.iaload, 1) := by decide +kernel
theorem dX11_go_126 : decode cX11_go 126 = .ok (.aload_n 0, 1) := by decide +kernel
theorem dX11_go_127 : decode cX11_go 127 = .ok (.getfield 19, 3) := by decide +kernel
theorem dX11_go_130 : decode cX11_go 130 = .ok (.iload_n 3, 1) := by decide +kernel
theorem dX11_go_131 : decode cX11_go 131 = .ok (.iaload, 1) := by decide +kernel
theorem dX11_go_132 : decode cX11_go 132 = .ok (.if_icmp .eq 124, 3) := by decide +kernel
theorem dX11_go_135 : decode cX11_go 135 = .ok (.aload_n 0, 1) := by decide +kernel
theorem dX11_go_136 : decode cX11_go 136 = .ok (.getfield 16, 3) := by decide +kernel
theorem dX11_go_139 : decode cX11_go 139 = .ok (.iload_n 3, 1) := by decide +kernel
theorem dX11_go_140 : decode cX11_go 140 = .ok (.iaload, 1) := by decide +kernel
theorem dX11_go_141 : decode cX11_go 141 = .ok (.aload_n 0, 1) := by decide +kernel
theorem dX11_go_142 : decode cX11_go 142 = .ok (.getfield 72, 3) := by decide +kernel
theorem dX11_go_145 : decode cX11_go 145 = .ok (.iload_n 1, 1) := by decide +kernel
theorem dX11_go_146 : decode cX11_go 146 = .ok (.iaload, 1) := by decide +kernel
theorem dX11_go_147 : decode cX11_go 147 = .ok (.if_icmp .eq 18, 3) := by decide +kernel
theorem dX11_go_150 : decode cX11_go 150 = .ok (.aload_n 0, 1) := by decide +kernel
theorem dX11_go_151 : decode cX11_go 151 = .ok (.getfield 19, 3) := by decide +kernel
theorem dX11_go_154 : decode cX11_go 154 = .ok (.iload_n 3, 1) := by decide +kernel
theorem dX11_go_155 : decode cX11_go 155 = .ok (.iaload, 1) := by decide +kernel
theorem dX11_go_156 : decode cX11_go 156 = .ok (.aload_n 0, 1) := by decide +kernel
theorem dX11_go_157 : decode cX11_go 157 = .ok (.getfield 72, 3) := by decide +kernel
theorem dX11_go_160 : decode cX11_go 160 = .ok (.iload_n 1, 1) := by decide +kernel
theorem dX11_go_161 : decode cX11_go 161 = .ok (.iaload, 1) := by decide +kernel
theorem dX11_go_162 : decode cX11_go 162 = .ok (.if_icmp .ne 94, 3) := by decide +kernel
theorem dX11_go_165 : decode cX11_go 165 = .ok (.aload_n 0, 1) := by decide +kernel
theorem dX11_go_166 : decode cX11_go 166 = .ok (.getfield 19, 3) := by decide +kernel
theorem dX11_go_169 : decode cX11_go 169 = .ok (.iload_n 3, 1) := by decide +kernel
theorem dX11_go_170 : decode cX11_go 170 = .ok (.iaload, 1) := by decide +kernel
theorem dX11_go_171 : decode cX11_go 171 = .ok (.aload_n 0, 1) := by decide +kernel
theorem dX11_go_172 : decode cX11_go 172 = .ok (.getfield 72, 3) := by decide +kernel
theorem dX11_go_175 : decode cX11_go 175 = .ok (.iload_n 1, 1) := by decide +kernel
theorem dX11_go_176 : decode cX11_go 176 = .ok (.iaload, 1) := by decide +kernel
theorem dX11_go_177 : decode cX11_go 177 = .ok (.if_icmp .ne 7, 3) := by decide +kernel
theorem dX11_go_180 : decode cX11_go 180 = .ok (.iconst 1, 1) := by decide +kernel
theorem dX11_go_181 : decode cX11_go 181 = .ok (.goto 4, 3) := by decide +kernel
theorem dX11_go_184 : decode cX11_go 184 = .ok (.iconst 0, 1) := by decide +kernel
theorem dX11_go_185 : decode cX11_go 185 = .ok (.istore 4, 2) := by decide +kernel
theorem dX11_go_187 : decode cX11_go 187 = .ok (.iload 4, 2) := by decide +kernel
theorem dX11_go_189 : decode cX11_go 189 = .ok (.ifCond .eq 12, 3) := by decide +kernel
theorem dX11_go_192 : decode cX11_go 192 = .ok (.aload_n 0, 1) := by decide +kernel
theorem dX11_go_193 : decode cX11_go 193 = .ok (.getfield 16, 3) := by decide +kernel
theorem dX11_go_196 : decode cX11_go 196 = .ok (.iload_n 3, 1) := by decide +kernel
theorem dX11_go_197 : decode cX11_go 197 = .ok (.iaload, 1) := by decide +kernel
theorem dX11_go_198 : decode cX11_go 198 = .ok (.goto 9, 3) := by decide +kernel
theorem dX11_go_201 : decode cX11_go 201 = .ok (.aload_n 0, 1) := by decide +kernel
theorem dX11_go_202 : decode cX11_go 202 = .ok (.getfield 19, 3) := by decide +kernel
theorem dX11_go_205 : decode cX11_go 205 = .ok (.iload_n 3, 1) := by decide +kernel
theorem dX11_go_206 : decode cX11_go 206 = .ok (.iaload, 1) := by decide +kernel
theorem dX11_go_207 : decode cX11_go 207 = .ok (.istore 5, 2) := by decide +kernel
theorem dX11_go_209 : decode cX11_go 209 = .ok (.aload_n 0, 1) := by decide +kernel
theorem dX11_go_210 : decode cX11_go 210 = .ok (.iload_n 1, 1) := by decide +kernel
theorem dX11_go_211 : decode cX11_go 211 = .ok (.iload 5, 2) := by decide +kernel
theorem dX11_go_213 : decode cX11_go 213 = .ok (.invokevirtual 249, 3) := by decide +kernel
theorem dX11_go_216 : decode cX11_go 216 = .ok (.ifCond .ne 40, 3) := by decide +kernel
theorem dX11_go_219 : decode cX11_go 219 = .ok (.aload_n 0, 1) := by decide +kernel
theorem dX11_go_220 : decode cX11_go 220 = .ok (.getfield 75, 3) := by decide +kernel
theorem dX11_go_223 : decode cX11_go 223 = .ok (.iload_n 1, 1) := by decide +kernel
theorem dX11_go_224 : decode cX11_go 224 = .ok (.iload 4, 2) := by decide +kernel
theorem dX11_go_226 : decode cX11_go 226 = .ok (.ifCond .eq 10, 3) := by decide +kernel
theorem dX11_go_229 : decode cX11_go 229 = .ok (.bipush 100, 2) := by decide +kernel
theorem dX11_go_231 : decode cX11_go 231 = .ok (.iload_n 3, 1) := by decide +kernel
theorem dX11_go_232 : decode cX11_go 232 = .ok (.iadd, 1) := by decide +kernel
theorem dX11_go_233 : decode cX11_go 233 = .ok (.goto 4, 3) := by decide +kernel
theorem dX11_go_236 : decode cX11_go 236 = .ok (.iload_n 3, 1) := by decide +kernel
theorem dX11_go_237 : decode cX11_go 237 = .ok (.iastore, 1) := by decide +kernel
theorem dX11_go_238 : decode cX11_go 238 = .ok (.aload_n 0, 1) := by decide +kernel
theorem dX11_go_239 : decode cX11_go 239 = .ok (.getfield 72, 3) := by decide +kernel
theorem dX11_go_242 : decode cX11_go 242 = .ok (.iload_n 1, 1) := by decide +kernel
theorem dX11_go_243 : decode cX11_go 243 = .ok (.iconst 1, 1) := by decide +kernel
theorem dX11_go_244 : decode cX11_go 244 = .ok (.iadd, 1) := by decide +kernel
theorem dX11_go_245 : decode cX11_go 245 = .ok (.iload 5, 2) := by decide +kernel
theorem dX11_go_247 : decode cX11_go 247 = .ok (.iastore, 1) := by decide +kernel
theorem dX11_go_248 : decode cX11_go 248 = .ok (.aload_n 0, 1) := by decide +kernel
theorem dX11_go_249 : decode cX11_go 249 = .ok (.iload_n 1, 1) := by decide +kernel
theorem dX11_go_250 : decode cX11_go 250 = .ok (.iconst 1, 1) := by decide +kernel
theorem dX11_go_251 : decode cX11_go 251 = .ok (.iadd, 1) := by decide +kernel
theorem dX11_go_252 : decode cX11_go 252 = .ok (.iload_n 2, 1) := by decide +kernel
theorem dX11_go_253 : decode cX11_go 253 = .ok (.invokevirtual 252, 3) := by decide +kernel
theorem dX11_go_256 : decode cX11_go 256 = .ok (.iinc 3 1, 3) := by decide +kernel
theorem dX11_go_259 : decode cX11_go 259 = .ok (.goto (-156), 3) := by decide +kernel
theorem dX11_go_262 : decode cX11_go 262 = .ok (.return_, 1) := by decide +kernel
theorem dX11_seek_0 : decode cX11_seek 0 = .ok (.aload_n 0, 1) := by decide +kernel
theorem dX11_seek_1 : decode cX11_seek 1 = .ok (.iconst 0, 1) := by decide +kernel
theorem dX11_seek_2 : decode cX11_seek 2 = .ok (.putfield 231, 3) := by decide +kernel
theorem dX11_seek_5 : decode cX11_seek 5 = .ok (.aload_n 0, 1) := by decide +kernel
theorem dX11_seek_6 : decode cX11_seek 6 = .ok (.iload_n 3, 1) := by decide +kernel
theorem dX11_seek_7 : decode cX11_seek 7 = .ok (.putfield 234, 3) := by decide +kernel
theorem dX11_seek_10 : decode cX11_seek 10 = .ok (.aload_n 0, 1) := by decide +kernel
theorem dX11_seek_11 : decode cX11_seek 11 = .ok (.iconst 0, 1) := by decide +kernel
theorem dX11_seek_12 : decode cX11_seek 12 = .ok (.putfield 237, 3) := by decide +kernel
theorem dX11_seek_15 : decode cX11_seek 15 = .ok (.aload_n 0, 1) := by decide +kernel
theorem dX11_seek_16 : decode cX11_seek 16 = .ok (.iload 4, 2) := by decide +kernel
theorem dX11_seek_18 : decode cX11_seek 18 = .ok (.putfield 243, 3) := by decide +kernel
theorem dX11_seek_21 : decode cX11_seek 21 = .ok (.aload_n 0, 1) := by decide +kernel
theorem dX11_seek_22 : decode cX11_seek 22 = .ok (.iconst 0, 1) := by decide +kernel
theorem dX11_seek_23 : decode cX11_seek 23 = .ok (.putfield 212, 3) := by decide +kernel
theorem dX11_seek_26 : decode cX11_seek 26 = .ok (.aload_n 0, 1) := by decide +kernel
theorem dX11_seek_27 : decode cX11_seek 27 = .ok (.iconst 0, 1) := by decide +kernel
theorem dX11_seek_28 : decode cX11_seek 28 = .ok (.putfield 103, 3) := by decide +kernel
theorem dX11_seek_31 : decode cX11_seek 31 = .ok (.aload_n 0, 1) := by decide +kernel
theorem dX11_seek_32 : decode cX11_seek 32 = .ok (.getfield 72, 3) := by decide +kernel
theorem dX11_seek_35 : decode cX11_seek 35 = .ok (.iconst 0, 1) := by decide +kernel
theorem dX11_seek_36 : decode cX11_seek 36 = .ok (.iload_n 1, 1) := by decide +kernel
theorem dX11_seek_37 : decode cX11_seek 37 = .ok (.iastore, 1) := by decide +kernel
theorem dX11_seek_38 : decode cX11_seek 38 = .ok (.aload_n 0, 1) := by decide +kernel
theorem dX11_seek_39 : decode cX11_seek 39 = .ok (.iconst 0, 1) := by decide +kernel
theorem dX11_seek_40 : decode cX11_seek 40 = .ok (.putfield 205, 3) := by decide +kernel
theorem dX11_seek_43 : decode cX11_seek 43 = .ok (.aload_n 0, 1) := by decide +kernel
theorem dX11_seek_44 : decode cX11_seek 44 = .ok (.getfield 205, 3) := by decide +kernel
theorem dX11_seek_47 : decode cX11_seek 47 = .ok (.bipush 10, 2) := by decide +kernel
theorem dX11_seek_49 : decode cX11_seek 49 = .ok (.if_icmp .ge 50, 3) := by decide +kernel
theorem dX11_seek_52 : decode cX11_seek 52 = .ok (.aload_n 0, 1) := by decide +kernel
theorem dX11_seek_53 : decode cX11_seek 53 = .ok (.getfield 237, 3) := by decide +kernel
theorem dX11_seek_56 : decode cX11_seek 56 = .ok (.ifCond .eq 12, 3) := by decide +kernel
theorem dX11_seek_59 : decode cX11_seek 59 = .ok (.iload 4, 2) := by decide +kernel
theorem dX11_seek_61 : decode cX11_seek 61 = .ok (.ifCond .ne 7, 3) := by decide +kernel
theorem dX11_seek_64 : decode cX11_seek 64 = .ok (.iload_n 3, 1) := by decide +kernel
theorem dX11_seek_65 : decode cX11_seek 65 = .ok (.ifCond .ge 34, 3) := by decide +kernel
theorem dX11_seek_68 : decode cX11_seek 68 = .ok (.iload_n 1, 1) := by decide +kernel
theorem dX11_seek_69 : decode cX11_seek 69 = .ok (.iload_n 2, 1) := by decide +kernel
theorem dX11_seek_70 : decode cX11_seek 70 = .ok (.if_icmp .ne 10, 3) := by decide +kernel
theorem dX11_seek_73 : decode cX11_seek 73 = .ok (.aload_n 0, 1) := by decide +kernel
theorem dX11_seek_74 : decode cX11_seek 74 = .ok (.getfield 205, 3) := by decide +kernel
theorem dX11_seek_77 : decode cX11_seek 77 = .ok (.ifCond .ne 9, 3) := by decide +kernel
theorem dX11_seek_80 : decode cX11_seek 80 = .ok (.aload_n 0, 1) := by decide +kernel
theorem dX11_seek_81 : decode cX11_seek 81 = .ok (.iconst 0, 1) := by decide +kernel
theorem dX11_seek_82 : decode cX11_seek 82 = .ok (.iload_n 2, 1) := by decide +kernel
theorem dX11_seek_83 : decode cX11_seek 83 = .ok (.invokevirtual 252, 3) := by decide +kernel
theorem dX11_seek_86 : decode cX11_seek 86 = .ok (.aload_n 0, 1) := by decide +kernel
theorem dX11_seek_87 : decode cX11_seek 87 = .ok (.dup, 1) := by decide +kernel
theorem dX11_seek_88 : decode cX11_seek 88 = .ok (.getfield 205, 3) := by decide +kernel
theorem dX11_seek_91 : decode cX11_seek 91 = .ok (.iconst 1, 1) := by decide +kernel
theorem dX11_seek_92 : decode cX11_seek 92 = .ok (.iadd, 1) := by decide +kernel
theorem dX11_seek_93 : decode cX11_seek 93 = .ok (.putfield 205, 3) := by decide +kernel
theorem dX11_seek_96 : decode cX11_seek 96 = .ok (.goto (-53), 3) := by decide +kernel
theorem dX11_seek_99 : decode cX11_seek 99 = .ok (.return_, 1) := by decide +kernel
theorem dX11_isPair_0 : decode cX11_isPair 0 = .ok (.iload_n 0, 1) := by decide +kernel
theorem dX11_isPair_1 : decode cX11_isPair 1 = .ok (.i2l, 1) := by decide +kernel
theorem dX11_isPair_2 : decode cX11_isPair 2 = .ok (.lconst 0, 1) := by decide +kernel
theorem dX11_isPair_3 : decode cX11_isPair 3 = .ok (.ldc2_w 165, 3) := by decide +kernel
theorem dX11_isPair_6 : decode cX11_isPair 6 = .ok (.invokestatic 145, 3) := by decide +kernel
theorem dX11_isPair_9 : decode cX11_isPair 9 = .ok (.ireturn, 1) := by decide +kernel
theorem dX11_isTime_0 : decode cX11_isTime 0 = .ok (.iload_n 0, 1) := by decide +kernel
theorem dX11_isTime_1 : decode cX11_isTime 1 = .ok (.i2l, 1) := by decide +kernel
theorem dX11_isTime_2 : decode cX11_isTime 2 = .ok (.lconst 0, 1) := by decide +kernel
theorem dX11_isTime_3 : decode cX11_isTime 3 = .ok (.ldc2_w 255, 3) := by decide +kernel
theorem dX11_isTime_6 : decode cX11_isTime 6 = .ok (.invokestatic 145, 3) := by decide +kernel
theorem dX11_isTime_9 : decode cX11_isTime 9 = .ok (.ireturn, 1) := by decide +kernel
theorem dX11_ways_0 : decode cX11_ways 0 = .ok (.iload_n 1, 1) := by decide +kernel
theorem dX11_ways_1 : decode cX11_ways 1 = .ok (.invokestatic 257, 3) := by decide +kernel
theorem dX11_ways_4 : decode cX11_ways 4 = .ok (.ifCond .eq 10, 3) := by decide +kernel
theorem dX11_ways_7 : decode cX11_ways 7 = .ok (.iload_n 2, 1) := by decide +kernel
theorem dX11_ways_8 : decode cX11_ways 8 = .ok (.invokestatic 260, 3) := by decide +kernel
theorem dX11_ways_11 : decode cX11_ways 11 = .ok (.ifCond .ne 7, 3) := by decide +kernel
theorem dX11_ways_14 : decode cX11_ways 14 = .ok (.ldc2_w 149, 3) := by decide +kernel
theorem dX11_ways_17 : decode cX11_ways 17 = .ok (.lreturn, 1) := by decide +kernel
theorem dX11_ways_18 : decode cX11_ways 18 = .ok (.aload_n 0, 1) := by decide +kernel
theorem dX11_ways_19 : decode cX11_ways 19 = .ok (.iload_n 2, 1) := by decide +kernel
theorem dX11_ways_20 : decode cX11_ways 20 = .ok (.sipush 10000, 3) := by decide +kernel
theorem dX11_ways_23 : decode cX11_ways 23 = .ok (.idiv, 1) := by decide +kernel
theorem dX11_ways_24 : decode cX11_ways 24 = .ok (.iload_n 2, 1) := by decide +kernel
theorem dX11_ways_25 : decode cX11_ways 25 = .ok (.sipush 10000, 3) := by decide +kernel
theorem dX11_ways_28 : decode cX11_ways 28 = .ok (.irem, 1) := by decide +kernel
theorem dX11_ways_29 : decode cX11_ways 29 = .ok (.invokevirtual 263, 3) := by decide +kernel
theorem dX11_ways_32 : decode cX11_ways 32 = .ok (.aload_n 0, 1) := by decide +kernel
theorem dX11_ways_33 : decode cX11_ways 33 = .ok (.iload_n 1, 1) := by decide +kernel
theorem dX11_ways_34 : decode cX11_ways 34 = .ok (.bipush 10, 2) := by decide +kernel
theorem dX11_ways_36 : decode cX11_ways 36 = .ok (.idiv, 1) := by decide +kernel
theorem dX11_ways_37 : decode cX11_ways 37 = .ok (.iload_n 1, 1) := by decide +kernel
theorem dX11_ways_38 : decode cX11_ways 38 = .ok (.bipush 10, 2) := by decide +kernel
theorem dX11_ways_40 : decode cX11_ways 40 = .ok (.irem, 1) := by decide +kernel
theorem dX11_ways_41 : decode cX11_ways 41 = .ok (.iconst (-1), 1) := by decide +kernel
theorem dX11_ways_42 : decode cX11_ways 42 = .ok (.iconst 0, 1) := by decide +kernel
theorem dX11_ways_43 : decode cX11_ways 43 = .ok (.invokevirtual 266, 3) := by decide +kernel
theorem dX11_ways_46 : decode cX11_ways 46 = .ok (.aload_n 0, 1) := by decide +kernel
theorem dX11_ways_47 : decode cX11_ways 47 = .ok (.getfield 231, 3) := by decide +kernel
theorem dX11_ways_50 : decode cX11_ways 50 = .ok (.i2l, 1) := by decide +kernel
theorem dX11_ways_51 : decode cX11_ways 51 = .ok (.lreturn, 1) := by decide +kernel
theorem dX11_way_0 : decode cX11_way 0 = .ok (.iload_n 1, 1) := by decide +kernel
theorem dX11_way_1 : decode cX11_way 1 = .ok (.invokestatic 257, 3) := by decide +kernel
theorem dX11_way_4 : decode cX11_way 4 = .ok (.ifCond .eq 19, 3) := by decide +kernel
theorem dX11_way_7 : decode cX11_way 7 = .ok (.iload_n 2, 1) := by decide +kernel
theorem dX11_way_8 : decode cX11_way 8 = .ok (.invokestatic 260, 3) := by decide +kernel
theorem dX11_way_11 : decode cX11_way 11 = .ok (.ifCond .eq 12, 3) := by decide +kernel
theorem dX11_way_14 : decode cX11_way 14 = .ok (.iload_n 3, 1) := by decide +kernel
theorem dX11_way_15 : decode cX11_way 15 = .ok (.ifCond .lt 8, 3) := by decide +kernel
theorem dX11_way_18 : decode cX11_way 18 = .ok (.iload 4, 2) := by decide +kernel
theorem dX11_way_20 : decode cX11_way 20 = .ok (.ifCond .ge 7, 3) := by decide +kernel
theorem dX11_way_23 : decode cX11_way 23 = .ok (.ldc2_w 149, 3) := by decide +kernel
theorem dX11_way_26 : decode cX11_way 26 = .ok (.lreturn, 1) := by decide +kernel
theorem dX11_way_27 : decode cX11_way 27 = .ok (.aload_n 0, 1) := by decide +kernel
theorem dX11_way_28 : decode cX11_way 28 = .ok (.iload_n 2, 1) := by decide +kernel
theorem dX11_way_29 : decode cX11_way 29 = .ok (.sipush 10000, 3) := by decide +kernel
theorem dX11_way_32 : decode cX11_way 32 = .ok (.idiv, 1) := by decide +kernel
theorem dX11_way_33 : decode cX11_way 33 = .ok (.iload_n 2, 1) := by decide +kernel
theorem dX11_way_34 : decode cX11_way 34 = .ok (.sipush 10000, 3) := by decide +kernel
theorem dX11_way_37 : decode cX11_way 37 = .ok (.irem, 1) := by decide +kernel
theorem dX11_way_38 : decode cX11_way 38 = .ok (.invokevirtual 263, 3) := by decide +kernel
theorem dX11_way_41 : decode cX11_way 41 = .ok (.aload_n 0, 1) := by decide +kernel
theorem dX11_way_42 : decode cX11_way 42 = .ok (.iload_n 1, 1) := by decide +kernel
theorem dX11_way_43 : decode cX11_way 43 = .ok (.bipush 10, 2) := by decide +kernel
theorem dX11_way_45 : decode cX11_way 45 = .ok (.idiv, 1) := by decide +kernel
theorem dX11_way_46 : decode cX11_way 46 = .ok (.iload_n 1, 1) := by decide +kernel
theorem dX11_way_47 : decode cX11_way 47 = .ok (.bipush 10, 2) := by decide +kernel
theorem dX11_way_49 : decode cX11_way 49 = .ok (.irem, 1) := by decide +kernel
theorem dX11_way_50 : decode cX11_way 50 = .ok (.iload_n 3, 1) := by decide +kernel
theorem dX11_way_51 : decode cX11_way 51 = .ok (.iconst 0, 1) := by decide +kernel
theorem dX11_way_52 : decode cX11_way 52 = .ok (.invokevirtual 266, 3) := by decide +kernel
theorem dX11_way_55 : decode cX11_way 55 = .ok (.aload_n 0, 1) := by decide +kernel
theorem dX11_way_56 : decode cX11_way 56 = .ok (.getfield 237, 3) := by decide +kernel
theorem dX11_way_59 : decode cX11_way 59 = .ok (.ifCond .eq 23, 3) := by decide +kernel
theorem dX11_way_62 : decode cX11_way 62 = .ok (.iload 4, 2) := by decide +kernel
theorem dX11_way_64 : decode cX11_way 64 = .ok (.aload_n 0, 1) := by decide +kernel
theorem dX11_way_65 : decode cX11_way 65 = .ok (.getfield 240, 3) := by decide +kernel
theorem dX11_way_68 : decode cX11_way 68 = .ok (.if_icmp .ge 14, 3) := by decide +kernel
theorem dX11_way_71 : decode cX11_way 71 = .ok (.aload_n 0, 1) := by decide +kernel
theorem dX11_way_72 : decode cX11_way 72 = .ok (.getfield 78, 3) := by decide +kernel
theorem dX11_way_75 : decode cX11_way 75 = .ok (.iload 4, 2) := by decide +kernel
theorem dX11_way_77 : decode cX11_way 77 = .ok (.iaload, 1) := by decide +kernel
theorem dX11_way_78 : decode cX11_way 78 = .ok (.i2l, 1) := by decide +kernel
theorem dX11_way_79 : decode cX11_way 79 = .ok (.goto 6, 3) := by decide +kernel
theorem dX11_way_82 : decode cX11_way 82 = .ok (.ldc2_w 270, 3) := by decide +kernel
theorem dX11_way_85 : decode cX11_way 85 = .ok (.lreturn, 1) := by decide +kernel
theorem dX11_theWay_0 : decode cX11_theWay 0 = .ok (.aload_n 0, 1) := by decide +kernel
theorem dX11_theWay_1 : decode cX11_theWay 1 = .ok (.iload_n 3, 1) := by decide +kernel
theorem dX11_theWay_2 : decode cX11_theWay 2 = .ok (.iload 4, 2) := by decide +kernel
theorem dX11_theWay_4 : decode cX11_theWay 4 = .ok (.invokevirtual 263, 3) := by decide +kernel
theorem dX11_theWay_7 : decode cX11_theWay 7 = .ok (.aload_n 0, 1) := by decide +kernel
theorem dX11_theWay_8 : decode cX11_theWay 8 = .ok (.iload_n 1, 1) := by decide +kernel
theorem dX11_theWay_9 : decode cX11_theWay 9 = .ok (.iload_n 2, 1) := by decide +kernel
theorem dX11_theWay_10 : decode cX11_theWay 10 = .ok (.iconst 0, 1) := by decide +kernel
theorem dX11_theWay_11 : decode cX11_theWay 11 = .ok (.iconst 0, 1) := by decide +kernel
theorem dX11_theWay_12 : decode cX11_theWay 12 = .ok (.invokevirtual 266, 3) := by decide +kernel
theorem dX11_theWay_15 : decode cX11_theWay 15 = .ok (.aload_n 0, 1) := by decide +kernel
theorem dX11_theWay_16 : decode cX11_theWay 16 = .ok (.getfield 237, 3) := by decide +kernel
theorem dX11_theWay_19 : decode cX11_theWay 19 = .ok (.ifCond .ne 7, 3) := by decide +kernel
theorem dX11_theWay_22 : decode cX11_theWay 22 = .ok (.ldc2_w 270, 3) := by decide +kernel
theorem dX11_theWay_25 : decode cX11_theWay 25 = .ok (.lreturn, 1) := by decide +kernel
theorem dX11_theWay_26 : decode cX11_theWay 26 = .ok (.aload_n 0, 1) := by decide +kernel
theorem dX11_theWay_27 : decode cX11_theWay 27 = .ok (.aload_n 0, 1) := by decide +kernel
theorem dX11_theWay_28 : decode cX11_theWay 28 = .ok (.getfield 78, 3) := by decide +kernel
theorem dX11_theWay_31 : decode cX11_theWay 31 = .ok (.aload_n 0, 1) := by decide +kernel
theorem dX11_theWay_32 : decode cX11_theWay 32 = .ok (.getfield 240, 3) := by decide +kernel
theorem dX11_theWay_35 : decode cX11_theWay 35 = .ok (.iconst 0, 1) := by decide +kernel
theorem dX11_theWay_36 : decode cX11_theWay 36 = .ok (.invokevirtual 208, 3) := by decide +kernel
theorem dX11_theWay_39 : decode cX11_theWay 39 = .ok (.aload_n 0, 1) := by decide +kernel
theorem dX11_theWay_40 : decode cX11_theWay 40 = .ok (.aload_n 0, 1) := by decide +kernel
theorem dX11_theWay_41 : decode cX11_theWay 41 = .ok (.getfield 94, 3) := by decide +kernel
theorem dX11_theWay_44 : decode cX11_theWay 44 = .ok (.putfield 215, 3) := by decide +kernel
theorem dX11_theWay_47 : decode cX11_theWay 47 = .ok (.aload_n 0, 1) := by decide +kernel
theorem dX11_theWay_48 : decode cX11_theWay 48 = .ok (.aload_n 0, 1) := by decide +kernel
theorem dX11_theWay_49 : decode cX11_theWay 49 = .ok (.getfield 98, 3) := by decide +kernel
theorem dX11_theWay_52 : decode cX11_theWay 52 = .ok (.putfield 218, 3) := by decide +kernel
theorem dX11_theWay_55 : decode cX11_theWay 55 = .ok (.aload_n 0, 1) := by decide +kernel
theorem dX11_theWay_56 : decode cX11_theWay 56 = .ok (.aload_n 0, 1) := by decide +kernel
theorem dX11_theWay_57 : decode cX11_theWay 57 = .ok (.getfield 78, 3) := by decide +kernel
theorem dX11_theWay_60 : decode cX11_theWay 60 = .ok (.aload_n 0, 1) := by decide +kernel
theorem dX11_theWay_61 : decode cX11_theWay 61 = .ok (.getfield 240, 3) := by decide +kernel
theorem dX11_theWay_64 : decode cX11_theWay 64 = .ok (.iconst 1, 1) := by decide +kernel
theorem dX11_theWay_65 : decode cX11_theWay 65 = .ok (.invokevirtual 208, 3) := by decide +kernel
theorem dX11_theWay_68 : decode cX11_theWay 68 = .ok (.aload_n 0, 1) := by decide +kernel
theorem dX11_theWay_69 : decode cX11_theWay 69 = .ok (.aload_n 0, 1) := by decide +kernel
theorem dX11_theWay_70 : decode cX11_theWay 70 = .ok (.getfield 94, 3) := by decide +kernel
theorem dX11_theWay_73 : decode cX11_theWay 73 = .ok (.putfield 225, 3) := by decide +kernel
theorem dX11_theWay_76 : decode cX11_theWay 76 = .ok (.aload_n 0, 1) := by decide +kernel
theorem dX11_theWay_77 : decode cX11_theWay 77 = .ok (.aload_n 0, 1) := by decide +kernel
theorem dX11_theWay_78 : decode cX11_theWay 78 = .ok (.getfield 98, 3) := by decide +kernel
theorem dX11_theWay_81 : decode cX11_theWay 81 = .ok (.putfield 228, 3) := by decide +kernel
theorem dX11_theWay_84 : decode cX11_theWay 84 = .ok (.aload_n 0, 1) := by decide +kernel
theorem dX11_theWay_85 : decode cX11_theWay 85 = .ok (.getfield 103, 3) := by decide +kernel
theorem dX11_theWay_88 : decode cX11_theWay 88 = .ok (.ifCond .eq 9, 3) := by decide +kernel
theorem dX11_theWay_91 : decode cX11_theWay 91 = .ok (.ldc2_w 272, 3) := by decide +kernel
theorem dX11_theWay_94 : decode cX11_theWay 94 = .ok (.goto 4, 3) := by decide +kernel
theorem dX11_theWay_97 : decode cX11_theWay 97 = .ok (.lconst 0, 1) := by decide +kernel
theorem dX11_theWay_98 : decode cX11_theWay 98 = .ok (.lreturn, 1) := by decide +kernel
theorem dX11_endTold_0 : decode cX11_endTold 0 = .ok (.iload_n 1, 1) := by decide +kernel
theorem dX11_endTold_1 : decode cX11_endTold 1 = .ok (.ifCond .ne 21, 3) := by decide +kernel
theorem dX11_endTold_4 : decode cX11_endTold 4 = .ok (.iload_n 2, 1) := by decide +kernel
theorem dX11_endTold_5 : decode cX11_endTold 5 = .ok (.ifCond .ne 10, 3) := by decide +kernel
theorem dX11_endTold_8 : decode cX11_endTold 8 = .ok (.aload_n 0, 1) := by decide +kernel
theorem dX11_endTold_9 : decode cX11_endTold 9 = .ok (.getfield 215, 3) := by decide +kernel
theorem dX11_endTold_12 : decode cX11_endTold 12 = .ok (.goto 25, 3) := by decide +kernel
theorem dX11_endTold_15 : decode cX11_endTold 15 = .ok (.aload_n 0, 1) := by decide +kernel
theorem dX11_endTold_16 : decode cX11_endTold 16 = .ok (.getfield 218, 3) := by decide +kernel
theorem dX11_endTold_19 : decode cX11_endTold 19 = .ok (.goto 18, 3) := by decide +kernel
theorem dX11_endTold_22 : decode cX11_endTold 22 = .ok (.iload_n 2, 1) := by decide +kernel
theorem dX11_endTold_23 : decode cX11_endTold 23 = .ok (.ifCond .ne 10, 3) := by decide +kernel
theorem dX11_endTold_26 : decode cX11_endTold 26 = .ok (.aload_n 0, 1) := by decide +kernel
theorem dX11_endTold_27 : decode cX11_endTold 27 = .ok (.getfield 225, 3) := by decide +kernel
theorem dX11_endTold_30 : decode cX11_endTold 30 = .ok (.goto 7, 3) := by decide +kernel
theorem dX11_endTold_33 : decode cX11_endTold 33 = .ok (.aload_n 0, 1) := by decide +kernel
theorem dX11_endTold_34 : decode cX11_endTold 34 = .ok (.getfield 228, 3) := by decide +kernel
theorem dX11_endTold_37 : decode cX11_endTold 37 = .ok (.lreturn, 1) := by decide +kernel
theorem dX11_isEnd_0 : decode cX11_isEnd 0 = .ok (.iload_n 0, 1) := by decide +kernel
theorem dX11_isEnd_1 : decode cX11_isEnd 1 = .ok (.i2l, 1) := by decide +kernel
theorem dX11_isEnd_2 : decode cX11_isEnd 2 = .ok (.lconst 0, 1) := by decide +kernel
theorem dX11_isEnd_3 : decode cX11_isEnd 3 = .ok (.lconst 1, 1) := by decide +kernel
theorem dX11_isEnd_4 : decode cX11_isEnd 4 = .ok (.invokestatic 145, 3) := by decide +kernel
theorem dX11_isEnd_7 : decode cX11_isEnd 7 = .ok (.ifCond .eq 17, 3) := by decide +kernel
theorem dX11_isEnd_10 : decode cX11_isEnd 10 = .ok (.iload_n 1, 1) := by decide +kernel
theorem dX11_isEnd_11 : decode cX11_isEnd 11 = .ok (.i2l, 1) := by decide +kernel
theorem dX11_isEnd_12 : decode cX11_isEnd 12 = .ok (.lconst 0, 1) := by decide +kernel
theorem dX11_isEnd_13 : decode cX11_isEnd 13 = .ok (.lconst 1, 1) := by decide +kernel
theorem dX11_isEnd_14 : decode cX11_isEnd 14 = .ok (.invokestatic 145, 3) := by decide +kernel
theorem dX11_isEnd_17 : decode cX11_isEnd 17 = .ok (.ifCond .eq 7, 3) := by decide +kernel
theorem dX11_isEnd_20 : decode cX11_isEnd 20 = .ok (.iconst 1, 1) := by decide +kernel
theorem dX11_isEnd_21 : decode cX11_isEnd 21 = .ok (.goto 4, 3) := by decide +kernel
theorem dX11_isEnd_24 : decode cX11_isEnd 24 = .ok (.iconst 0, 1) := by decide +kernel
theorem dX11_isEnd_25 : decode cX11_isEnd 25 = .ok (.ireturn, 1) := by decide +kernel
theorem dX11_factor_0 : decode cX11_factor 0 = .ok (.iload_n 1, 1) := by decide +kernel
theorem dX11_factor_1 : decode cX11_factor 1 = .ok (.invokestatic 257, 3) := by decide +kernel
theorem dX11_factor_4 : decode cX11_factor 4 = .ok (.ifCond .eq 19, 3) := by decide +kernel
theorem dX11_factor_7 : decode cX11_factor 7 = .ok (.iload_n 2, 1) := by decide +kernel
theorem dX11_factor_8 : decode cX11_factor 8 = .ok (.invokestatic 260, 3) := by decide +kernel
theorem dX11_factor_11 : decode cX11_factor 11 = .ok (.ifCond .eq 12, 3) := by decide +kernel
theorem dX11_factor_14 : decode cX11_factor 14 = .ok (.iload_n 3, 1) := by decide +kernel
theorem dX11_factor_15 : decode cX11_factor 15 = .ok (.iload 4, 2) := by decide +kernel
theorem dX11_factor_17 : decode cX11_factor 17 = .ok (.invokestatic 274, 3) := by decide +kernel
theorem dX11_factor_20 : decode cX11_factor 20 = .ok (.ifCond .ne 7, 3) := by decide +kernel
theorem dX11_factor_23 : decode cX11_factor 23 = .ok (.ldc2_w 149, 3) := by decide +kernel
theorem dX11_factor_26 : decode cX11_factor 26 = .ok (.lreturn, 1) := by decide +kernel
theorem dX11_factor_27 : decode cX11_factor 27 = .ok (.aload_n 0, 1) := by decide +kernel
theorem dX11_factor_28 : decode cX11_factor 28 = .ok (.iload_n 1, 1) := by decide +kernel
theorem dX11_factor_29 : decode cX11_factor 29 = .ok (.bipush 10, 2) := by decide +kernel
theorem dX11_factor_31 : decode cX11_factor 31 = .ok (.idiv, 1) := by decide +kernel
theorem dX11_factor_32 : decode cX11_factor 32 = .ok (.iload_n 1, 1) := by decide +kernel
theorem dX11_factor_33 : decode cX11_factor 33 = .ok (.bipush 10, 2) := by decide +kernel
theorem dX11_factor_35 : decode cX11_factor 35 = .ok (.irem, 1) := by decide +kernel
theorem dX11_factor_36 : decode cX11_factor 36 = .ok (.iload_n 2, 1) := by decide +kernel
theorem dX11_factor_37 : decode cX11_factor 37 = .ok (.sipush 10000, 3) := by decide +kernel
theorem dX11_factor_40 : decode cX11_factor 40 = .ok (.idiv, 1) := by decide +kernel
theorem dX11_factor_41 : decode cX11_factor 41 = .ok (.iload_n 2, 1) := by decide +kernel
theorem dX11_factor_42 : decode cX11_factor 42 = .ok (.sipush 10000, 3) := by decide +kernel
theorem dX11_factor_45 : decode cX11_factor 45 = .ok (.irem, 1) := by decide +kernel
theorem dX11_factor_46 : decode cX11_factor 46 = .ok (.invokevirtual 277, 3) := by decide +kernel
theorem dX11_factor_49 : decode cX11_factor 49 = .ok (.lstore 5, 2) := by decide +kernel
theorem dX11_factor_51 : decode cX11_factor 51 = .ok (.lload 5, 2) := by decide +kernel
theorem dX11_factor_53 : decode cX11_factor 53 = .ok (.lconst 0, 1) := by decide +kernel
theorem dX11_factor_54 : decode cX11_factor 54 = .ok (.lcmp, 1) := by decide +kernel
theorem dX11_factor_55 : decode cX11_factor 55 = .ok (.ifCond .eq 8, 3) := by decide +kernel
theorem dX11_factor_58 : decode cX11_factor 58 = .ok (.lload 5, 2) := by decide +kernel
theorem dX11_factor_60 : decode cX11_factor 60 = .ok (.goto 10, 3) := by decide +kernel
theorem dX11_factor_63 : decode cX11_factor 63 = .ok (.aload_n 0, 1) := by decide +kernel
theorem dX11_factor_64 : decode cX11_factor 64 = .ok (.iload_n 3, 1) := by decide +kernel
theorem dX11_factor_65 : decode cX11_factor 65 = .ok (.iload 4, 2) := by decide +kernel
theorem dX11_factor_67 : decode cX11_factor 67 = .ok (.invokevirtual 281, 3) := by decide +kernel
theorem dX11_factor_70 : decode cX11_factor 70 = .ok (.lreturn, 1) := by decide +kernel
theorem dX11_span_0 : decode cX11_span 0 = .ok (.iload_n 1, 1) := by decide +kernel
theorem dX11_span_1 : decode cX11_span 1 = .ok (.invokestatic 257, 3) := by decide +kernel
theorem dX11_span_4 : decode cX11_span 4 = .ok (.ifCond .eq 19, 3) := by decide +kernel
theorem dX11_span_7 : decode cX11_span 7 = .ok (.iload_n 2, 1) := by decide +kernel
theorem dX11_span_8 : decode cX11_span 8 = .ok (.invokestatic 260, 3) := by decide +kernel
theorem dX11_span_11 : decode cX11_span 11 = .ok (.ifCond .eq 12, 3) := by decide +kernel
theorem dX11_span_14 : decode cX11_span 14 = .ok (.iload_n 3, 1) := by decide +kernel
theorem dX11_span_15 : decode cX11_span 15 = .ok (.iload 4, 2) := by decide +kernel
theorem dX11_span_17 : decode cX11_span 17 = .ok (.invokestatic 274, 3) := by decide +kernel
theorem dX11_span_20 : decode cX11_span 20 = .ok (.ifCond .ne 7, 3) := by decide +kernel
theorem dX11_span_23 : decode cX11_span 23 = .ok (.ldc2_w 149, 3) := by decide +kernel
theorem dX11_span_26 : decode cX11_span 26 = .ok (.lreturn, 1) := by decide +kernel
theorem dX11_span_27 : decode cX11_span 27 = .ok (.aload_n 0, 1) := by decide +kernel
theorem dX11_span_28 : decode cX11_span 28 = .ok (.iload_n 2, 1) := by decide +kernel
theorem dX11_span_29 : decode cX11_span 29 = .ok (.sipush 10000, 3) := by decide +kernel
theorem dX11_span_32 : decode cX11_span 32 = .ok (.idiv, 1) := by decide +kernel
theorem dX11_span_33 : decode cX11_span 33 = .ok (.iload_n 2, 1) := by decide +kernel
theorem dX11_span_34 : decode cX11_span 34 = .ok (.sipush 10000, 3) := by decide +kernel
theorem dX11_span_37 : decode cX11_span 37 = .ok (.irem, 1) := by decide +kernel
theorem dX11_span_38 : decode cX11_span 38 = .ok (.invokevirtual 263, 3) := by decide +kernel
theorem dX11_span_41 : decode cX11_span 41 = .ok (.aload_n 0, 1) := by decide +kernel
theorem dX11_span_42 : decode cX11_span 42 = .ok (.iload_n 1, 1) := by decide +kernel
theorem dX11_span_43 : decode cX11_span 43 = .ok (.bipush 10, 2) := by decide +kernel
theorem dX11_span_45 : decode cX11_span 45 = .ok (.idiv, 1) := by decide +kernel
theorem dX11_span_46 : decode cX11_span 46 = .ok (.iload_n 1, 1) := by decide +kernel
theorem dX11_span_47 : decode cX11_span 47 = .ok (.bipush 10, 2) := by decide +kernel
theorem dX11_span_49 : decode cX11_span 49 = .ok (.irem, 1) := by decide +kernel
theorem dX11_span_50 : decode cX11_span 50 = .ok (.iconst (-1), 1) := by decide +kernel
theorem dX11_span_51 : decode cX11_span 51 = .ok (.iconst 1, 1) := by decide +kernel
theorem dX11_span_52 : decode cX11_span 52 = .ok (.invokevirtual 266, 3) := by decide +kernel
theorem dX11_span_55 : decode cX11_span 55 = .ok (.aload_n 0, 1) := by decide +kernel
theorem dX11_span_56 : decode cX11_span 56 = .ok (.getfield 231, 3) := by decide +kernel
theorem dX11_span_59 : decode cX11_span 59 = .ok (.ifCond .ne 7, 3) := by decide +kernel
theorem dX11_span_62 : decode cX11_span 62 = .ok (.ldc2_w 270, 3) := by decide +kernel
theorem dX11_span_65 : decode cX11_span 65 = .ok (.lreturn, 1) := by decide +kernel
theorem dX11_span_66 : decode cX11_span 66 = .ok (.aload_n 0, 1) := by decide +kernel
theorem dX11_span_67 : decode cX11_span 67 = .ok (.getfield 103, 3) := by decide +kernel
theorem dX11_span_70 : decode cX11_span 70 = .ok (.ifCond .eq 9, 3) := by decide +kernel
theorem dX11_span_73 : decode cX11_span 73 = .ok (.ldc2_w 272, 3) := by decide +kernel
theorem dX11_span_76 : decode cX11_span 76 = .ok (.goto 10, 3) := by decide +kernel
theorem dX11_span_79 : decode cX11_span 79 = .ok (.aload_n 0, 1) := by decide +kernel
theorem dX11_span_80 : decode cX11_span 80 = .ok (.iload_n 3, 1) := by decide +kernel
theorem dX11_span_81 : decode cX11_span 81 = .ok (.iload 4, 2) := by decide +kernel
theorem dX11_span_83 : decode cX11_span 83 = .ok (.invokevirtual 281, 3) := by decide +kernel
theorem dX11_span_86 : decode cX11_span 86 = .ok (.lreturn, 1) := by decide +kernel
theorem dX11_ring_0 : decode cX11_ring 0 = .ok (.aload_n 0, 1) := by decide +kernel
theorem dX11_ring_1 : decode cX11_ring 1 = .ok (.aload_n 0, 1) := by decide +kernel
theorem dX11_ring_2 : decode cX11_ring 2 = .ok (.getfield 75, 3) := by decide +kernel
theorem dX11_ring_5 : decode cX11_ring 5 = .ok (.aload_n 0, 1) := by decide +kernel
theorem dX11_ring_6 : decode cX11_ring 6 = .ok (.getfield 205, 3) := by decide +kernel
theorem dX11_ring_9 : decode cX11_ring 9 = .ok (.iconst 0, 1) := by decide +kernel
theorem dX11_ring_10 : decode cX11_ring 10 = .ok (.invokevirtual 208, 3) := by decide +kernel
theorem dX11_ring_13 : decode cX11_ring 13 = .ok (.aload_n 0, 1) := by decide +kernel
theorem dX11_ring_14 : decode cX11_ring 14 = .ok (.getfield 94, 3) := by decide +kernel
theorem dX11_ring_17 : decode cX11_ring 17 = .ok (.lstore_n 1, 1) := by decide +kernel
theorem dX11_ring_18 : decode cX11_ring 18 = .ok (.aload_n 0, 1) := by decide +kernel
theorem dX11_ring_19 : decode cX11_ring 19 = .ok (.getfield 98, 3) := by decide +kernel
theorem dX11_ring_22 : decode cX11_ring 22 = .ok (.lstore_n 3, 1) := by decide +kernel
theorem dX11_ring_23 : decode cX11_ring 23 = .ok (.aload_n 0, 1) := by decide +kernel
theorem dX11_ring_24 : decode cX11_ring 24 = .ok (.aload_n 0, 1) := by decide +kernel
theorem dX11_ring_25 : decode cX11_ring 25 = .ok (.getfield 75, 3) := by decide +kernel
theorem dX11_ring_28 : decode cX11_ring 28 = .ok (.aload_n 0, 1) := by decide +kernel
theorem dX11_ring_29 : decode cX11_ring 29 = .ok (.getfield 205, 3) := by decide +kernel
theorem dX11_ring_32 : decode cX11_ring 32 = .ok (.iconst 1, 1) := by decide +kernel
theorem dX11_ring_33 : decode cX11_ring 33 = .ok (.invokevirtual 208, 3) := by decide +kernel
theorem dX11_ring_36 : decode cX11_ring 36 = .ok (.aload_n 0, 1) := by decide +kernel
theorem dX11_ring_37 : decode cX11_ring 37 = .ok (.getfield 103, 3) := by decide +kernel
theorem dX11_ring_40 : decode cX11_ring 40 = .ok (.ifCond .ne 9, 3) := by decide +kernel
theorem dX11_ring_43 : decode cX11_ring 43 = .ok (.lload_n 1, 1) := by decide +kernel
theorem dX11_ring_44 : decode cX11_ring 44 = .ok (.lload_n 3, 1) := by decide +kernel
theorem dX11_ring_45 : decode cX11_ring 45 = .ok (.lcmp, 1) := by decide +kernel
theorem dX11_ring_46 : decode cX11_ring 46 = .ok (.ifCond .gt 4, 3) := by decide +kernel
theorem dX11_ring_49 : decode cX11_ring 49 = .ok (.return_, 1) := by decide +kernel
theorem dX11_ring_50 : decode cX11_ring 50 = .ok (.aload_n 0, 1) := by decide +kernel
theorem dX11_ring_51 : decode cX11_ring 51 = .ok (.getfield 285, 3) := by decide +kernel
theorem dX11_ring_54 : decode cX11_ring 54 = .ok (.ifCond .eq 21, 3) := by decide +kernel
theorem dX11_ring_57 : decode cX11_ring 57 = .ok (.aload_n 0, 1) := by decide +kernel
theorem dX11_ring_58 : decode cX11_ring 58 = .ok (.getfield 240, 3) := by decide +kernel
theorem dX11_ring_61 : decode cX11_ring 61 = .ok (.aload_n 0, 1) := by decide +kernel
theorem dX11_ring_62 : decode cX11_ring 62 = .ok (.getfield 205, 3) := by decide +kernel
theorem dX11_ring_65 : decode cX11_ring 65 = .ok (.if_icmp .ne 55, 3) := by decide +kernel
theorem dX11_ring_68 : decode cX11_ring 68 = .ok (.aload_n 0, 1) := by decide +kernel
theorem dX11_ring_69 : decode cX11_ring 69 = .ok (.invokevirtual 288, 3) := by decide +kernel
theorem dX11_ring_72 : decode cX11_ring 72 = .ok (.ifCond .eq 48, 3) := by decide +kernel
theorem dX11_ring_75 : decode cX11_ring 75 = .ok (.aload_n 0, 1) := by decide +kernel
theorem dX11_ring_76 : decode cX11_ring 76 = .ok (.iconst 1, 1) := by decide +kernel
theorem dX11_ring_77 : decode cX11_ring 77 = .ok (.putfield 285, 3) := by decide +kernel
theorem dX11_ring_80 : decode cX11_ring 80 = .ok (.aload_n 0, 1) := by decide +kernel
theorem dX11_ring_81 : decode cX11_ring 81 = .ok (.aload_n 0, 1) := by decide +kernel
theorem dX11_ring_82 : decode cX11_ring 82 = .ok (.getfield 205, 3) := by decide +kernel
theorem dX11_ring_85 : decode cX11_ring 85 = .ok (.putfield 240, 3) := by decide +kernel
theorem dX11_ring_88 : decode cX11_ring 88 = .ok (.iconst 0, 1) := by decide +kernel
theorem dX11_ring_89 : decode cX11_ring 89 = .ok (.istore 5, 2) := by decide +kernel
theorem dX11_ring_91 : decode cX11_ring 91 = .ok (.iload 5, 2) := by decide +kernel
theorem dX11_ring_93 : decode cX11_ring 93 = .ok (.aload_n 0, 1) := by decide +kernel
theorem dX11_ring_94 : decode cX11_ring 94 = .ok (.getfield 205, 3) := by decide +kernel
theorem dX11_ring_97 : decode cX11_ring 97 = .ok (.if_icmp .ge 23, 3) := by decide +kernel
theorem dX11_ring_100 : decode cX11_ring 100 = .ok (.aload_n 0, 1) := by decide +kernel
theorem dX11_ring_101 : decode cX11_ring 101 = .ok (.getfield 78, 3) := by decide +kernel
theorem dX11_ring_104 : decode cX11_ring 104 = .ok (.iload 5, 2) := by decide +kernel
theorem dX11_ring_106 : decode cX11_ring 106 = .ok (.aload_n 0, 1) := by decide +kernel
theorem dX11_ring_107 : decode cX11_ring 107 = .ok (.getfield 75, 3) := by decide +kernel
theorem dX11_ring_110 : decode cX11_ring 110 = .ok (.iload 5, 2) := by decide +kernel
theorem dX11_ring_112 : decode cX11_ring 112 = .ok (.iaload, 1) := by decide +kernel
theorem dX11_ring_113 : decode cX11_ring 113 = .ok (.iastore, 1) := by decide +kernel
theorem dX11_ring_114 : decode cX11_ring 114 = .ok (.iinc 5 1, 3) := by decide +kernel
theorem dX11_ring_117 : decode cX11_ring 117 = .ok (.goto (-26), 3) := by decide +kernel
theorem dX11_ring_120 : decode cX11_ring 120 = .ok (.iconst 0, 1) := by decide +kernel
theorem dX11_ring_121 : decode cX11_ring 121 = .ok (.istore 5, 2) := by decide +kernel
theorem dX11_ring_123 : decode cX11_ring 123 = .ok (.iconst 0, 1) := by decide +kernel
theorem dX11_ring_124 : decode cX11_ring 124 = .ok (.istore 6, 2) := by decide +kernel
theorem dX11_ring_126 : decode cX11_ring 126 = .ok (.iload 6, 2) := by decide +kernel
theorem dX11_ring_128 : decode cX11_ring 128 = .ok (.aload_n 0, 1) := by decide +kernel
theorem dX11_ring_129 : decode cX11_ring 129 = .ok (.getfield 205, 3) := by decide +kernel
theorem dX11_ring_132 : decode cX11_ring 132 = .ok (.if_icmp .ge 53, 3) := by decide +kernel
theorem dX11_ring_135 : decode cX11_ring 135 = .ok (.iload 5, 2) := by decide +kernel
theorem dX11_ring_137 : decode cX11_ring 137 = .ok (.aload_n 0, 1) := by decide +kernel
theorem dX11_ring_138 : decode cX11_ring 138 = .ok (.getfield 84, 3) := by decide +kernel
theorem dX11_ring_141 : decode cX11_ring 141 = .ok (.aload_n 0, 1) := by decide +kernel
theorem dX11_ring_142 : decode cX11_ring 142 = .ok (.getfield 75, 3) := by decide +kernel
theorem dX11_ring_145 : decode cX11_ring 145 = .ok (.iload 6, 2) := by decide +kernel
theorem dX11_ring_147 : decode cX11_ring 147 = .ok (.iaload, 1) := by decide +kernel
theorem dX11_ring_148 : decode cX11_ring 148 = .ok (.bipush 100, 2) := by decide +kernel
theorem dX11_ring_150 : decode cX11_ring 150 = .ok (.irem, 1) := by decide +kernel
theorem dX11_ring_151 : decode cX11_ring 151 = .ok (.iaload, 1) := by decide +kernel
theorem dX11_ring_152 : decode cX11_ring 152 = .ok (.ifCond .lt 23, 3) := by decide +kernel
theorem dX11_ring_155 : decode cX11_ring 155 = .ok (.iconst 1, 1) := by decide +kernel
theorem dX11_ring_156 : decode cX11_ring 156 = .ok (.aload_n 0, 1) := by decide +kernel
theorem dX11_ring_157 : decode cX11_ring 157 = .ok (.getfield 84, 3) := by decide +kernel
theorem dX11_ring_160 : decode cX11_ring 160 = .ok (.aload_n 0, 1) := by decide +kernel
theorem dX11_ring_161 : decode cX11_ring 161 = .ok (.getfield 75, 3) := by decide +kernel
theorem dX11_ring_164 : decode cX11_ring 164 = .ok (.iload 6, 2) := by decide +kernel
theorem dX11_ring_166 : decode cX11_ring 166 = .ok (.iaload, 1) := by decide +kernel
theorem dX11_ring_167 : decode cX11_ring 167 = .ok (.bipush 100, 2) := by decide +kernel
theorem dX11_ring_169 : decode cX11_ring 169 = .ok (.irem, 1) := by decide +kernel
theorem dX11_ring_170 : decode cX11_ring 170 = .ok (.iaload, 1) := by decide +kernel
theorem dX11_ring_171 : decode cX11_ring 171 = .ok (.ishl, 1) := by decide +kernel
theorem dX11_ring_172 : decode cX11_ring 172 = .ok (.goto 4, 3) := by decide +kernel
theorem dX11_ring_175 : decode cX11_ring 175 = .ok (.iconst 0, 1) := by decide +kernel
theorem dX11_ring_176 : decode cX11_ring 176 = .ok (.ior, 1) := by decide +kernel
theorem dX11_ring_177 : decode cX11_ring 177 = .ok (.istore 5, 2) := by decide +kernel
theorem dX11_ring_179 : decode cX11_ring 179 = .ok (.iinc 6 1, 3) := by decide +kernel
theorem dX11_ring_182 : decode cX11_ring 182 = .ok (.goto (-56), 3) := by decide +kernel
theorem dX11_ring_185 : decode cX11_ring 185 = .ok (.aload_n 0, 1) := by decide +kernel
