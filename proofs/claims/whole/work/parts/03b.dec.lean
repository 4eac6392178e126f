theorem dX5_init_50 : decode cX5_init 50 = .ok (.bipush 10, 2) := by decide +kernel
theorem dX5_init_52 : decode cX5_init 52 = .ok (.idiv, 1) := by decide +kernel
theorem dX5_init_53 : decode cX5_init 53 = .ok (.putfield 34, 3) := by decide +kernel
theorem dX5_init_56 : decode cX5_init 56 = .ok (.aload_n 0, 1) := by decide +kernel
theorem dX5_init_57 : decode cX5_init 57 = .ok (.iload_n 3, 1) := by decide +kernel
theorem dX5_init_58 : decode cX5_init 58 = .ok (.bipush 10, 2) := by decide +kernel
theorem dX5_init_60 : decode cX5_init 60 = .ok (.irem, 1) := by decide +kernel
theorem dX5_init_61 : decode cX5_init 61 = .ok (.putfield 37, 3) := by decide +kernel
theorem dX5_init_64 : decode cX5_init 64 = .ok (.aload_n 0, 1) := by decide +kernel
theorem dX5_init_65 : decode cX5_init 65 = .ok (.iload 4, 2) := by decide +kernel
theorem dX5_init_67 : decode cX5_init 67 = .ok (.putfield 40, 3) := by decide +kernel
theorem dX5_init_70 : decode cX5_init 70 = .ok (.aload_n 0, 1) := by decide +kernel
theorem dX5_init_71 : decode cX5_init 71 = .ok (.iload 5, 2) := by decide +kernel
theorem dX5_init_73 : decode cX5_init 73 = .ok (.putfield 43, 3) := by decide +kernel
theorem dX5_init_76 : decode cX5_init 76 = .ok (.aload_n 0, 1) := by decide +kernel
theorem dX5_init_77 : decode cX5_init 77 = .ok (.invokevirtual 46, 3) := by decide +kernel
theorem dX5_init_80 : decode cX5_init 80 = .ok (.return_, 1) := by decide +kernel
theorem dX5_is_0 : decode cX5_is 0 = .ok (.iload_n 1, 1) := by decide +kernel
theorem dX5_is_1 : decode cX5_is 1 = .ok (.ifCond .eq 23, 3) := by decide +kernel
theorem dX5_is_4 : decode cX5_is 4 = .ok (.iload_n 1, 1) := by decide +kernel
theorem dX5_is_5 : decode cX5_is 5 = .ok (.aload_n 0, 1) := by decide +kernel
theorem dX5_is_6 : decode cX5_is 6 = .ok (.getfield 31, 3) := by decide +kernel
theorem dX5_is_9 : decode cX5_is 9 = .ok (.if_icmp .eq 15, 3) := by decide +kernel
theorem dX5_is_12 : decode cX5_is 12 = .ok (.iload_n 1, 1) := by decide +kernel
theorem dX5_is_13 : decode cX5_is 13 = .ok (.getstatic 49, 3) := by decide +kernel
theorem dX5_is_16 : decode cX5_is 16 = .ok (.aload_n 0, 1) := by decide +kernel
theorem dX5_is_17 : decode cX5_is 17 = .ok (.getfield 31, 3) := by decide +kernel
theorem dX5_is_20 : decode cX5_is 20 = .ok (.iaload, 1) := by decide +kernel
theorem dX5_is_21 : decode cX5_is 21 = .ok (.if_icmp .ne 7, 3) := by decide +kernel
theorem dX5_is_24 : decode cX5_is 24 = .ok (.iconst 1, 1) := by decide +kernel
theorem dX5_is_25 : decode cX5_is 25 = .ok (.goto 4, 3) := by decide +kernel
theorem dX5_is_28 : decode cX5_is 28 = .ok (.iconst 0, 1) := by decide +kernel
theorem dX5_is_29 : decode cX5_is 29 = .ok (.ireturn, 1) := by decide +kernel
theorem dX5_reckonEnds_0 : decode cX5_reckonEnds 0 = .ok (.aload_n 0, 1) := by decide +kernel
theorem dX5_reckonEnds_1 : decode cX5_reckonEnds 1 = .ok (.iconst 2, 1) := by decide +kernel
theorem dX5_reckonEnds_2 : decode cX5_reckonEnds 2 = .ok (.invokevirtual 53, 3) := by decide +kernel
theorem dX5_reckonEnds_5 : decode cX5_reckonEnds 5 = .ok (.ifCond .eq 14, 3) := by decide +kernel
theorem dX5_reckonEnds_8 : decode cX5_reckonEnds 8 = .ok (.sipush 1000, 3) := by decide +kernel
theorem dX5_reckonEnds_11 : decode cX5_reckonEnds 11 = .ok (.aload_n 0, 1) := by decide +kernel
theorem dX5_reckonEnds_12 : decode cX5_reckonEnds 12 = .ok (.getfield 57, 3) := by decide +kernel
theorem dX5_reckonEnds_15 : decode cX5_reckonEnds 15 = .ok (.isub, 1) := by decide +kernel
theorem dX5_reckonEnds_16 : decode cX5_reckonEnds 16 = .ok (.goto 25, 3) := by decide +kernel
theorem dX5_reckonEnds_19 : decode cX5_reckonEnds 19 = .ok (.aload_n 0, 1) := by decide +kernel
theorem dX5_reckonEnds_20 : decode cX5_reckonEnds 20 = .ok (.iconst 1, 1) := by decide +kernel
theorem dX5_reckonEnds_21 : decode cX5_reckonEnds 21 = .ok (.invokevirtual 53, 3) := by decide +kernel
theorem dX5_reckonEnds_24 : decode cX5_reckonEnds 24 = .ok (.ifCond .eq 14, 3) := by decide +kernel
theorem dX5_reckonEnds_27 : decode cX5_reckonEnds 27 = .ok (.sipush 1000, 3) := by decide +kernel
theorem dX5_reckonEnds_30 : decode cX5_reckonEnds 30 = .ok (.aload_n 0, 1) := by decide +kernel
theorem dX5_reckonEnds_31 : decode cX5_reckonEnds 31 = .ok (.getfield 57, 3) := by decide +kernel
theorem dX5_reckonEnds_34 : decode cX5_reckonEnds 34 = .ok (.iadd, 1) := by decide +kernel
theorem dX5_reckonEnds_35 : decode cX5_reckonEnds 35 = .ok (.goto 6, 3) := by decide +kernel
theorem dX5_reckonEnds_38 : decode cX5_reckonEnds 38 = .ok (.sipush 1000, 3) := by decide +kernel
theorem dX5_reckonEnds_41 : decode cX5_reckonEnds 41 = .ok (.istore_n 1, 1) := by decide +kernel
theorem dX5_reckonEnds_42 : decode cX5_reckonEnds 42 = .ok (.aload_n 0, 1) := by decide +kernel
theorem dX5_reckonEnds_43 : decode cX5_reckonEnds 43 = .ok (.iconst 2, 1) := by decide +kernel
theorem dX5_reckonEnds_44 : decode cX5_reckonEnds 44 = .ok (.invokevirtual 53, 3) := by decide +kernel
theorem dX5_reckonEnds_47 : decode cX5_reckonEnds 47 = .ok (.ifCond .ne 11, 3) := by decide +kernel
theorem dX5_reckonEnds_50 : decode cX5_reckonEnds 50 = .ok (.aload_n 0, 1) := by decide +kernel
theorem dX5_reckonEnds_51 : decode cX5_reckonEnds 51 = .ok (.iconst 1, 1) := by decide +kernel
theorem dX5_reckonEnds_52 : decode cX5_reckonEnds 52 = .ok (.invokevirtual 53, 3) := by decide +kernel
theorem dX5_reckonEnds_55 : decode cX5_reckonEnds 55 = .ok (.ifCond .eq 14, 3) := by decide +kernel
theorem dX5_reckonEnds_58 : decode cX5_reckonEnds 58 = .ok (.sipush 1000, 3) := by decide +kernel
theorem dX5_reckonEnds_61 : decode cX5_reckonEnds 61 = .ok (.aload_n 0, 1) := by decide +kernel
theorem dX5_reckonEnds_62 : decode cX5_reckonEnds 62 = .ok (.getfield 57, 3) := by decide +kernel
theorem dX5_reckonEnds_65 : decode cX5_reckonEnds 65 = .ok (.iadd, 1) := by decide +kernel
theorem dX5_reckonEnds_66 : decode cX5_reckonEnds 66 = .ok (.goto 6, 3) := by decide +kernel
theorem dX5_reckonEnds_69 : decode cX5_reckonEnds 69 = .ok (.sipush 1000, 3) := by decide +kernel
theorem dX5_reckonEnds_72 : decode cX5_reckonEnds 72 = .ok (.istore_n 2, 1) := by decide +kernel
theorem dX5_reckonEnds_73 : decode cX5_reckonEnds 73 = .ok (.aload_n 0, 1) := by decide +kernel
theorem dX5_reckonEnds_74 : decode cX5_reckonEnds 74 = .ok (.getfield 31, 3) := by decide +kernel
theorem dX5_reckonEnds_77 : decode cX5_reckonEnds 77 = .ok (.iconst 4, 1) := by decide +kernel
theorem dX5_reckonEnds_78 : decode cX5_reckonEnds 78 = .ok (.if_icmp .ne 7, 3) := by decide +kernel
theorem dX5_reckonEnds_81 : decode cX5_reckonEnds 81 = .ok (.iconst 2, 1) := by decide +kernel
theorem dX5_reckonEnds_82 : decode cX5_reckonEnds 82 = .ok (.goto 4, 3) := by decide +kernel
theorem dX5_reckonEnds_85 : decode cX5_reckonEnds 85 = .ok (.iconst 1, 1) := by decide +kernel
theorem dX5_reckonEnds_86 : decode cX5_reckonEnds 86 = .ok (.istore_n 3, 1) := by decide +kernel
theorem dX5_reckonEnds_87 : decode cX5_reckonEnds 87 = .ok (.aload_n 0, 1) := by decide +kernel
theorem dX5_reckonEnds_88 : decode cX5_reckonEnds 88 = .ok (.getfield 12, 3) := by decide +kernel
theorem dX5_reckonEnds_91 : decode cX5_reckonEnds 91 = .ok (.aload_n 0, 1) := by decide +kernel
theorem dX5_reckonEnds_92 : decode cX5_reckonEnds 92 = .ok (.getfield 40, 3) := by decide +kernel
theorem dX5_reckonEnds_95 : decode cX5_reckonEnds 95 = .ok (.i2l, 1) := by decide +kernel
theorem dX5_reckonEnds_96 : decode cX5_reckonEnds 96 = .ok (.iload_n 1, 1) := by decide +kernel
theorem dX5_reckonEnds_97 : decode cX5_reckonEnds 97 = .ok (.i2l, 1) := by decide +kernel
theorem dX5_reckonEnds_98 : decode cX5_reckonEnds 98 = .ok (.lmul, 1) := by decide +kernel
theorem dX5_reckonEnds_99 : decode cX5_reckonEnds 99 = .ok (.aload_n 0, 1) := by decide +kernel
theorem dX5_reckonEnds_100 : decode cX5_reckonEnds 100 = .ok (.getfield 43, 3) := by decide +kernel
theorem dX5_reckonEnds_103 : decode cX5_reckonEnds 103 = .ok (.i2l, 1) := by decide +kernel
theorem dX5_reckonEnds_104 : decode cX5_reckonEnds 104 = .ok (.ldc2_w 60, 3) := by decide +kernel
theorem dX5_reckonEnds_107 : decode cX5_reckonEnds 107 = .ok (.lmul, 1) := by decide +kernel
theorem dX5_reckonEnds_108 : decode cX5_reckonEnds 108 = .ok (.iload_n 3, 1) := by decide +kernel
theorem dX5_reckonEnds_109 : decode cX5_reckonEnds 109 = .ok (.i2l, 1) := by decide +kernel
theorem dX5_reckonEnds_110 : decode cX5_reckonEnds 110 = .ok (.lmul, 1) := by decide +kernel
theorem dX5_reckonEnds_111 : decode cX5_reckonEnds 111 = .ok (.invokevirtual 62, 3) := by decide +kernel
theorem dX5_reckonEnds_114 : decode cX5_reckonEnds 114 = .ok (.aload_n 0, 1) := by decide +kernel
theorem dX5_reckonEnds_115 : decode cX5_reckonEnds 115 = .ok (.getfield 18, 3) := by decide +kernel
theorem dX5_reckonEnds_118 : decode cX5_reckonEnds 118 = .ok (.aload_n 0, 1) := by decide +kernel
theorem dX5_reckonEnds_119 : decode cX5_reckonEnds 119 = .ok (.getfield 40, 3) := by decide +kernel
theorem dX5_reckonEnds_122 : decode cX5_reckonEnds 122 = .ok (.i2l, 1) := by decide +kernel
theorem dX5_reckonEnds_123 : decode cX5_reckonEnds 123 = .ok (.iload_n 2, 1) := by decide +kernel
theorem dX5_reckonEnds_124 : decode cX5_reckonEnds 124 = .ok (.i2l, 1) := by decide +kernel
theorem dX5_reckonEnds_125 : decode cX5_reckonEnds 125 = .ok (.lmul, 1) := by decide +kernel
theorem dX5_reckonEnds_126 : decode cX5_reckonEnds 126 = .ok (.iload_n 3, 1) := by decide +kernel
theorem dX5_reckonEnds_127 : decode cX5_reckonEnds 127 = .ok (.i2l, 1) := by decide +kernel
theorem dX5_reckonEnds_128 : decode cX5_reckonEnds 128 = .ok (.lmul, 1) := by decide +kernel
theorem dX5_reckonEnds_129 : decode cX5_reckonEnds 129 = .ok (.aload_n 0, 1) := by decide +kernel
theorem dX5_reckonEnds_130 : decode cX5_reckonEnds 130 = .ok (.getfield 43, 3) := by decide +kernel
theorem dX5_reckonEnds_133 : decode cX5_reckonEnds 133 = .ok (.i2l, 1) := by decide +kernel
theorem dX5_reckonEnds_134 : decode cX5_reckonEnds 134 = .ok (.ldc2_w 60, 3) := by decide +kernel
theorem dX5_reckonEnds_137 : decode cX5_reckonEnds 137 = .ok (.lmul, 1) := by decide +kernel
theorem dX5_reckonEnds_138 : decode cX5_reckonEnds 138 = .ok (.invokevirtual 62, 3) := by decide +kernel
theorem dX5_reckonEnds_141 : decode cX5_reckonEnds 141 = .ok (.return_, 1) := by decide +kernel
theorem dX5_across_0 : decode cX5_across 0 = .ok (.iload_n 1, 1) := by decide +kernel
theorem dX5_across_1 : decode cX5_across 1 = .ok (.aload_n 0, 1) := by decide +kernel
theorem dX5_across_2 : decode cX5_across 2 = .ok (.getfield 34, 3) := by decide +kernel
theorem dX5_across_5 : decode cX5_across 5 = .ok (.if_icmp .ne 8, 3) := by decide +kernel
theorem dX5_across_8 : decode cX5_across 8 = .ok (.aload_n 0, 1) := by decide +kernel
theorem dX5_across_9 : decode cX5_across 9 = .ok (.getfield 37, 3) := by decide +kernel
theorem dX5_across_12 : decode cX5_across 12 = .ok (.ireturn, 1) := by decide +kernel
theorem dX5_across_13 : decode cX5_across 13 = .ok (.iload_n 1, 1) := by decide +kernel
theorem dX5_across_14 : decode cX5_across 14 = .ok (.aload_n 0, 1) := by decide +kernel
theorem dX5_across_15 : decode cX5_across 15 = .ok (.getfield 37, 3) := by decide +kernel
theorem dX5_across_18 : decode cX5_across 18 = .ok (.if_icmp .ne 10, 3) := by decide +kernel
theorem dX5_across_21 : decode cX5_across 21 = .ok (.aload_n 0, 1) := by decide +kernel
theorem dX5_across_22 : decode cX5_across 22 = .ok (.getfield 34, 3) := by decide +kernel
theorem dX5_across_25 : decode cX5_across 25 = .ok (.goto 4, 3) := by decide +kernel
theorem dX5_across_28 : decode cX5_across 28 = .ok (.iconst (-1), 1) := by decide +kernel
theorem dX5_across_29 : decode cX5_across 29 = .ok (.ireturn, 1) := by decide +kernel
theorem dX6_init_0 : decode cX6_init 0 = .ok (.aload_n 0, 1) := by decide +kernel
theorem dX6_init_1 : decode cX6_init 1 = .ok (.invokespecial 3, 3) := by decide +kernel
theorem dX6_init_4 : decode cX6_init 4 = .ok (.aload_n 0, 1) := by decide +kernel
theorem dX6_init_5 : decode cX6_init 5 = .ok (.new 9, 3) := by decide +kernel
theorem dX6_init_8 : decode cX6_init 8 = .ok (.dup, 1) := by decide +kernel
theorem dX6_init_9 : decode cX6_init 9 = .ok (.invokespecial 11, 3) := by decide +kernel
theorem dX6_init_12 : decode cX6_init 12 = .ok (.putfield 12, 3) := by decide +kernel
theorem dX6_init_15 : decode cX6_init 15 = .ok (.aload_n 0, 1) := by decide +kernel
theorem dX6_init_16 : decode cX6_init 16 = .ok (.new 9, 3) := by decide +kernel
theorem dX6_init_19 : decode cX6_init 19 = .ok (.dup, 1) := by decide +kernel
theorem dX6_init_20 : decode cX6_init 20 = .ok (.invokespecial 11, 3) := by decide +kernel
theorem dX6_init_23 : decode cX6_init 23 = .ok (.putfield 18, 3) := by decide +kernel
theorem dX6_init_26 : decode cX6_init 26 = .ok (.aload_n 0, 1) := by decide +kernel
theorem dX6_init_27 : decode cX6_init 27 = .ok (.iload_n 1, 1) := by decide +kernel
theorem dX6_init_28 : decode cX6_init 28 = .ok (.putfield 21, 3) := by decide +kernel
theorem dX6_init_31 : decode cX6_init 31 = .ok (.aload_n 0, 1) := by decide +kernel
theorem dX6_init_32 : decode cX6_init 32 = .ok (.iload_n 2, 1) := by decide +kernel
theorem dX6_init_33 : decode cX6_init 33 = .ok (.putfield 25, 3) := by decide +kernel
theorem dX6_init_36 : decode cX6_init 36 = .ok (.aload_n 0, 1) := by decide +kernel
theorem dX6_init_37 : decode cX6_init 37 = .ok (.iload_n 3, 1) := by decide +kernel
theorem dX6_init_38 : decode cX6_init 38 = .ok (.putfield 28, 3) := by decide +kernel
theorem dX6_init_41 : decode cX6_init 41 = .ok (.aload_n 0, 1) := by decide +kernel
theorem dX6_init_42 : decode cX6_init 42 = .ok (.iload 4, 2) := by decide +kernel
theorem dX6_init_44 : decode cX6_init 44 = .ok (.putfield 31, 3) := by decide +kernel
theorem dX6_init_47 : decode cX6_init 47 = .ok (.return_, 1) := by decide +kernel
theorem dX6_canBe_0 : decode cX6_canBe 0 = .ok (.iload_n 0, 1) := by decide +kernel
theorem dX6_canBe_1 : decode cX6_canBe 1 = .ok (.iconst 1, 1) := by decide +kernel
theorem dX6_canBe_2 : decode cX6_canBe 2 = .ok (.if_icmp .eq 8, 3) := by decide +kernel
theorem dX6_canBe_5 : decode cX6_canBe 5 = .ok (.iload_n 0, 1) := by decide +kernel
theorem dX6_canBe_6 : decode cX6_canBe 6 = .ok (.iconst 2, 1) := by decide +kernel
theorem dX6_canBe_7 : decode cX6_canBe 7 = .ok (.if_icmp .ne 5, 3) := by decide +kernel
theorem dX6_canBe_10 : decode cX6_canBe 10 = .ok (.iconst 1, 1) := by decide +kernel
theorem dX6_canBe_11 : decode cX6_canBe 11 = .ok (.ireturn, 1) := by decide +kernel
theorem dX6_canBe_12 : decode cX6_canBe 12 = .ok (.iload_n 0, 1) := by decide +kernel
theorem dX6_canBe_13 : decode cX6_canBe 13 = .ok (.iconst 3, 1) := by decide +kernel
theorem dX6_canBe_14 : decode cX6_canBe 14 = .ok (.if_icmp .ne 18, 3) := by decide +kernel
theorem dX6_canBe_17 : decode cX6_canBe 17 = .ok (.iload_n 1, 1) := by decide +kernel
theorem dX6_canBe_18 : decode cX6_canBe 18 = .ok (.bipush 10, 2) := by decide +kernel
theorem dX6_canBe_20 : decode cX6_canBe 20 = .ok (.irem, 1) := by decide +kernel
theorem dX6_canBe_21 : decode cX6_canBe 21 = .ok (.ifCond .ne 7, 3) := by decide +kernel
theorem dX6_canBe_24 : decode cX6_canBe 24 = .ok (.iconst 1, 1) := by decide +kernel
theorem dX6_canBe_25 : decode cX6_canBe 25 = .ok (.goto 19, 3) := by decide +kernel
theorem dX6_canBe_28 : decode cX6_canBe 28 = .ok (.iconst 0, 1) := by decide +kernel
theorem dX6_canBe_29 : decode cX6_canBe 29 = .ok (.goto 15, 3) := by decide +kernel
theorem dX6_canBe_32 : decode cX6_canBe 32 = .ok (.iload_n 1, 1) := by decide +kernel
theorem dX6_canBe_33 : decode cX6_canBe 33 = .ok (.bipush 12, 2) := by decide +kernel
theorem dX6_canBe_35 : decode cX6_canBe 35 = .ok (.irem, 1) := by decide +kernel
theorem dX6_canBe_36 : decode cX6_canBe 36 = .ok (.ifCond .ne 7, 3) := by decide +kernel
theorem dX6_canBe_39 : decode cX6_canBe 39 = .ok (.iconst 1, 1) := by decide +kernel
theorem dX6_canBe_40 : decode cX6_canBe 40 = .ok (.goto 4, 3) := by decide +kernel
theorem dX6_canBe_43 : decode cX6_canBe 43 = .ok (.iconst 0, 1) := by decide +kernel
theorem dX6_canBe_44 : decode cX6_canBe 44 = .ok (.ireturn, 1) := by decide +kernel
theorem dX6_amended_0 : decode cX6_amended 0 = .ok (.iload_n 0, 1) := by decide +kernel
theorem dX6_amended_1 : decode cX6_amended 1 = .ok (.iconst 1, 1) := by decide +kernel
theorem dX6_amended_2 : decode cX6_amended 2 = .ok (.if_icmp .ne 10, 3) := by decide +kernel
theorem dX6_amended_5 : decode cX6_amended 5 = .ok (.ldc2_w 34, 3) := by decide +kernel
theorem dX6_amended_8 : decode cX6_amended 8 = .ok (.iload_n 1, 1) := by decide +kernel
theorem dX6_amended_9 : decode cX6_amended 9 = .ok (.i2l, 1) := by decide +kernel
theorem dX6_amended_10 : decode cX6_amended 10 = .ok (.lmul, 1) := by decide +kernel
theorem dX6_amended_11 : decode cX6_amended 11 = .ok (.lreturn, 1) := by decide +kernel
theorem dX6_amended_12 : decode cX6_amended 12 = .ok (.iload_n 0, 1) := by decide +kernel
theorem dX6_amended_13 : decode cX6_amended 13 = .ok (.iconst 2, 1) := by decide +kernel
theorem dX6_amended_14 : decode cX6_amended 14 = .ok (.if_icmp .ne 5, 3) := by decide +kernel
theorem dX6_amended_17 : decode cX6_amended 17 = .ok (.lconst 0, 1) := by decide +kernel
theorem dX6_amended_18 : decode cX6_amended 18 = .ok (.lreturn, 1) := by decide +kernel
theorem dX6_amended_19 : decode cX6_amended 19 = .ok (.iload_n 0, 1) := by decide +kernel
theorem dX6_amended_20 : decode cX6_amended 20 = .ok (.iconst 3, 1) := by decide +kernel
theorem dX6_amended_21 : decode cX6_amended 21 = .ok (.if_icmp .ne 15, 3) := by decide +kernel
theorem dX6_amended_24 : decode cX6_amended 24 = .ok (.iload_n 1, 1) := by decide +kernel
theorem dX6_amended_25 : decode cX6_amended 25 = .ok (.bipush 10, 2) := by decide +kernel
theorem dX6_amended_27 : decode cX6_amended 27 = .ok (.idiv, 1) := by decide +kernel
theorem dX6_amended_28 : decode cX6_amended 28 = .ok (.i2l, 1) := by decide +kernel
theorem dX6_amended_29 : decode cX6_amended 29 = .ok (.ldc2_w 36, 3) := by decide +kernel
theorem dX6_amended_32 : decode cX6_amended 32 = .ok (.lmul, 1) := by decide +kernel
theorem dX6_amended_33 : decode cX6_amended 33 = .ok (.goto 12, 3) := by decide +kernel
theorem dX6_amended_36 : decode cX6_amended 36 = .ok (.iload_n 1, 1) := by decide +kernel
theorem dX6_amended_37 : decode cX6_amended 37 = .ok (.bipush 12, 2) := by decide +kernel
theorem dX6_amended_39 : decode cX6_amended 39 = .ok (.idiv, 1) := by decide +kernel
theorem dX6_amended_40 : decode cX6_amended 40 = .ok (.i2l, 1) := by decide +kernel
theorem dX6_amended_41 : decode cX6_amended 41 = .ok (.ldc2_w 38, 3) := by decide +kernel
theorem dX6_amended_44 : decode cX6_amended 44 = .ok (.lmul, 1) := by decide +kernel
theorem dX6_amended_45 : decode cX6_amended 45 = .ok (.lreturn, 1) := by decide +kernel
theorem dX7_init_0 : decode cX7_init 0 = .ok (.aload_n 0, 1) := by decide +kernel
theorem dX7_init_1 : decode cX7_init 1 = .ok (.invokespecial 1, 3) := by decide +kernel
theorem dX7_init_4 : decode cX7_init 4 = .ok (.return_, 1) := by decide +kernel
theorem dX7_arrived_0 : decode cX7_arrived 0 = .ok (.aload_n 1, 1) := by decide +kernel
theorem dX7_arrived_1 : decode cX7_arrived 1 = .ok (.getfield 7, 3) := by decide +kernel
theorem dX7_arrived_4 : decode cX7_arrived 4 = .ok (.aload_n 0, 1) := by decide +kernel
theorem dX7_arrived_5 : decode cX7_arrived 5 = .ok (.getfield 13, 3) := by decide +kernel
theorem dX7_arrived_8 : decode cX7_arrived 8 = .ok (.if_icmp .eq 4, 3) := by decide +kernel
theorem dX7_arrived_11 : decode cX7_arrived 11 = .ok (.return_, 1) := by decide +kernel
theorem dX7_arrived_12 : decode cX7_arrived 12 = .ok (.aload_n 0, 1) := by decide +kernel
theorem dX7_arrived_13 : decode cX7_arrived 13 = .ok (.getfield 18, 3) := by decide +kernel
theorem dX7_arrived_16 : decode cX7_arrived 16 = .ok (.ifCond .ne 8, 3) := by decide +kernel
theorem dX7_arrived_19 : decode cX7_arrived 19 = .ok (.aload_n 1, 1) := by decide +kernel
theorem dX7_arrived_20 : decode cX7_arrived 20 = .ok (.iconst 1, 1) := by decide +kernel
theorem dX7_arrived_21 : decode cX7_arrived 21 = .ok (.putfield 21, 3) := by decide +kernel
theorem dX7_arrived_24 : decode cX7_arrived 24 = .ok (.aload_n 0, 1) := by decide +kernel
theorem dX7_arrived_25 : decode cX7_arrived 25 = .ok (.dup, 1) := by decide +kernel
theorem dX7_arrived_26 : decode cX7_arrived 26 = .ok (.getfield 18, 3) := by decide +kernel
theorem dX7_arrived_29 : decode cX7_arrived 29 = .ok (.iconst 1, 1) := by decide +kernel
theorem dX7_arrived_30 : decode cX7_arrived 30 = .ok (.isub, 1) := by decide +kernel
theorem dX7_arrived_31 : decode cX7_arrived 31 = .ok (.putfield 18, 3) := by decide +kernel
theorem dX7_arrived_34 : decode cX7_arrived 34 = .ok (.return_, 1) := by decide +kernel
theorem dX8_init_0 : decode cX8_init 0 = .ok (.aload_n 0, 1) := by decide +kernel
theorem dX8_init_1 : decode cX8_init 1 = .ok (.invokespecial 1, 3) := by decide +kernel
theorem dX8_init_4 : decode cX8_init 4 = .ok (.aload_n 0, 1) := by decide +kernel
theorem dX8_init_5 : decode cX8_init 5 = .ok (.new 7, 3) := by decide +kernel
theorem dX8_init_8 : decode cX8_init 8 = .ok (.dup, 1) := by decide +kernel
theorem dX8_init_9 : decode cX8_init 9 = .ok (.invokespecial 9, 3) := by decide +kernel
theorem dX8_init_12 : decode cX8_init 12 = .ok (.putfield 10, 3) := by decide +kernel
theorem dX8_init_15 : decode cX8_init 15 = .ok (.aload_n 0, 1) := by decide +kernel
theorem dX8_init_16 : decode cX8_init 16 = .ok (.new 7, 3) := by decide +kernel
theorem dX8_init_19 : decode cX8_init 19 = .ok (.dup, 1) := by decide +kernel
theorem dX8_init_20 : decode cX8_init 20 = .ok (.invokespecial 9, 3) := by decide +kernel
theorem dX8_init_23 : decode cX8_init 23 = .ok (.putfield 16, 3) := by decide +kernel
theorem dX8_init_26 : decode cX8_init 26 = .ok (.return_, 1) := by decide +kernel
theorem dX8_arrived_0 : decode cX8_arrived 0 = .ok (.aload_n 0, 1) := by decide +kernel
theorem dX8_arrived_1 : decode cX8_arrived 1 = .ok (.getfield 19, 3) := by decide +kernel
theorem dX8_arrived_4 : decode cX8_arrived 4 = .ok (.ifCond .eq 27, 3) := by decide +kernel
theorem dX8_arrived_7 : decode cX8_arrived 7 = .ok (.aload_n 1, 1) := by decide +kernel
theorem dX8_arrived_8 : decode cX8_arrived 8 = .ok (.invokevirtual 23, 3) := by decide +kernel
theorem dX8_arrived_11 : decode cX8_arrived 11 = .ok (.getfield 28, 3) := by decide +kernel
theorem dX8_arrived_14 : decode cX8_arrived 14 = .ok (.ifCond .ne 17, 3) := by decide +kernel
theorem dX8_arrived_17 : decode cX8_arrived 17 = .ok (.aload_n 1, 1) := by decide +kernel
theorem dX8_arrived_18 : decode cX8_arrived 18 = .ok (.invokevirtual 23, 3) := by decide +kernel
theorem dX8_arrived_21 : decode cX8_arrived 21 = .ok (.aload_n 0, 1) := by decide +kernel
theorem dX8_arrived_22 : decode cX8_arrived 22 = .ok (.getfield 10, 3) := by decide +kernel
theorem dX8_arrived_25 : decode cX8_arrived 25 = .ok (.invokevirtual 31, 3) := by decide +kernel
theorem dX8_arrived_28 : decode cX8_arrived 28 = .ok (.ifCond .eq 14, 3) := by decide +kernel
theorem dX8_arrived_31 : decode cX8_arrived 31 = .ok (.aload_n 0, 1) := by decide +kernel
theorem dX8_arrived_32 : decode cX8_arrived 32 = .ok (.getfield 10, 3) := by decide +kernel
theorem dX8_arrived_35 : decode cX8_arrived 35 = .ok (.aload_n 1, 1) := by decide +kernel
theorem dX8_arrived_36 : decode cX8_arrived 36 = .ok (.invokevirtual 23, 3) := by decide +kernel
theorem dX8_arrived_39 : decode cX8_arrived 39 = .ok (.invokevirtual 35, 3) := by decide +kernel
theorem dX8_arrived_42 : decode cX8_arrived 42 = .ok (.aload_n 0, 1) := by decide +kernel
theorem dX8_arrived_43 : decode cX8_arrived 43 = .ok (.getfield 19, 3) := by decide +kernel
theorem dX8_arrived_46 : decode cX8_arrived 46 = .ok (.ifCond .eq 27, 3) := by decide +kernel
theorem dX8_arrived_49 : decode cX8_arrived 49 = .ok (.aload_n 1, 1) := by decide +kernel
theorem dX8_arrived_50 : decode cX8_arrived 50 = .ok (.invokevirtual 39, 3) := by decide +kernel
theorem dX8_arrived_53 : decode cX8_arrived 53 = .ok (.getfield 28, 3) := by decide +kernel
theorem dX8_arrived_56 : decode cX8_arrived 56 = .ok (.ifCond .ne 17, 3) := by decide +kernel
theorem dX8_arrived_59 : decode cX8_arrived 59 = .ok (.aload_n 0, 1) := by decide +kernel
theorem dX8_arrived_60 : decode cX8_arrived 60 = .ok (.getfield 16, 3) := by decide +kernel
theorem dX8_arrived_63 : decode cX8_arrived 63 = .ok (.aload_n 1, 1) := by decide +kernel
theorem dX8_arrived_64 : decode cX8_arrived 64 = .ok (.invokevirtual 39, 3) := by decide +kernel
theorem dX8_arrived_67 : decode cX8_arrived 67 = .ok (.invokevirtual 31, 3) := by decide +kernel
theorem dX8_arrived_70 : decode cX8_arrived 70 = .ok (.ifCond .eq 14, 3) := by decide +kernel
theorem dX8_arrived_73 : decode cX8_arrived 73 = .ok (.aload_n 0, 1) := by decide +kernel
theorem dX8_arrived_74 : decode cX8_arrived 74 = .ok (.getfield 16, 3) := by decide +kernel
theorem dX8_arrived_77 : decode cX8_arrived 77 = .ok (.aload_n 1, 1) := by decide +kernel
theorem dX8_arrived_78 : decode cX8_arrived 78 = .ok (.invokevirtual 39, 3) := by decide +kernel
theorem dX8_arrived_81 : decode cX8_arrived 81 = .ok (.invokevirtual 35, 3) := by decide +kernel
theorem dX8_arrived_84 : decode cX8_arrived 84 = .ok (.aload_n 0, 1) := by decide +kernel
theorem dX8_arrived_85 : decode cX8_arrived 85 = .ok (.iconst 1, 1) := by decide +kernel
theorem dX8_arrived_86 : decode cX8_arrived 86 = .ok (.putfield 19, 3) := by decide +kernel
theorem dX8_arrived_89 : decode cX8_arrived 89 = .ok (.aload_n 1, 1) := by decide +kernel
theorem dX8_arrived_90 : decode cX8_arrived 90 = .ok (.aload_n 0, 1) := by decide +kernel
theorem dX8_arrived_91 : decode cX8_arrived 91 = .ok (.getfield 10, 3) := by decide +kernel
theorem dX8_arrived_94 : decode cX8_arrived 94 = .ok (.getfield 28, 3) := by decide +kernel
theorem dX8_arrived_97 : decode cX8_arrived 97 = .ok (.ifCond .ne 13, 3) := by decide +kernel
theorem dX8_arrived_100 : decode cX8_arrived 100 = .ok (.aload_n 0, 1) := by decide +kernel
theorem dX8_arrived_101 : decode cX8_arrived 101 = .ok (.getfield 16, 3) := by decide +kernel
theorem dX8_arrived_104 : decode cX8_arrived 104 = .ok (.getfield 28, 3) := by decide +kernel
theorem dX8_arrived_107 : decode cX8_arrived 107 = .ok (.ifCond .eq 7, 3) := by decide +kernel
theorem dX8_arrived_110 : decode cX8_arrived 110 = .ok (.iconst 1, 1) := by decide +kernel
theorem dX8_arrived_111 : decode cX8_arrived 111 = .ok (.goto 4, 3) := by decide +kernel
theorem dX8_arrived_114 : decode cX8_arrived 114 = .ok (.iconst 0, 1) := by decide +kernel
theorem dX8_arrived_115 : decode cX8_arrived 115 = .ok (.putfield 41, 3) := by decide +kernel
theorem dX8_arrived_118 : decode cX8_arrived 118 = .ok (.return_, 1) := by decide +kernel
theorem dX9_init_0 : decode cX9_init 0 = .ok (.aload_n 0, 1) := by decide +kernel
theorem dX9_init_1 : decode cX9_init 1 = .ok (.invokespecial 3, 3) := by decide +kernel
theorem dX9_init_4 : decode cX9_init 4 = .ok (.aload_n 0, 1) := by decide +kernel
theorem dX9_init_5 : decode cX9_init 5 = .ok (.bipush 24, 2) := by decide +kernel
theorem dX9_init_7 : decode cX9_init 7 = .ok (.anewarray 9, 3) := by decide +kernel
theorem dX9_init_10 : decode cX9_init 10 = .ok (.putfield 11, 3) := by decide +kernel
theorem dX9_init_13 : decode cX9_init 13 = .ok (.aload_n 0, 1) := by decide +kernel
theorem dX9_init_14 : decode cX9_init 14 = .ok (.bipush 10, 2) := by decide +kernel
theorem dX9_init_16 : decode cX9_init 16 = .ok (.newarray .int, 2) := by decide +kernel
theorem dX9_init_18 : decode cX9_init 18 = .ok (.putfield 17, 3) := by decide +kernel
theorem dX9_init_21 : decode cX9_init 21 = .ok (.aload_n 0, 1) := by decide +kernel
theorem dX9_init_22 : decode cX9_init 22 = .ok (.bipush 11, 2) := by decide +kernel
theorem dX9_init_24 : decode cX9_init 24 = .ok (.anewarray 21, 3) := by decide +kernel
theorem dX9_init_27 : decode cX9_init 27 = .ok (.putfield 23, 3) := by decide +kernel
theorem dX9_init_30 : decode cX9_init 30 = .ok (.aload_n 0, 1) := by decide +kernel
theorem dX9_init_31 : decode cX9_init 31 = .ok (.bipush 11, 2) := by decide +kernel
theorem dX9_init_33 : decode cX9_init 33 = .ok (.anewarray 21, 3) := by decide +kernel
theorem dX9_init_36 : decode cX9_init 36 = .ok (.putfield 27, 3) := by decide +kernel
theorem dX9_init_39 : decode cX9_init 39 = .ok (.aload_n 0, 1) := by decide +kernel
theorem dX9_init_40 : decode cX9_init 40 = .ok (.bipush 10, 2) := by decide +kernel
theorem dX9_init_42 : decode cX9_init 42 = .ok (.newarray .int, 2) := by decide +kernel
theorem dX9_init_44 : decode cX9_init 44 = .ok (.putfield 30, 3) := by decide +kernel
theorem dX9_init_47 : decode cX9_init 47 = .ok (.iconst 0, 1) := by decide +kernel
theorem dX9_init_48 : decode cX9_init 48 = .ok (.istore_n 1, 1) := by decide +kernel
theorem dX9_init_49 : decode cX9_init 49 = .ok (.iload_n 1, 1) := by decide +kernel
theorem dX9_init_50 : decode cX9_init 50 = .ok (.bipush 10, 2) := by decide +kernel
theorem dX9_init_52 : decode cX9_init 52 = .ok (.if_icmp .gt 35, 3) := by decide +kernel
theorem dX9_init_55 : decode cX9_init 55 = .ok (.aload_n 0, 1) := by decide +kernel
theorem dX9_init_56 : decode cX9_init 56 = .ok (.getfield 23, 3) := by decide +kernel
theorem dX9_init_59 : decode cX9_init 59 = .ok (.iload_n 1, 1) := by decide +kernel
theorem dX9_init_60 : decode cX9_init 60 = .ok (.new 21, 3) := by decide +kernel
theorem dX9_init_63 : decode cX9_init 63 = .ok (.dup, 1) := by decide +kernel
theorem dX9_init_64 : decode cX9_init 64 = .ok (.invokespecial 33, 3) := by decide +kernel
theorem dX9_init_67 : decode cX9_init 67 = .ok (.aastore, 1) := by decide +kernel
theorem dX9_init_68 : decode cX9_init 68 = .ok (.aload_n 0, 1) := by decide +kernel
theorem dX9_init_69 : decode cX9_init 69 = .ok (.getfield 27, 3) := by decide +kernel
theorem dX9_init_72 : decode cX9_init 72 = .ok (.iload_n 1, 1) := by decide +kernel
theorem dX9_init_73 : decode cX9_init 73 = .ok (.new 21, 3) := by decide +kernel
theorem dX9_init_76 : decode cX9_init 76 = .ok (.dup, 1) := by decide +kernel
theorem dX9_init_77 : decode cX9_init 77 = .ok (.invokespecial 33, 3) := by decide +kernel
theorem dX9_init_80 : decode cX9_init 80 = .ok (.aastore, 1) := by decide +kernel
theorem dX9_init_81 : decode cX9_init 81 = .ok (.iinc 1 1, 3) := by decide +kernel
theorem dX9_init_84 : decode cX9_init 84 = .ok (.goto (-35), 3) := by decide +kernel
theorem dX9_init_87 : decode cX9_init 87 = .ok (.aload_n 0, 1) := by decide +kernel
theorem dX9_init_88 : decode cX9_init 88 = .ok (.getfield 23, 3) := by decide +kernel
theorem dX9_init_91 : decode cX9_init 91 = .ok (.iconst 0, 1) := by decide +kernel
theorem dX9_init_92 : decode cX9_init 92 = .ok (.aaload, 1) := by decide +kernel
theorem dX9_init_93 : decode cX9_init 93 = .ok (.lconst 1, 1) := by decide +kernel
theorem dX9_init_94 : decode cX9_init 94 = .ok (.lconst 1, 1) := by decide +kernel
theorem dX9_init_95 : decode cX9_init 95 = .ok (.invokevirtual 34, 3) := by decide +kernel
theorem dX9_init_98 : decode cX9_init 98 = .ok (.aload_n 0, 1) := by decide +kernel
theorem dX9_init_99 : decode cX9_init 99 = .ok (.getfield 27, 3) := by decide +kernel
theorem dX9_init_102 : decode cX9_init 102 = .ok (.iconst 0, 1) := by decide +kernel
theorem dX9_init_103 : decode cX9_init 103 = .ok (.aaload, 1) := by decide +kernel
theorem dX9_init_104 : decode cX9_init 104 = .ok (.lconst 1, 1) := by decide +kernel
theorem dX9_init_105 : decode cX9_init 105 = .ok (.lconst 1, 1) := by decide +kernel
theorem dX9_init_106 : decode cX9_init 106 = .ok (.invokevirtual 34, 3) := by decide +kernel
theorem dX9_init_109 : decode cX9_init 109 = .ok (.return_, 1) := by decide +kernel
theorem dX9_admit_0 : decode cX9_admit 0 = .ok (.aload_n 0, 1) := by decide +kernel
theorem dX9_admit_1 : decode cX9_admit 1 = .ok (.getfield 38, 3) := by decide +kernel
theorem dX9_admit_4 : decode cX9_admit 4 = .ok (.bipush 24, 2) := by decide +kernel
theorem dX9_admit_6 : decode cX9_admit 6 = .ok (.if_icmp .ge 23, 3) := by decide +kernel
theorem dX9_admit_9 : decode cX9_admit 9 = .ok (.aload_n 0, 1) := by decide +kernel
theorem dX9_admit_10 : decode cX9_admit 10 = .ok (.getfield 11, 3) := by decide +kernel
theorem dX9_admit_13 : decode cX9_admit 13 = .ok (.aload_n 0, 1) := by decide +kernel
theorem dX9_admit_14 : decode cX9_admit 14 = .ok (.getfield 38, 3) := by decide +kernel
theorem dX9_admit_17 : decode cX9_admit 17 = .ok (.aload_n 1, 1) := by decide +kernel
theorem dX9_admit_18 : decode cX9_admit 18 = .ok (.aastore, 1) := by decide +kernel
theorem dX9_admit_19 : decode cX9_admit 19 = .ok (.aload_n 0, 1) := by decide +kernel
theorem dX9_admit_20 : decode cX9_admit 20 = .ok (.dup, 1) := by decide +kernel
theorem dX9_admit_21 : decode cX9_admit 21 = .ok (.getfield 38, 3) := by decide +kernel
theorem dX9_admit_24 : decode cX9_admit 24 = .ok (.iconst 1, 1) := by decide +kernel
theorem dX9_admit_25 : decode cX9_admit 25 = .ok (.iadd, 1) := by decide +kernel
theorem dX9_admit_26 : decode cX9_admit 26 = .ok (.putfield 38, 3) := by decide +kernel
theorem dX9_admit_29 : decode cX9_admit 29 = .ok (.return_, 1) := by decide +kernel
theorem dX9_low_0 : decode cX9_low 0 = .ok (.aload_n 0, 1) := by decide +kernel
theorem dX9_low_1 : decode cX9_low 1 = .ok (.getfield 23, 3) := by decide +kernel
theorem dX9_low_4 : decode cX9_low 4 = .ok (.aload_n 0, 1) := by decide +kernel
theorem dX9_low_5 : decode cX9_low 5 = .ok (.getfield 42, 3) := by decide +kernel
theorem dX9_low_8 : decode cX9_low 8 = .ok (.aaload, 1) := by decide +kernel
theorem dX9_low_9 : decode cX9_low 9 = .ok (.areturn, 1) := by decide +kernel
theorem dX9_high_0 : decode cX9_high 0 = .ok (.aload_n 0, 1) := by decide +kernel
theorem dX9_high_1 : decode cX9_high 1 = .ok (.getfield 27, 3) := by decide +kernel
theorem dX9_high_4 : decode cX9_high 4 = .ok (.aload_n 0, 1) := by decide +kernel
theorem dX9_high_5 : decode cX9_high 5 = .ok (.getfield 42, 3) := by decide +kernel
theorem dX9_high_8 : decode cX9_high 8 = .ok (.aaload, 1) := by decide +kernel
theorem dX9_high_9 : decode cX9_high 9 = .ok (.areturn, 1) := by decide +kernel
theorem dX9_numberAt_0 : decode cX9_numberAt 0 = .ok (.aload_n 0, 1) := by decide +kernel
theorem dX9_numberAt_1 : decode cX9_numberAt 1 = .ok (.getfield 17, 3) := by decide +kernel
theorem dX9_numberAt_4 : decode cX9_numberAt 4 = .ok (.iload_n 1, 1) := by decide +kernel
theorem dX9_numberAt_5 : decode cX9_numberAt 5 = .ok (.iaload, 1) := by decide +kernel
theorem dX9_numberAt_6 : decode cX9_numberAt 6 = .ok (.bipush 100, 2) := by decide +kernel
theorem dX9_numberAt_8 : decode cX9_numberAt 8 = .ok (.irem, 1) := by decide +kernel
theorem dX9_numberAt_9 : decode cX9_numberAt 9 = .ok (.ireturn, 1) := by decide +kernel
theorem dX9_seekWays_0 : decode cX9_seekWays 0 = .ok (.aload_n 0, 1) := by decide +kernel
theorem dX9_seekWays_1 : decode cX9_seekWays 1 = .ok (.iload_n 2, 1) := by decide +kernel
theorem dX9_seekWays_2 : decode cX9_seekWays 2 = .ok (.iconst 0, 1) := by decide +kernel
theorem dX9_seekWays_3 : decode cX9_seekWays 3 = .ok (.invokevirtual 45, 3) := by decide +kernel
theorem dX9_seekWays_6 : decode cX9_seekWays 6 = .ok (.aload_n 0, 1) := by decide +kernel
theorem dX9_seekWays_7 : decode cX9_seekWays 7 = .ok (.bipush 9, 2) := by decide +kernel
theorem dX9_seekWays_9 : decode cX9_seekWays 9 = .ok (.putfield 49, 3) := by decide +kernel
theorem dX9_seekWays_12 : decode cX9_seekWays 12 = .ok (.aload_n 0, 1) := by decide +kernel
theorem dX9_seekWays_13 : decode cX9_seekWays 13 = .ok (.aload_n 3, 1) := by decide +kernel
theorem dX9_seekWays_14 : decode cX9_seekWays 14 = .ok (.iload_n 1, 1) := by decide +kernel
theorem dX9_seekWays_15 : decode cX9_seekWays 15 = .ok (.iconst 1, 1) := by decide +kernel
theorem dX9_seekWays_16 : decode cX9_seekWays 16 = .ok (.iload_n 1, 1) := by decide +kernel
theorem dX9_seekWays_17 : decode cX9_seekWays 17 = .ok (.ishl, 1) := by decide +kernel
theorem dX9_seekWays_18 : decode cX9_seekWays 18 = .ok (.iconst 0, 1) := by decide +kernel
theorem dX9_seekWays_19 : decode cX9_seekWays 19 = .ok (.invokestatic 52, 3) := by decide +kernel
theorem dX9_seekWays_22 : decode cX9_seekWays 22 = .ok (.return_, 1) := by decide +kernel
theorem dX9_pickWay_0 : decode cX9_pickWay 0 = .ok (.aload_n 0, 1) := by decide +kernel
theorem dX9_pickWay_1 : decode cX9_pickWay 1 = .ok (.iload_n 2, 1) := by decide +kernel
theorem dX9_pickWay_2 : decode cX9_pickWay 2 = .ok (.iconst 0, 1) := by decide +kernel
theorem dX9_pickWay_3 : decode cX9_pickWay 3 = .ok (.invokevirtual 45, 3) := by decide +kernel
theorem dX9_pickWay_6 : decode cX9_pickWay 6 = .ok (.aload 4, 2) := by decide +kernel
theorem dX9_pickWay_8 : decode cX9_pickWay 8 = .ok (.iload_n 3, 1) := by decide +kernel
theorem dX9_pickWay_9 : decode cX9_pickWay 9 = .ok (.putfield 56, 3) := by decide +kernel
theorem dX9_pickWay_12 : decode cX9_pickWay 12 = .ok (.aload_n 0, 1) := by decide +kernel
theorem dX9_pickWay_13 : decode cX9_pickWay 13 = .ok (.getfield 30, 3) := by decide +kernel
theorem dX9_pickWay_16 : decode cX9_pickWay 16 = .ok (.iload_n 1, 1) := by decide +kernel
theorem dX9_pickWay_17 : decode cX9_pickWay 17 = .ok (.iaload, 1) := by decide +kernel
theorem dX9_pickWay_18 : decode cX9_pickWay 18 = .ok (.istore 5, 2) := by decide +kernel
theorem dX9_pickWay_20 : decode cX9_pickWay 20 = .ok (.iload 5, 2) := by decide +kernel
theorem dX9_pickWay_22 : decode cX9_pickWay 22 = .ok (.bipush 9, 2) := by decide +kernel
theorem dX9_pickWay_24 : decode cX9_pickWay 24 = .ok (.if_icmp .gt 40, 3) := by decide +kernel
theorem dX9_pickWay_27 : decode cX9_pickWay 27 = .ok (.aload_n 0, 1) := by decide +kernel
theorem dX9_pickWay_28 : decode cX9_pickWay 28 = .ok (.getfield 61, 3) := by decide +kernel
theorem dX9_pickWay_31 : decode cX9_pickWay 31 = .ok (.ifCond .ne 33, 3) := by decide +kernel
theorem dX9_pickWay_34 : decode cX9_pickWay 34 = .ok (.aload 4, 2) := by decide +kernel
theorem dX9_pickWay_36 : decode cX9_pickWay 36 = .ok (.iload 5, 2) := by decide +kernel
theorem dX9_pickWay_38 : decode cX9_pickWay 38 = .ok (.putfield 65, 3) := by decide +kernel
theorem dX9_pickWay_41 : decode cX9_pickWay 41 = .ok (.aload_n 0, 1) := by decide +kernel
theorem dX9_pickWay_42 : decode cX9_pickWay 42 = .ok (.iload 5, 2) := by decide +kernel
theorem dX9_pickWay_44 : decode cX9_pickWay 44 = .ok (.putfield 49, 3) := by decide +kernel
theorem dX9_pickWay_47 : decode cX9_pickWay 47 = .ok (.aload_n 0, 1) := by decide +kernel
theorem dX9_pickWay_48 : decode cX9_pickWay 48 = .ok (.aload 4, 2) := by decide +kernel
theorem dX9_pickWay_50 : decode cX9_pickWay 50 = .ok (.iload_n 1, 1) := by decide +kernel
theorem dX9_pickWay_51 : decode cX9_pickWay 51 = .ok (.iconst 1, 1) := by decide +kernel
theorem dX9_pickWay_52 : decode cX9_pickWay 52 = .ok (.iload_n 1, 1) := by decide +kernel
theorem dX9_pickWay_53 : decode cX9_pickWay 53 = .ok (.ishl, 1) := by decide +kernel
theorem dX9_pickWay_54 : decode cX9_pickWay 54 = .ok (.iconst 0, 1) := by decide +kernel
theorem dX9_pickWay_55 : decode cX9_pickWay 55 = .ok (.invokestatic 52, 3) := by decide +kernel
theorem dX9_pickWay_58 : decode cX9_pickWay 58 = .ok (.iinc 5 1, 3) := by decide +kernel
theorem dX9_pickWay_61 : decode cX9_pickWay 61 = .ok (.goto (-41), 3) := by decide +kernel
theorem dX9_pickWay_64 : decode cX9_pickWay 64 = .ok (.aload_n 0, 1) := by decide +kernel
theorem dX9_pickWay_65 : decode cX9_pickWay 65 = .ok (.getfield 61, 3) := by decide +kernel
theorem dX9_pickWay_68 : decode cX9_pickWay 68 = .ok (.ireturn, 1) := by decide +kernel
theorem dX9_seekRings_0 : decode cX9_seekRings 0 = .ok (.aload_n 0, 1) := by decide +kernel
theorem dX9_seekRings_1 : decode cX9_seekRings 1 = .ok (.iconst 0, 1) := by decide +kernel
theorem dX9_seekRings_2 : decode cX9_seekRings 2 = .ok (.putfield 61, 3) := by decide +kernel
theorem dX9_seekRings_5 : decode cX9_seekRings 5 = .ok (.iconst 0, 1) := by decide +kernel
theorem dX9_seekRings_6 : decode cX9_seekRings 6 = .ok (.istore_n 2, 1) := by decide +kernel
theorem dX9_seekRings_7 : decode cX9_seekRings 7 = .ok (.iload_n 2, 1) := by decide +kernel
theorem dX9_seekRings_8 : decode cX9_seekRings 8 = .ok (.iconst 2, 1) := by decide +kernel
theorem dX9_seekRings_9 : decode cX9_seekRings 9 = .ok (.aload_n 0, 1) := by decide +kernel
theorem dX9_seekRings_10 : decode cX9_seekRings 10 = .ok (.getfield 38, 3) := by decide +kernel
theorem dX9_seekRings_13 : decode cX9_seekRings 13 = .ok (.imul, 1) := by decide +kernel
theorem dX9_seekRings_14 : decode cX9_seekRings 14 = .ok (.if_icmp .ge 112, 3) := by decide +kernel
theorem dX9_seekRings_17 : decode cX9_seekRings 17 = .ok (.aload_n 0, 1) := by decide +kernel
theorem dX9_seekRings_18 : decode cX9_seekRings 18 = .ok (.getfield 61, 3) := by decide +kernel
theorem dX9_seekRings_21 : decode cX9_seekRings 21 = .ok (.ifCond .ne 105, 3) := by decide +kernel
theorem dX9_seekRings_24 : decode cX9_seekRings 24 = .ok (.aload_n 0, 1) := by decide +kernel
theorem dX9_seekRings_25 : decode cX9_seekRings 25 = .ok (.getfield 11, 3) := by decide +kernel
theorem dX9_seekRings_28 : decode cX9_seekRings 28 = .ok (.iload_n 2, 1) := by decide +kernel
theorem dX9_seekRings_29 : decode cX9_seekRings 29 = .ok (.iconst 2, 1) := by decide +kernel
theorem dX9_seekRings_30 : decode cX9_seekRings 30 = .ok (.idiv, 1) := by decide +kernel
theorem dX9_seekRings_31 : decode cX9_seekRings 31 = .ok (.aaload, 1) := by decide +kernel
theorem dX9_seekRings_32 : decode cX9_seekRings 32 = .ok (.astore_n 3, 1) := by decide +kernel
theorem dX9_seekRings_33 : decode cX9_seekRings 33 = .ok (.aload_n 3, 1) := by decide +kernel
theorem dX9_seekRings_34 : decode cX9_seekRings 34 = .ok (.ifnull 86, 3) := by decide +kernel
theorem dX9_seekRings_37 : decode cX9_seekRings 37 = .ok (.iload_n 2, 1) := by decide +kernel
theorem dX9_seekRings_38 : decode cX9_seekRings 38 = .ok (.iconst 2, 1) := by decide +kernel
theorem dX9_seekRings_39 : decode cX9_seekRings 39 = .ok (.irem, 1) := by decide +kernel
theorem dX9_seekRings_40 : decode cX9_seekRings 40 = .ok (.iconst 1, 1) := by decide +kernel
theorem dX9_seekRings_41 : decode cX9_seekRings 41 = .ok (.if_icmp .ne 7, 3) := by decide +kernel
theorem dX9_seekRings_44 : decode cX9_seekRings 44 = .ok (.iconst 1, 1) := by decide +kernel
theorem dX9_seekRings_45 : decode cX9_seekRings 45 = .ok (.goto 4, 3) := by decide +kernel
theorem dX9_seekRings_48 : decode cX9_seekRings 48 = .ok (.iconst 0, 1) := by decide +kernel
theorem dX9_seekRings_49 : decode cX9_seekRings 49 = .ok (.istore 4, 2) := by decide +kernel
theorem dX9_seekRings_51 : decode cX9_seekRings 51 = .ok (.iload 4, 2) := by decide +kernel
theorem dX9_seekRings_53 : decode cX9_seekRings 53 = .ok (.ifCond .eq 10, 3) := by decide +kernel
theorem dX9_seekRings_56 : decode cX9_seekRings 56 = .ok (.aload_n 3, 1) := by decide +kernel
theorem dX9_seekRings_57 : decode cX9_seekRings 57 = .ok (.getfield 68, 3) := by decide +kernel
theorem dX9_seekRings_60 : decode cX9_seekRings 60 = .ok (.goto 7, 3) := by decide +kernel
theorem dX9_seekRings_63 : decode cX9_seekRings 63 = .ok (.aload_n 3, 1) := by decide +kernel
theorem dX9_seekRings_64 : decode cX9_seekRings 64 = .ok (.getfield 71, 3) := by decide +kernel
theorem dX9_seekRings_67 : decode cX9_seekRings 67 = .ok (.istore 5, 2) := by decide +kernel
theorem dX9_seekRings_69 : decode cX9_seekRings 69 = .ok (.aload_n 0, 1) := by decide +kernel
theorem dX9_seekRings_70 : decode cX9_seekRings 70 = .ok (.iload 4, 2) := by decide +kernel
theorem dX9_seekRings_72 : decode cX9_seekRings 72 = .ok (.ifCond .eq 10, 3) := by decide +kernel
theorem dX9_seekRings_75 : decode cX9_seekRings 75 = .ok (.aload_n 3, 1) := by decide +kernel
theorem dX9_seekRings_76 : decode cX9_seekRings 76 = .ok (.getfield 71, 3) := by decide +kernel
theorem dX9_seekRings_79 : decode cX9_seekRings 79 = .ok (.goto 7, 3) := by decide +kernel
theorem dX9_seekRings_82 : decode cX9_seekRings 82 = .ok (.aload_n 3, 1) := by decide +kernel
theorem dX9_seekRings_83 : decode cX9_seekRings 83 = .ok (.getfield 68, 3) := by decide +kernel
theorem dX9_seekRings_86 : decode cX9_seekRings 86 = .ok (.iload_n 2, 1) := by decide +kernel
theorem dX9_seekRings_87 : decode cX9_seekRings 87 = .ok (.iconst 2, 1) := by decide +kernel
theorem dX9_seekRings_88 : decode cX9_seekRings 88 = .ok (.idiv, 1) := by decide +kernel
theorem dX9_seekRings_89 : decode cX9_seekRings 89 = .ok (.iconst 1, 1) := by decide +kernel
theorem dX9_seekRings_90 : decode cX9_seekRings 90 = .ok (.iadd, 1) := by decide +kernel
theorem dX9_seekRings_91 : decode cX9_seekRings 91 = .ok (.invokevirtual 45, 3) := by decide +kernel
theorem dX9_seekRings_94 : decode cX9_seekRings 94 = .ok (.aload_n 0, 1) := by decide +kernel
theorem dX9_seekRings_95 : decode cX9_seekRings 95 = .ok (.bipush 10, 2) := by decide +kernel
theorem dX9_seekRings_97 : decode cX9_seekRings 97 = .ok (.putfield 49, 3) := by decide +kernel
theorem dX9_seekRings_100 : decode cX9_seekRings 100 = .ok (.aload_n 0, 1) := by decide +kernel
theorem dX9_seekRings_101 : decode cX9_seekRings 101 = .ok (.aload_n 3, 1) := by decide +kernel
theorem dX9_seekRings_102 : decode cX9_seekRings 102 = .ok (.iload 4, 2) := by decide +kernel
theorem dX9_seekRings_104 : decode cX9_seekRings 104 = .ok (.iconst 0, 1) := by decide +kernel
theorem dX9_seekRings_105 : decode cX9_seekRings 105 = .ok (.invokevirtual 74, 3) := by decide +kernel
theorem dX9_seekRings_108 : decode cX9_seekRings 108 = .ok (.aload_n 0, 1) := by decide +kernel
theorem dX9_seekRings_109 : decode cX9_seekRings 109 = .ok (.aload_n 1, 1) := by decide +kernel
theorem dX9_seekRings_110 : decode cX9_seekRings 110 = .ok (.iload 5, 2) := by decide +kernel
theorem dX9_seekRings_112 : decode cX9_seekRings 112 = .ok (.iconst 1, 1) := by decide +kernel
theorem dX9_seekRings_113 : decode cX9_seekRings 113 = .ok (.iload 5, 2) := by decide +kernel
theorem dX9_seekRings_115 : decode cX9_seekRings 115 = .ok (.ishl, 1) := by decide +kernel
theorem dX9_seekRings_116 : decode cX9_seekRings 116 = .ok (.iconst 1, 1) := by decide +kernel
theorem dX9_seekRings_117 : decode cX9_seekRings 117 = .ok (.invokestatic 52, 3) := by decide +kernel
theorem dX9_seekRings_120 : decode cX9_seekRings 120 = .ok (.iinc 2 1, 3) := by decide +kernel
theorem dX9_seekRings_123 : decode cX9_seekRings 123 = .ok (.goto (-116), 3) := by decide +kernel
theorem dX9_seekRings_126 : decode cX9_seekRings 126 = .ok (.return_, 1) := by decide +kernel
theorem dX9_aim_0 : decode cX9_aim 0 = .ok (.aload_n 0, 1) := by decide +kernel
theorem dX9_aim_1 : decode cX9_aim 1 = .ok (.iload_n 1, 1) := by decide +kernel
theorem dX9_aim_2 : decode cX9_aim 2 = .ok (.putfield 78, 3) := by decide +kernel
theorem dX9_aim_5 : decode cX9_aim 5 = .ok (.aload_n 0, 1) := by decide +kernel
theorem dX9_aim_6 : decode cX9_aim 6 = .ok (.iload_n 2, 1) := by decide +kernel
theorem dX9_aim_7 : decode cX9_aim 7 = .ok (.putfield 81, 3) := by decide +kernel
theorem dX9_aim_10 : decode cX9_aim 10 = .ok (.aload_n 0, 1) := by decide +kernel
theorem dX9_aim_11 : decode cX9_aim 11 = .ok (.iconst 0, 1) := by decide +kernel
theorem dX9_aim_12 : decode cX9_aim 12 = .ok (.putfield 61, 3) := by decide +kernel
theorem dX9_aim_15 : decode cX9_aim 15 = .ok (.aload_n 0, 1) := by decide +kernel
theorem dX9_aim_16 : decode cX9_aim 16 = .ok (.invokevirtual 84, 3) := by decide +kernel
theorem dX9_aim_19 : decode cX9_aim 19 = .ok (.return_, 1) := by decide +kernel
theorem dX9_measureDistances_0 : decode cX9_measureDistances 0 = .ok (.aload_n 0, 1) := by decide +kernel
theorem dX9_measureDistances_1 : decode cX9_measureDistances 1 = .ok (.getfield 30, 3) := by decide +kernel
theorem dX9_measureDistances_4 : decode cX9_measureDistances 4 = .ok (.bipush 100, 2) := by decide +kernel
theorem dX9_measureDistances_6 : decode cX9_measureDistances 6 = .ok (.invokestatic 87, 3) := by decide +kernel
theorem dX9_measureDistances_9 : decode cX9_measureDistances 9 = .ok (.aload_n 0, 1) := by decide +kernel
theorem dX9_measureDistances_10 : decode cX9_measureDistances 10 = .ok (.getfield 30, 3) := by decide +kernel
theorem dX9_measureDistances_13 : decode cX9_measureDistances 13 = .ok (.aload_n 0, 1) := by decide +kernel
theorem dX9_measureDistances_14 : decode cX9_measureDistances 14 = .ok (.getfield 78, 3) := by decide +kernel
theorem dX9_measureDistances_17 : decode cX9_measureDistances 17 = .ok (.iconst 0, 1) := by decide +kernel
theorem dX9_measureDistances_18 : decode cX9_measureDistances 18 = .ok (.iastore, 1) := by decide +kernel
theorem dX9_measureDistances_19 : decode cX9_measureDistances 19 = .ok (.iconst 1, 1) := by decide +kernel
theorem dX9_measureDistances_20 : decode cX9_measureDistances 20 = .ok (.istore_n 1, 1) := by decide +kernel
theorem dX9_measureDistances_21 : decode cX9_measureDistances 21 = .ok (.iconst 0, 1) := by decide +kernel
theorem dX9_measureDistances_22 : decode cX9_measureDistances 22 = .ok (.istore_n 2, 1) := by decide +kernel
theorem dX9_measureDistances_23 : decode cX9_measureDistances 23 = .ok (.iload_n 2, 1) := by decide +kernel
theorem dX9_measureDistances_24 : decode cX9_measureDistances 24 = .ok (.bipush 10, 2) := by decide +kernel
theorem dX9_measureDistances_26 : decode cX9_measureDistances 26 = .ok (.if_icmp .ge 81, 3) := by decide +kernel
theorem dX9_measureDistances_29 : decode cX9_measureDistances 29 = .ok (.iload_n 1, 1) := by decide +kernel
theorem dX9_measureDistances_30 : decode cX9_measureDistances 30 = .ok (.ifCond .eq 77, 3) := by decide +kernel
theorem dX9_measureDistances_33 : decode cX9_measureDistances 33 = .ok (.iconst 0, 1) := by decide +kernel
theorem dX9_measureDistances_34 : decode cX9_measureDistances 34 = .ok (.istore_n 1, 1) := by decide +kernel
theorem dX9_measureDistances_35 : decode cX9_measureDistances 35 = .ok (.aload_n 0, 1) := by decide +kernel
theorem dX9_measureDistances_36 : decode cX9_measureDistances 36 = .ok (.getfield 81, 3) := by decide +kernel
theorem dX9_measureDistances_39 : decode cX9_measureDistances 39 = .ok (.istore_n 3, 1) := by decide +kernel
theorem dX9_measureDistances_40 : decode cX9_measureDistances 40 = .ok (.iload_n 3, 1) := by decide +kernel
theorem dX9_measureDistances_41 : decode cX9_measureDistances 41 = .ok (.aload_n 0, 1) := by decide +kernel
theorem dX9_measureDistances_42 : decode cX9_measureDistances 42 = .ok (.getfield 38, 3) := by decide +kernel
theorem dX9_measureDistances_45 : decode cX9_measureDistances 45 = .ok (.if_icmp .ge 56, 3) := by decide +kernel
theorem dX9_measureDistances_48 : decode cX9_measureDistances 48 = .ok (.aload_n 0, 1) := by decide +kernel
theorem dX9_measureDistances_49 : decode cX9_measureDistances 49 = .ok (.getfield 11, 3) := by decide +kernel
theorem dX9_measureDistances_52 : decode cX9_measureDistances 52 = .ok (.iload_n 3, 1) := by decide +kernel
theorem dX9_measureDistances_53 : decode cX9_measureDistances 53 = .ok (.aaload, 1) := by decide +kernel
theorem dX9_measureDistances_54 : decode cX9_measureDistances 54 = .ok (.astore 4, 2) := by decide +kernel
theorem dX9_measureDistances_56 : decode cX9_measureDistances 56 = .ok (.aload 4, 2) := by decide +kernel
theorem dX9_measureDistances_58 : decode cX9_measureDistances 58 = .ok (.ifnull 37, 3) := by decide +kernel
theorem dX9_measureDistances_61 : decode cX9_measureDistances 61 = .ok (.iload_n 1, 1) := by decide +kernel
theorem dX9_measureDistances_62 : decode cX9_measureDistances 62 = .ok (.aload_n 0, 1) := by decide +kernel
theorem dX9_measureDistances_63 : decode cX9_measureDistances 63 = .ok (.aload 4, 2) := by decide +kernel
theorem dX9_measureDistances_65 : decode cX9_measureDistances 65 = .ok (.getfield 68, 3) := by decide +kernel
theorem dX9_measureDistances_68 : decode cX9_measureDistances 68 = .ok (.aload 4, 2) := by decide +kernel
theorem dX9_measureDistances_70 : decode cX9_measureDistances 70 = .ok (.getfield 71, 3) := by decide +kernel
theorem dX9_measureDistances_73 : decode cX9_measureDistances 73 = .ok (.invokevirtual 93, 3) := by decide +kernel
theorem dX9_measureDistances_76 : decode cX9_measureDistances 76 = .ok (.ior, 1) := by decide +kernel
theorem dX9_measureDistances_77 : decode cX9_measureDistances 77 = .ok (.istore_n 1, 1) := by decide +kernel
theorem dX9_measureDistances_78 : decode cX9_measureDistances 78 = .ok (.iload_n 1, 1) := by decide +kernel
theorem dX9_measureDistances_79 : decode cX9_measureDistances 79 = .ok (.aload_n 0, 1) := by decide +kernel
theorem dX9_measureDistances_80 : decode cX9_measureDistances 80 = .ok (.aload 4, 2) := by decide +kernel
theorem dX9_measureDistances_82 : decode cX9_measureDistances 82 = .ok (.getfield 71, 3) := by decide +kernel
theorem dX9_measureDistances_85 : decode cX9_measureDistances 85 = .ok (.aload 4, 2) := by decide +kernel
theorem dX9_measureDistances_87 : decode cX9_measureDistances 87 = .ok (.getfield 68, 3) := by decide +kernel
theorem dX9_measureDistances_90 : decode cX9_measureDistances 90 = .ok (.invokevirtual 93, 3) := by decide +kernel
theorem dX9_measureDistances_93 : decode cX9_measureDistances 93 = .ok (.ior, 1) := by decide +kernel
theorem dX9_measureDistances_94 : decode cX9_measureDistances 94 = .ok (.istore_n 1, 1) := by decide +kernel
theorem dX9_measureDistances_95 : decode cX9_measureDistances 95 = .ok (.iinc 3 1, 3) := by decide +kernel
theorem dX9_measureDistances_98 : decode cX9_measureDistances 98 = .ok (.goto (-58), 3) := by decide +kernel
theorem dX9_measureDistances_101 : decode cX9_measureDistances 101 = .ok (.iinc 2 1, 3) := by decide +kernel
theorem dX9_measureDistances_104 : decode cX9_measureDistances 104 = .ok (.goto (-81), 3) := by decide +kernel
theorem dX9_measureDistances_107 : decode cX9_measureDistances 107 = .ok (.return_, 1) := by decide +kernel
theorem dX9_draw_0 : decode cX9_draw 0 = .ok (.aload_n 0, 1) := by decide +kernel
theorem dX9_draw_1 : decode cX9_draw 1 = .ok (.getfield 30, 3) := by decide +kernel
theorem dX9_draw_4 : decode cX9_draw 4 = .ok (.iload_n 2, 1) := by decide +kernel
theorem dX9_draw_5 : decode cX9_draw 5 = .ok (.iaload, 1) := by decide +kernel
theorem dX9_draw_6 : decode cX9_draw 6 = .ok (.iconst 1, 1) := by decide +kernel
theorem dX9_draw_7 : decode cX9_draw 7 = .ok (.iadd, 1) := by decide +kernel
theorem dX9_draw_8 : decode cX9_draw 8 = .ok (.aload_n 0, 1) := by decide +kernel
theorem dX9_draw_9 : decode cX9_draw 9 = .ok (.getfield 30, 3) := by decide +kernel
theorem dX9_draw_12 : decode cX9_draw 12 = .ok (.iload_n 1, 1) := by decide +kernel
theorem dX9_draw_13 : decode cX9_draw 13 = .ok (.iaload, 1) := by decide +kernel
theorem dX9_draw_14 : decode cX9_draw 14 = .ok (.if_icmp .lt 5, 3) := by decide +kernel
theorem dX9_draw_17 : decode cX9_draw 17 = .ok (.iconst 0, 1) := by decide +kernel
theorem dX9_draw_18 : decode cX9_draw 18 = .ok (.ireturn, 1) := by decide +kernel
theorem dX9_draw_19 : decode cX9_draw 19 = .ok (.aload_n 0, 1) := by decide +kernel
theorem dX9_draw_20 : decode cX9_draw 20 = .ok (.getfield 30, 3) := by decide +kernel
theorem dX9_draw_23 : decode cX9_draw 23 = .ok (.iload_n 1, 1) := by decide +kernel
theorem dX9_draw_24 : decode cX9_draw 24 = .ok (.aload_n 0, 1) := by decide +kernel
theorem dX9_draw_25 : decode cX9_draw 25 = .ok (.getfield 30, 3) := by decide +kernel
theorem dX9_draw_28 : decode cX9_draw 28 = .ok (.iload_n 2, 1) := by decide +kernel
theorem dX9_draw_29 : decode cX9_draw 29 = .ok (.iaload, 1) := by decide +kernel
theorem dX9_draw_30 : decode cX9_draw 30 = .ok (.iconst 1, 1) := by decide +kernel
theorem dX9_draw_31 : decode cX9_draw 31 = .ok (.iadd, 1) := by decide +kernel
theorem dX9_draw_32 : decode cX9_draw 32 = .ok (.iastore, 1) := by decide +kernel
theorem dX9_draw_33 : decode cX9_draw 33 = .ok (.iconst 1, 1) := by decide +kernel
theorem dX9_draw_34 : decode cX9_draw 34 = .ok (.ireturn, 1) := by decide +kernel
theorem dX9_take_0 : decode cX9_take 0 = .ok (.aload_n 0, 1) := by decide +kernel
theorem dX9_take_1 : decode cX9_take 1 = .ok (.getfield 17, 3) := by decide +kernel
theorem dX9_take_4 : decode cX9_take 4 = .ok (.iload_n 3, 1) := by decide +kernel
theorem dX9_take_5 : decode cX9_take 5 = .ok (.iload_n 2, 1) := by decide +kernel
theorem dX9_take_6 : decode cX9_take 6 = .ok (.ifCond .eq 13, 3) := by decide +kernel
theorem dX9_take_9 : decode cX9_take 9 = .ok (.aload_n 1, 1) := by decide +kernel
theorem dX9_take_10 : decode cX9_take 10 = .ok (.getfield 97, 3) := by decide +kernel
theorem dX9_take_13 : decode cX9_take 13 = .ok (.bipush 100, 2) := by decide +kernel
theorem dX9_take_15 : decode cX9_take 15 = .ok (.iadd, 1) := by decide +kernel
theorem dX9_take_16 : decode cX9_take 16 = .ok (.goto 7, 3) := by decide +kernel
theorem dX9_take_19 : decode cX9_take 19 = .ok (.aload_n 1, 1) := by decide +kernel
theorem dX9_take_20 : decode cX9_take 20 = .ok (.getfield 97, 3) := by decide +kernel
theorem dX9_take_23 : decode cX9_take 23 = .ok (.iastore, 1) := by decide +kernel
theorem dX9_take_24 : decode cX9_take 24 = .ok (.iload_n 2, 1) := by decide +kernel
theorem dX9_take_25 : decode cX9_take 25 = .ok (.ifCond .eq 68, 3) := by decide +kernel
theorem dX9_take_28 : decode cX9_take 28 = .ok (.aload_n 0, 1) := by decide +kernel
theorem dX9_take_29 : decode cX9_take 29 = .ok (.getfield 23, 3) := by decide +kernel
theorem dX9_take_32 : decode cX9_take 32 = .ok (.iload_n 3, 1) := by decide +kernel
theorem dX9_take_33 : decode cX9_take 33 = .ok (.iconst 1, 1) := by decide +kernel
theorem dX9_take_34 : decode cX9_take 34 = .ok (.iadd, 1) := by decide +kernel
theorem dX9_take_35 : decode cX9_take 35 = .ok (.aaload, 1) := by decide +kernel
theorem dX9_take_36 : decode cX9_take 36 = .ok (.aload_n 0, 1) := by decide +kernel
theorem dX9_take_37 : decode cX9_take 37 = .ok (.getfield 23, 3) := by decide +kernel
theorem dX9_take_40 : decode cX9_take 40 = .ok (.iload_n 3, 1) := by decide +kernel
theorem dX9_take_41 : decode cX9_take 41 = .ok (.aaload, 1) := by decide +kernel
theorem dX9_take_42 : decode cX9_take 42 = .ok (.aload_n 1, 1) := by decide +kernel
theorem dX9_take_43 : decode cX9_take 43 = .ok (.getfield 100, 3) := by decide +kernel
theorem dX9_take_46 : decode cX9_take 46 = .ok (.getfield 104, 3) := by decide +kernel
theorem dX9_take_49 : decode cX9_take 49 = .ok (.aload_n 1, 1) := by decide +kernel
theorem dX9_take_50 : decode cX9_take 50 = .ok (.getfield 100, 3) := by decide +kernel
theorem dX9_take_53 : decode cX9_take 53 = .ok (.getfield 108, 3) := by decide +kernel
theorem dX9_take_56 : decode cX9_take 56 = .ok (.invokevirtual 111, 3) := by decide +kernel
theorem dX9_take_59 : decode cX9_take 59 = .ok (.aload_n 0, 1) := by decide +kernel
theorem dX9_take_60 : decode cX9_take 60 = .ok (.getfield 27, 3) := by decide +kernel
theorem dX9_take_63 : decode cX9_take 63 = .ok (.iload_n 3, 1) := by decide +kernel
theorem dX9_take_64 : decode cX9_take 64 = .ok (.iconst 1, 1) := by decide +kernel
theorem dX9_take_65 : decode cX9_take 65 = .ok (.iadd, 1) := by decide +kernel
theorem dX9_take_66 : decode cX9_take 66 = .ok (.aaload, 1) := by decide +kernel
theorem dX9_take_67 : decode cX9_take 67 = .ok (.aload_n 0, 1) := by decide +kernel
theorem dX9_take_68 : decode cX9_take 68 = .ok (.getfield 27, 3) := by decide +kernel
theorem dX9_take_71 : decode cX9_take 71 = .ok (.iload_n 3, 1) := by decide +kernel
theorem dX9_take_72 : decode cX9_take 72 = .ok (.aaload, 1) := by decide +kernel
theorem dX9_take_73 : decode cX9_take 73 = .ok (.aload_n 1, 1) := by decide +kernel
theorem dX9_take_74 : decode cX9_take 74 = .ok (.getfield 115, 3) := by decide +kernel
theorem dX9_take_77 : decode cX9_take 77 = .ok (.getfield 104, 3) := by decide +kernel
theorem dX9_take_80 : decode cX9_take 80 = .ok (.aload_n 1, 1) := by decide +kernel
theorem dX9_take_81 : decode cX9_take 81 = .ok (.getfield 115, 3) := by decide +kernel
theorem dX9_take_84 : decode cX9_take 84 = .ok (.getfield 108, 3) := by decide +kernel
theorem dX9_take_87 : decode cX9_take 87 = .ok (.invokevirtual 111, 3) := by decide +kernel
theorem dX9_take_90 : decode cX9_take 90 = .ok (.goto 65, 3) := by decide +kernel
theorem dX9_take_93 : decode cX9_take 93 = .ok (.aload_n 0, 1) := by decide +kernel
theorem dX9_take_94 : decode cX9_take 94 = .ok (.getfield 23, 3) := by decide +kernel
theorem dX9_take_97 : decode cX9_take 97 = .ok (.iload_n 3, 1) := by decide +kernel
theorem dX9_take_98 : decode cX9_take 98 = .ok (.iconst 1, 1) := by decide +kernel
theorem dX9_take_99 : decode cX9_take 99 = .ok (.iadd, 1) := by decide +kernel
theorem dX9_take_100 : decode cX9_take 100 = .ok (.aaload, 1) := by decide +kernel
theorem dX9_take_101 : decode cX9_take 101 = .ok (.aload_n 0, 1) := by decide +kernel
theorem dX9_take_102 : decode cX9_take 102 = .ok (.getfield 23, 3) := by decide +kernel
theorem dX9_take_105 : decode cX9_take 105 = .ok (.iload_n 3, 1) := by decide +kernel
theorem dX9_take_106 : decode cX9_take 106 = .ok (.aaload, 1) := by decide +kernel
theorem dX9_take_107 : decode cX9_take 107 = .ok (.aload_n 1, 1) := by decide +kernel
theorem dX9_take_108 : decode cX9_take 108 = .ok (.getfield 115, 3) := by decide +kernel
theorem dX9_take_111 : decode cX9_take 111 = .ok (.getfield 108, 3) := by decide +kernel
theorem dX9_take_114 : decode cX9_take 114 = .ok (.aload_n 1, 1) := by decide +kernel
theorem dX9_take_115 : decode cX9_take 115 = .ok (.getfield 115, 3) := by decide +kernel
theorem dX9_take_118 : decode cX9_take 118 = .ok (.getfield 104, 3) := by decide +kernel
theorem dX9_take_121 : decode cX9_take 121 = .ok (.invokevirtual 111, 3) := by decide +kernel
theorem dX9_take_124 : decode cX9_take 124 = .ok (.aload_n 0, 1) := by decide +kernel
theorem dX9_take_125 : decode cX9_take 125 = .ok (.getfield 27, 3) := by decide +kernel
theorem dX9_take_128 : decode cX9_take 128 = .ok (.iload_n 3, 1) := by decide +kernel
theorem dX9_take_129 : decode cX9_take 129 = .ok (.iconst 1, 1) := by decide +kernel
theorem dX9_take_130 : decode cX9_take 130 = .ok (.iadd, 1) := by decide +kernel
theorem dX9_take_131 : decode cX9_take 131 = .ok (.aaload, 1) := by decide +kernel
theorem dX9_take_132 : decode cX9_take 132 = .ok (.aload_n 0, 1) := by decide +kernel
theorem dX9_take_133 : decode cX9_take 133 = .ok (.getfield 27, 3) := by decide +kernel
theorem dX9_take_136 : decode cX9_take 136 = .ok (.iload_n 3, 1) := by decide +kernel
theorem dX9_take_137 : decode cX9_take 137 = .ok (.aaload, 1) := by decide +kernel
theorem dX9_take_138 : decode cX9_take 138 = .ok (.aload_n 1, 1) := by decide +kernel
theorem dX9_take_139 : decode cX9_take 139 = .ok (.getfield 100, 3) := by decide +kernel
theorem dX9_take_142 : decode cX9_take 142 = .ok (.getfield 108, 3) := by decide +kernel
theorem dX9_take_145 : decode cX9_take 145 = .ok (.aload_n 1, 1) := by decide +kernel
theorem dX9_take_146 : decode cX9_take 146 = .ok (.getfield 100, 3) := by decide +kernel
theorem dX9_take_149 : decode cX9_take 149 = .ok (.getfield 104, 3) := by decide +kernel
theorem dX9_take_152 : decode cX9_take 152 = .ok (.invokevirtual 111, 3) := by decide +kernel
theorem dX9_take_155 : decode cX9_take 155 = .ok (.return_, 1) := by decide +kernel
theorem dX9_extend_0 : decode cX9_extend 0 = .ok (.iload_n 2, 1) := by decide +kernel
theorem dX9_extend_1 : decode cX9_extend 1 = .ok (.aload_n 0, 1) := by decide +kernel
theorem dX9_extend_2 : decode cX9_extend 2 = .ok (.getfield 78, 3) := by decide +kernel
theorem dX9_extend_5 : decode cX9_extend 5 = .ok (.if_icmp .ne 15, 3) := by decide +kernel
theorem dX9_extend_8 : decode cX9_extend 8 = .ok (.aload_n 0, 1) := by decide +kernel
theorem dX9_extend_9 : decode cX9_extend 9 = .ok (.iload 4, 2) := by decide +kernel
theorem dX9_extend_11 : decode cX9_extend 11 = .ok (.putfield 42, 3) := by decide +kernel
theorem dX9_extend_14 : decode cX9_extend 14 = .ok (.aload_n 1, 1) := by decide +kernel
theorem dX9_extend_15 : decode cX9_extend 15 = .ok (.aload_n 0, 1) := by decide +kernel
theorem dX9_extend_16 : decode cX9_extend 16 = .ok (.invokevirtual 118, 3) := by decide +kernel
theorem dX9_extend_19 : decode cX9_extend 19 = .ok (.return_, 1) := by decide +kernel
theorem dX9_extend_20 : decode cX9_extend 20 = .ok (.iload 4, 2) := by decide +kernel
theorem dX9_extend_22 : decode cX9_extend 22 = .ok (.aload_n 0, 1) := by decide +kernel
theorem dX9_extend_23 : decode cX9_extend 23 = .ok (.getfield 49, 3) := by decide +kernel
theorem dX9_extend_26 : decode cX9_extend 26 = .ok (.if_icmp .lt 4, 3) := by decide +kernel
theorem dX9_extend_29 : decode cX9_extend 29 = .ok (.return_, 1) := by decide +kernel
theorem dX9_extend_30 : decode cX9_extend 30 = .ok (.aload_n 0, 1) := by decide +kernel
theorem dX9_extend_31 : decode cX9_extend 31 = .ok (.getfield 81, 3) := by decide +kernel
theorem dX9_extend_34 : decode cX9_extend 34 = .ok (.istore 5, 2) := by decide +kernel
theorem dX9_extend_36 : decode cX9_extend 36 = .ok (.iload 5, 2) := by decide +kernel
theorem dX9_extend_38 : decode cX9_extend 38 = .ok (.aload_n 0, 1) := by decide +kernel
theorem dX9_extend_39 : decode cX9_extend 39 = .ok (.getfield 38, 3) := by decide +kernel
theorem dX9_extend_42 : decode cX9_extend 42 = .ok (.if_icmp .ge 113, 3) := by decide +kernel
theorem dX9_extend_45 : decode cX9_extend 45 = .ok (.aload_n 0, 1) := by decide +kernel
theorem dX9_extend_46 : decode cX9_extend 46 = .ok (.getfield 61, 3) := by decide +kernel
theorem dX9_extend_49 : decode cX9_extend 49 = .ok (.ifCond .ne 106, 3) := by decide +kernel
theorem dX9_extend_52 : decode cX9_extend 52 = .ok (.aload_n 0, 1) := by decide +kernel
theorem dX9_extend_53 : decode cX9_extend 53 = .ok (.getfield 11, 3) := by decide +kernel
theorem dX9_extend_56 : decode cX9_extend 56 = .ok (.iload 5, 2) := by decide +kernel
theorem dX9_extend_58 : decode cX9_extend 58 = .ok (.aaload, 1) := by decide +kernel
theorem dX9_extend_59 : decode cX9_extend 59 = .ok (.astore 6, 2) := by decide +kernel
theorem dX9_extend_61 : decode cX9_extend 61 = .ok (.aload 6, 2) := by decide +kernel
theorem dX9_extend_63 : decode cX9_extend 63 = .ok (.ifnonnull 6, 3) := by decide +kernel
theorem dX9_extend_66 : decode cX9_extend 66 = .ok (.goto 83, 3) := by decide +kernel
theorem dX9_extend_69 : decode cX9_extend 69 = .ok (.aload 6, 2) := by decide +kernel
theorem dX9_extend_71 : decode cX9_extend 71 = .ok (.iload_n 2, 1) := by decide +kernel
theorem dX9_extend_72 : decode cX9_extend 72 = .ok (.invokevirtual 124, 3) := by decide +kernel
theorem dX9_extend_75 : decode cX9_extend 75 = .ok (.istore 7, 2) := by decide +kernel
theorem dX9_extend_77 : decode cX9_extend 77 = .ok (.iload 7, 2) := by decide +kernel
theorem dX9_extend_79 : decode cX9_extend 79 = .ok (.ifCond .lt 70, 3) := by decide +kernel
theorem dX9_extend_82 : decode cX9_extend 82 = .ok (.iload_n 3, 1) := by decide +kernel
theorem dX9_extend_83 : decode cX9_extend 83 = .ok (.iload 7, 2) := by decide +kernel
theorem dX9_extend_85 : decode cX9_extend 85 = .ok (.ishr, 1) := by decide +kernel
theorem dX9_extend_86 : decode cX9_extend 86 = .ok (.iconst 1, 1) := by decide +kernel
theorem dX9_extend_87 : decode cX9_extend 87 = .ok (.iand, 1) := by decide +kernel
theorem dX9_extend_88 : decode cX9_extend 88 = .ok (.ifCond .ne 61, 3) := by decide +kernel
theorem dX9_extend_91 : decode cX9_extend 91 = .ok (.iload 4, 2) := by decide +kernel
theorem dX9_extend_93 : decode cX9_extend 93 = .ok (.iconst 1, 1) := by decide +kernel
theorem dX9_extend_94 : decode cX9_extend 94 = .ok (.iadd, 1) := by decide +kernel
theorem dX9_extend_95 : decode cX9_extend 95 = .ok (.aload_n 0, 1) := by decide +kernel
theorem dX9_extend_96 : decode cX9_extend 96 = .ok (.getfield 30, 3) := by decide +kernel
theorem dX9_extend_99 : decode cX9_extend 99 = .ok (.iload 7, 2) := by decide +kernel
theorem dX9_extend_101 : decode cX9_extend 101 = .ok (.iaload, 1) := by decide +kernel
theorem dX9_extend_102 : decode cX9_extend 102 = .ok (.iadd, 1) := by decide +kernel
theorem dX9_extend_103 : decode cX9_extend 103 = .ok (.aload_n 0, 1) := by decide +kernel
theorem dX9_extend_104 : decode cX9_extend 104 = .ok (.getfield 49, 3) := by decide +kernel
theorem dX9_extend_107 : decode cX9_extend 107 = .ok (.if_icmp .gt 42, 3) := by decide +kernel
theorem dX9_extend_110 : decode cX9_extend 110 = .ok (.aload_n 0, 1) := by decide +kernel
theorem dX9_extend_111 : decode cX9_extend 111 = .ok (.aload 6, 2) := by decide +kernel
theorem dX9_extend_113 : decode cX9_extend 113 = .ok (.iload_n 2, 1) := by decide +kernel
theorem dX9_extend_114 : decode cX9_extend 114 = .ok (.aload 6, 2) := by decide +kernel
theorem dX9_extend_116 : decode cX9_extend 116 = .ok (.getfield 68, 3) := by decide +kernel
theorem dX9_extend_119 : decode cX9_extend 119 = .ok (.if_icmp .eq 7, 3) := by decide +kernel
theorem dX9_extend_122 : decode cX9_extend 122 = .ok (.iconst 1, 1) := by decide +kernel
theorem dX9_extend_123 : decode cX9_extend 123 = .ok (.goto 4, 3) := by decide +kernel
theorem dX9_extend_126 : decode cX9_extend 126 = .ok (.iconst 0, 1) := by decide +kernel
theorem dX9_extend_127 : decode cX9_extend 127 = .ok (.iload 4, 2) := by decide +kernel
theorem dX9_extend_129 : decode cX9_extend 129 = .ok (.invokevirtual 74, 3) := by decide +kernel
theorem dX9_extend_132 : decode cX9_extend 132 = .ok (.aload_n 0, 1) := by decide +kernel
theorem dX9_extend_133 : decode cX9_extend 133 = .ok (.aload_n 1, 1) := by decide +kernel
theorem dX9_extend_134 : decode cX9_extend 134 = .ok (.iload 7, 2) := by decide +kernel
theorem dX9_extend_136 : decode cX9_extend 136 = .ok (.iload_n 3, 1) := by decide +kernel
theorem dX9_extend_137 : decode cX9_extend 137 = .ok (.iconst 1, 1) := by decide +kernel
theorem dX9_extend_138 : decode cX9_extend 138 = .ok (.iload 7, 2) := by decide +kernel
theorem dX9_extend_140 : decode cX9_extend 140 = .ok (.ishl, 1) := by decide +kernel
theorem dX9_extend_141 : decode cX9_extend 141 = .ok (.ior, 1) := by decide +kernel
theorem dX9_extend_142 : decode cX9_extend 142 = .ok (.iload 4, 2) := by decide +kernel
theorem dX9_extend_144 : decode cX9_extend 144 = .ok (.iconst 1, 1) := by decide +kernel
theorem dX9_extend_145 : decode cX9_extend 145 = .ok (.iadd, 1) := by decide +kernel
theorem dX9_extend_146 : decode cX9_extend 146 = .ok (.invokestatic 52, 3) := by decide +kernel
theorem dX9_extend_149 : decode cX9_extend 149 = .ok (.iinc 5 1, 3) := by decide +kernel
theorem dX9_extend_152 : decode cX9_extend 152 = .ok (.goto (-116), 3) := by decide +kernel
theorem dX9_extend_155 : decode cX9_extend 155 = .ok (.return_, 1) := by decide +kernel
theorem dX10_init_0 : decode cX10_init 0 = .ok (.aload_n 0, 1) := by decide +kernel
theorem dX10_init_1 : decode cX10_init 1 = .ok (.invokespecial 1, 3) := by decide +kernel
theorem dX10_init_4 : decode cX10_init 4 = .ok (.aload_n 0, 1) := by decide +kernel
theorem dX10_init_5 : decode cX10_init 5 = .ok (.bipush 8, 2) := by decide +kernel
theorem dX10_init_7 : decode cX10_init 7 = .ok (.newarray .int, 2) := by decide +kernel
theorem dX10_init_9 : decode cX10_init 9 = .ok (.putfield 9, 3) := by decide +kernel
theorem dX10_init_12 : decode cX10_init 12 = .ok (.aload_n 0, 1) := by decide +kernel
theorem dX10_init_13 : decode cX10_init 13 = .ok (.bipush 24, 2) := by decide +kernel
theorem dX10_init_15 : decode cX10_init 15 = .ok (.anewarray 13, 3) := by decide +kernel
theorem dX10_init_18 : decode cX10_init 18 = .ok (.putfield 15, 3) := by decide +kernel
theorem dX10_init_21 : decode cX10_init 21 = .ok (.aload_n 0, 1) := by decide +kernel
theorem dX10_init_22 : decode cX10_init 22 = .ok (.iconst 4, 1) := by decide +kernel
theorem dX10_init_23 : decode cX10_init 23 = .ok (.anewarray 19, 3) := by decide +kernel
theorem dX10_init_26 : decode cX10_init 26 = .ok (.putfield 21, 3) := by decide +kernel
theorem dX10_init_29 : decode cX10_init 29 = .ok (.aload_n 0, 1) := by decide +kernel
theorem dX10_init_30 : decode cX10_init 30 = .ok (.bipush 20, 2) := by decide +kernel
theorem dX10_init_32 : decode cX10_init 32 = .ok (.anewarray 25, 3) := by decide +kernel
theorem dX10_init_35 : decode cX10_init 35 = .ok (.putfield 27, 3) := by decide +kernel
theorem dX10_init_38 : decode cX10_init 38 = .ok (.aload_n 0, 1) := by decide +kernel
theorem dX10_init_39 : decode cX10_init 39 = .ok (.new 31, 3) := by decide +kernel
theorem dX10_init_42 : decode cX10_init 42 = .ok (.dup, 1) := by decide +kernel
theorem dX10_init_43 : decode cX10_init 43 = .ok (.invokespecial 33, 3) := by decide +kernel
theorem dX10_init_46 : decode cX10_init 46 = .ok (.putfield 34, 3) := by decide +kernel
theorem dX10_init_49 : decode cX10_init 49 = .ok (.aload_n 0, 1) := by decide +kernel
theorem dX10_init_50 : decode cX10_init 50 = .ok (.new 38, 3) := by decide +kernel
theorem dX10_init_53 : decode cX10_init 53 = .ok (.dup, 1) := by decide +kernel
theorem dX10_init_54 : decode cX10_init 54 = .ok (.invokespecial 40, 3) := by decide +kernel
theorem dX10_init_57 : decode cX10_init 57 = .ok (.putfield 41, 3) := by decide +kernel
theorem dX10_init_60 : decode cX10_init 60 = .ok (.aload_n 0, 1) := by decide +kernel
theorem dX10_init_61 : decode cX10_init 61 = .ok (.new 45, 3) := by decide +kernel
theorem dX10_init_64 : decode cX10_init 64 = .ok (.dup, 1) := by decide +kernel
theorem dX10_init_65 : decode cX10_init 65 = .ok (.invokespecial 47, 3) := by decide +kernel
theorem dX10_init_68 : decode cX10_init 68 = .ok (.putfield 48, 3) := by decide +kernel
theorem dX10_init_71 : decode cX10_init 71 = .ok (.aload_n 0, 1) := by decide +kernel
theorem dX10_init_72 : decode cX10_init 72 = .ok (.new 52, 3) := by decide +kernel
theorem dX10_init_75 : decode cX10_init 75 = .ok (.dup, 1) := by decide +kernel
theorem dX10_init_76 : decode cX10_init 76 = .ok (.invokespecial 54, 3) := by decide +kernel
theorem dX10_init_79 : decode cX10_init 79 = .ok (.putfield 55, 3) := by decide +kernel
theorem dX10_init_82 : decode cX10_init 82 = .ok (.aload_n 0, 1) := by decide +kernel
theorem dX10_init_83 : decode cX10_init 83 = .ok (.new 59, 3) := by decide +kernel
theorem dX10_init_86 : decode cX10_init 86 = .ok (.dup, 1) := by decide +kernel
theorem dX10_init_87 : decode cX10_init 87 = .ok (.invokespecial 61, 3) := by decide +kernel
theorem dX10_init_90 : decode cX10_init 90 = .ok (.putfield 62, 3) := by decide +kernel
theorem dX10_init_93 : decode cX10_init 93 = .ok (.aload_n 0, 1) := by decide +kernel
theorem dX10_init_94 : decode cX10_init 94 = .ok (.new 66, 3) := by decide +kernel
theorem dX10_init_97 : decode cX10_init 97 = .ok (.dup, 1) := by decide +kernel
theorem dX10_init_98 : decode cX10_init 98 = .ok (.invokespecial 68, 3) := by decide +kernel
theorem dX10_init_101 : decode cX10_init 101 = .ok (.putfield 69, 3) := by decide +kernel
theorem dX10_init_104 : decode cX10_init 104 = .ok (.aload_n 0, 1) := by decide +kernel
theorem dX10_init_105 : decode cX10_init 105 = .ok (.new 66, 3) := by decide +kernel
theorem dX10_init_108 : decode cX10_init 108 = .ok (.dup, 1) := by decide +kernel
theorem dX10_init_109 : decode cX10_init 109 = .ok (.invokespecial 68, 3) := by decide +kernel
theorem dX10_init_112 : decode cX10_init 112 = .ok (.putfield 73, 3) := by decide +kernel
theorem dX10_init_115 : decode cX10_init 115 = .ok (.aload_n 0, 1) := by decide +kernel
theorem dX10_init_116 : decode cX10_init 116 = .ok (.new 66, 3) := by decide +kernel
theorem dX10_init_119 : decode cX10_init 119 = .ok (.dup, 1) := by decide +kernel
theorem dX10_init_120 : decode cX10_init 120 = .ok (.invokespecial 68, 3) := by decide +kernel
theorem dX10_init_123 : decode cX10_init 123 = .ok (.putfield 76, 3) := by decide +kernel
theorem dX10_init_126 : decode cX10_init 126 = .ok (.iconst 0, 1) := by decide +kernel
theorem dX10_init_127 : decode cX10_init 127 = .ok (.istore_n 1, 1) := by decide +kernel
theorem dX10_init_128 : decode cX10_init 128 = .ok (.iload_n 1, 1) := by decide +kernel
theorem dX10_init_129 : decode cX10_init 129 = .ok (.iconst 4, 1) := by decide +kernel
theorem dX10_init_130 : decode cX10_init 130 = .ok (.if_icmp .ge 22, 3) := by decide +kernel
theorem dX10_init_133 : decode cX10_init 133 = .ok (.aload_n 0, 1) := by decide +kernel
theorem dX10_init_134 : decode cX10_init 134 = .ok (.getfield 21, 3) := by decide +kernel
theorem dX10_init_137 : decode cX10_init 137 = .ok (.iload_n 1, 1) := by decide +kernel
theorem dX10_init_138 : decode cX10_init 138 = .ok (.new 19, 3) := by decide +kernel
theorem dX10_init_141 : decode cX10_init 141 = .ok (.dup, 1) := by decide +kernel
theorem dX10_init_142 : decode cX10_init 142 = .ok (.invokespecial 79, 3) := by decide +kernel
theorem dX10_init_145 : decode cX10_init 145 = .ok (.aastore, 1) := by decide +kernel
theorem dX10_init_146 : decode cX10_init 146 = .ok (.iinc 1 1, 3) := by decide +kernel
theorem dX10_init_149 : decode cX10_init 149 = .ok (.goto (-21), 3) := by decide +kernel
theorem dX10_init_152 : decode cX10_init 152 = .ok (.return_, 1) := by decide +kernel
theorem dX10_lies_0 : decode cX10_lies 0 = .ok (.iload_n 1, 1) := by decide +kernel
theorem dX10_lies_1 : decode cX10_lies 1 = .ok (.iconst 1, 1) := by decide +kernel
theorem dX10_lies_2 : decode cX10_lies 2 = .ok (.if_icmp .lt 18, 3) := by decide +kernel
theorem dX10_lies_5 : decode cX10_lies 5 = .ok (.iload_n 1, 1) := by decide +kernel
theorem dX10_lies_6 : decode cX10_lies 6 = .ok (.bipush 8, 2) := by decide +kernel
theorem dX10_lies_8 : decode cX10_lies 8 = .ok (.if_icmp .ge 12, 3) := by decide +kernel
theorem dX10_lies_11 : decode cX10_lies 11 = .ok (.iload_n 2, 1) := by decide +kernel
theorem dX10_lies_12 : decode cX10_lies 12 = .ok (.ifCond .lt 8, 3) := by decide +kernel
theorem dX10_lies_15 : decode cX10_lies 15 = .ok (.iload_n 2, 1) := by decide +kernel
theorem dX10_lies_16 : decode cX10_lies 16 = .ok (.iload_n 1, 1) := by decide +kernel
theorem dX10_lies_17 : decode cX10_lies 17 = .ok (.if_icmp .lt 7, 3) := by decide +kernel
theorem dX10_lies_20 : decode cX10_lies 20 = .ok (.ldc2_w 80, 3) := by decide +kernel
theorem dX10_lies_23 : decode cX10_lies 23 = .ok (.lreturn, 1) := by decide +kernel
theorem dX10_lies_24 : decode cX10_lies 24 = .ok (.aload_n 0, 1) := by decide +kernel
theorem dX10_lies_25 : decode cX10_lies 25 = .ok (.getfield 9, 3) := by decide +kernel
theorem dX10_lies_28 : decode cX10_lies 28 = .ok (.iload_n 1, 1) := by decide +kernel
theorem dX10_lies_29 : decode cX10_lies 29 = .ok (.iaload, 1) := by decide +kernel
theorem dX10_lies_30 : decode cX10_lies 30 = .ok (.istore_n 3, 1) := by decide +kernel
theorem dX10_lies_31 : decode cX10_lies 31 = .ok (.aload_n 0, 1) := by decide +kernel
theorem dX10_lies_32 : decode cX10_lies 32 = .ok (.getfield 9, 3) := by decide +kernel
theorem dX10_lies_35 : decode cX10_lies 35 = .ok (.iload_n 1, 1) := by decide +kernel
theorem dX10_lies_36 : decode cX10_lies 36 = .ok (.iload_n 2, 1) := by decide +kernel
theorem dX10_lies_37 : decode cX10_lies 37 = .ok (.iastore, 1) := by decide +kernel
theorem dX10_lies_38 : decode cX10_lies 38 = .ok (.iload_n 3, 1) := by decide +kernel
theorem dX10_lies_39 : decode cX10_lies 39 = .ok (.i2l, 1) := by decide +kernel
theorem dX10_lies_40 : decode cX10_lies 40 = .ok (.lreturn, 1) := by decide +kernel
theorem dX10_within_0 : decode cX10_within 0 = .ok (.iload_n 1, 1) := by decide +kernel
theorem dX10_within_1 : decode cX10_within 1 = .ok (.invokestatic 82, 3) := by decide +kernel
theorem dX10_within_4 : decode cX10_within 4 = .ok (.ifCond .eq 10, 3) := by decide +kernel
theorem dX10_within_7 : decode cX10_within 7 = .ok (.iload_n 2, 1) := by decide +kernel
theorem dX10_within_8 : decode cX10_within 8 = .ok (.invokestatic 82, 3) := by decide +kernel
theorem dX10_within_11 : decode cX10_within 11 = .ok (.ifCond .ne 7, 3) := by decide +kernel
theorem dX10_within_14 : decode cX10_within 14 = .ok (.ldc2_w 80, 3) := by decide +kernel
theorem dX10_within_17 : decode cX10_within 17 = .ok (.lreturn, 1) := by decide +kernel
theorem dX10_within_18 : decode cX10_within 18 = .ok (.aload_n 0, 1) := by decide +kernel
theorem dX10_within_19 : decode cX10_within 19 = .ok (.iload_n 1, 1) := by decide +kernel
theorem dX10_within_20 : decode cX10_within 20 = .ok (.iload_n 2, 1) := by decide +kernel
theorem dX10_within_21 : decode cX10_within 21 = .ok (.invokevirtual 86, 3) := by decide +kernel
theorem dX10_within_24 : decode cX10_within 24 = .ok (.ifCond .eq 7, 3) := by decide +kernel
theorem dX10_within_27 : decode cX10_within 27 = .ok (.lconst 1, 1) := by decide +kernel
theorem dX10_within_28 : decode cX10_within 28 = .ok (.goto 4, 3) := by decide +kernel
theorem dX10_within_31 : decode cX10_within 31 = .ok (.lconst 0, 1) := by decide +kernel
theorem dX10_within_32 : decode cX10_within 32 = .ok (.lreturn, 1) := by decide +kernel
theorem dX10_likeness_0 : decode cX10_likeness 0 = .ok (.iload_n 1, 1) := by decide +kernel
theorem dX10_likeness_1 : decode cX10_likeness 1 = .ok (.invokestatic 90, 3) := by decide +kernel
theorem dX10_likeness_4 : decode cX10_likeness 4 = .ok (.ifCond .eq 25, 3) := by decide +kernel
theorem dX10_likeness_7 : decode cX10_likeness 7 = .ok (.iload_n 2, 1) := by decide +kernel
