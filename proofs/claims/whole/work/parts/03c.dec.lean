theorem dX10_likeness_8 : decode cX10_likeness 8 = .ok (.invokestatic 93, 3) := by decide +kernel
theorem dX10_likeness_11 : decode cX10_likeness 11 = .ok (.ifCond .eq 18, 3) := by decide +kernel
theorem dX10_likeness_14 : decode cX10_likeness 14 = .ok (.iload_n 3, 1) := by decide +kernel
theorem dX10_likeness_15 : decode cX10_likeness 15 = .ok (.invokestatic 96, 3) := by decide +kernel
theorem dX10_likeness_18 : decode cX10_likeness 18 = .ok (.ifCond .eq 11, 3) := by decide +kernel
theorem dX10_likeness_21 : decode cX10_likeness 21 = .ok (.iload 4, 2) := by decide +kernel
theorem dX10_likeness_23 : decode cX10_likeness 23 = .ok (.invokestatic 96, 3) := by decide +kernel
theorem dX10_likeness_26 : decode cX10_likeness 26 = .ok (.ifCond .ne 7, 3) := by decide +kernel
theorem dX10_likeness_29 : decode cX10_likeness 29 = .ok (.ldc2_w 80, 3) := by decide +kernel
theorem dX10_likeness_32 : decode cX10_likeness 32 = .ok (.lreturn, 1) := by decide +kernel
theorem dX10_likeness_33 : decode cX10_likeness 33 = .ok (.aload_n 0, 1) := by decide +kernel
theorem dX10_likeness_34 : decode cX10_likeness 34 = .ok (.getfield 99, 3) := by decide +kernel
theorem dX10_likeness_37 : decode cX10_likeness 37 = .ok (.bipush 24, 2) := by decide +kernel
theorem dX10_likeness_39 : decode cX10_likeness 39 = .ok (.if_icmp .lt 7, 3) := by decide +kernel
theorem dX10_likeness_42 : decode cX10_likeness 42 = .ok (.ldc2_w 103, 3) := by decide +kernel
theorem dX10_likeness_45 : decode cX10_likeness 45 = .ok (.lreturn, 1) := by decide +kernel
theorem dX10_likeness_46 : decode cX10_likeness 46 = .ok (.aload_n 0, 1) := by decide +kernel
theorem dX10_likeness_47 : decode cX10_likeness 47 = .ok (.getfield 15, 3) := by decide +kernel
theorem dX10_likeness_50 : decode cX10_likeness 50 = .ok (.aload_n 0, 1) := by decide +kernel
theorem dX10_likeness_51 : decode cX10_likeness 51 = .ok (.getfield 99, 3) := by decide +kernel
theorem dX10_likeness_54 : decode cX10_likeness 54 = .ok (.new 13, 3) := by decide +kernel
theorem dX10_likeness_57 : decode cX10_likeness 57 = .ok (.dup, 1) := by decide +kernel
theorem dX10_likeness_58 : decode cX10_likeness 58 = .ok (.aload_n 0, 1) := by decide +kernel
theorem dX10_likeness_59 : decode cX10_likeness 59 = .ok (.getfield 99, 3) := by decide +kernel
theorem dX10_likeness_62 : decode cX10_likeness 62 = .ok (.iload_n 1, 1) := by decide +kernel
theorem dX10_likeness_63 : decode cX10_likeness 63 = .ok (.iload_n 2, 1) := by decide +kernel
theorem dX10_likeness_64 : decode cX10_likeness 64 = .ok (.iload_n 3, 1) := by decide +kernel
theorem dX10_likeness_65 : decode cX10_likeness 65 = .ok (.iload 4, 2) := by decide +kernel
theorem dX10_likeness_67 : decode cX10_likeness 67 = .ok (.invokespecial 105, 3) := by decide +kernel
theorem dX10_likeness_70 : decode cX10_likeness 70 = .ok (.aastore, 1) := by decide +kernel
theorem dX10_likeness_71 : decode cX10_likeness 71 = .ok (.aload_n 0, 1) := by decide +kernel
theorem dX10_likeness_72 : decode cX10_likeness 72 = .ok (.dup, 1) := by decide +kernel
theorem dX10_likeness_73 : decode cX10_likeness 73 = .ok (.getfield 99, 3) := by decide +kernel
theorem dX10_likeness_76 : decode cX10_likeness 76 = .ok (.dup_x1, 1) := by decide +kernel
theorem dX10_likeness_77 : decode cX10_likeness 77 = .ok (.iconst 1, 1) := by decide +kernel
theorem dX10_likeness_78 : decode cX10_likeness 78 = .ok (.iadd, 1) := by decide +kernel
theorem dX10_likeness_79 : decode cX10_likeness 79 = .ok (.putfield 99, 3) := by decide +kernel
theorem dX10_likeness_82 : decode cX10_likeness 82 = .ok (.i2l, 1) := by decide +kernel
theorem dX10_likeness_83 : decode cX10_likeness 83 = .ok (.lreturn, 1) := by decide +kernel
theorem dX10_holds_0 : decode cX10_holds 0 = .ok (.aload_n 0, 1) := by decide +kernel
theorem dX10_holds_1 : decode cX10_holds 1 = .ok (.iload_n 1, 1) := by decide +kernel
theorem dX10_holds_2 : decode cX10_holds 2 = .ok (.invokevirtual 108, 3) := by decide +kernel
theorem dX10_holds_5 : decode cX10_holds 5 = .ok (.astore 5, 2) := by decide +kernel
theorem dX10_holds_7 : decode cX10_holds 7 = .ok (.aload 5, 2) := by decide +kernel
theorem dX10_holds_9 : decode cX10_holds 9 = .ok (.ifnull 31, 3) := by decide +kernel
theorem dX10_holds_12 : decode cX10_holds 12 = .ok (.iload_n 2, 1) := by decide +kernel
theorem dX10_holds_13 : decode cX10_holds 13 = .ok (.invokestatic 82, 3) := by decide +kernel
theorem dX10_holds_16 : decode cX10_holds 16 = .ok (.ifCond .eq 24, 3) := by decide +kernel
theorem dX10_holds_19 : decode cX10_holds 19 = .ok (.iload_n 3, 1) := by decide +kernel
theorem dX10_holds_20 : decode cX10_holds 20 = .ok (.invokestatic 112, 3) := by decide +kernel
theorem dX10_holds_23 : decode cX10_holds 23 = .ok (.ifCond .eq 17, 3) := by decide +kernel
theorem dX10_holds_26 : decode cX10_holds 26 = .ok (.iload 4, 2) := by decide +kernel
theorem dX10_holds_28 : decode cX10_holds 28 = .ok (.invokestatic 112, 3) := by decide +kernel
theorem dX10_holds_31 : decode cX10_holds 31 = .ok (.ifCond .eq 9, 3) := by decide +kernel
theorem dX10_holds_34 : decode cX10_holds 34 = .ok (.iload_n 3, 1) := by decide +kernel
theorem dX10_holds_35 : decode cX10_holds 35 = .ok (.iload 4, 2) := by decide +kernel
theorem dX10_holds_37 : decode cX10_holds 37 = .ok (.if_icmp .le 7, 3) := by decide +kernel
theorem dX10_holds_40 : decode cX10_holds 40 = .ok (.ldc2_w 80, 3) := by decide +kernel
theorem dX10_holds_43 : decode cX10_holds 43 = .ok (.lreturn, 1) := by decide +kernel
theorem dX10_holds_44 : decode cX10_holds 44 = .ok (.aload 5, 2) := by decide +kernel
theorem dX10_holds_46 : decode cX10_holds 46 = .ok (.iload_n 2, 1) := by decide +kernel
theorem dX10_holds_47 : decode cX10_holds 47 = .ok (.putfield 115, 3) := by decide +kernel
theorem dX10_holds_50 : decode cX10_holds 50 = .ok (.aload 5, 2) := by decide +kernel
theorem dX10_holds_52 : decode cX10_holds 52 = .ok (.iload_n 3, 1) := by decide +kernel
theorem dX10_holds_53 : decode cX10_holds 53 = .ok (.putfield 118, 3) := by decide +kernel
theorem dX10_holds_56 : decode cX10_holds 56 = .ok (.aload 5, 2) := by decide +kernel
theorem dX10_holds_58 : decode cX10_holds 58 = .ok (.iload 4, 2) := by decide +kernel
theorem dX10_holds_60 : decode cX10_holds 60 = .ok (.putfield 121, 3) := by decide +kernel
theorem dX10_holds_63 : decode cX10_holds 63 = .ok (.lconst 0, 1) := by decide +kernel
theorem dX10_holds_64 : decode cX10_holds 64 = .ok (.lreturn, 1) := by decide +kernel
theorem dX10_doubt_0 : decode cX10_doubt 0 = .ok (.aload_n 0, 1) := by decide +kernel
theorem dX10_doubt_1 : decode cX10_doubt 1 = .ok (.iload_n 1, 1) := by decide +kernel
theorem dX10_doubt_2 : decode cX10_doubt 2 = .ok (.invokevirtual 108, 3) := by decide +kernel
theorem dX10_doubt_5 : decode cX10_doubt 5 = .ok (.astore 4, 2) := by decide +kernel
theorem dX10_doubt_7 : decode cX10_doubt 7 = .ok (.aload 4, 2) := by decide +kernel
theorem dX10_doubt_9 : decode cX10_doubt 9 = .ok (.ifnull 24, 3) := by decide +kernel
theorem dX10_doubt_12 : decode cX10_doubt 12 = .ok (.iload_n 2, 1) := by decide +kernel
theorem dX10_doubt_13 : decode cX10_doubt 13 = .ok (.ifCond .lt 20, 3) := by decide +kernel
theorem dX10_doubt_16 : decode cX10_doubt 16 = .ok (.iload_n 2, 1) := by decide +kernel
theorem dX10_doubt_17 : decode cX10_doubt 17 = .ok (.bipush 100, 2) := by decide +kernel
theorem dX10_doubt_19 : decode cX10_doubt 19 = .ok (.if_icmp .gt 14, 3) := by decide +kernel
theorem dX10_doubt_22 : decode cX10_doubt 22 = .ok (.iload_n 3, 1) := by decide +kernel
theorem dX10_doubt_23 : decode cX10_doubt 23 = .ok (.ifCond .lt 10, 3) := by decide +kernel
theorem dX10_doubt_26 : decode cX10_doubt 26 = .ok (.iload_n 3, 1) := by decide +kernel
theorem dX10_doubt_27 : decode cX10_doubt 27 = .ok (.sipush 500, 3) := by decide +kernel
theorem dX10_doubt_30 : decode cX10_doubt 30 = .ok (.if_icmp .le 7, 3) := by decide +kernel
theorem dX10_doubt_33 : decode cX10_doubt 33 = .ok (.ldc2_w 80, 3) := by decide +kernel
theorem dX10_doubt_36 : decode cX10_doubt 36 = .ok (.lreturn, 1) := by decide +kernel
theorem dX10_doubt_37 : decode cX10_doubt 37 = .ok (.aload 4, 2) := by decide +kernel
theorem dX10_doubt_39 : decode cX10_doubt 39 = .ok (.iload_n 2, 1) := by decide +kernel
theorem dX10_doubt_40 : decode cX10_doubt 40 = .ok (.putfield 124, 3) := by decide +kernel
theorem dX10_doubt_43 : decode cX10_doubt 43 = .ok (.aload 4, 2) := by decide +kernel
theorem dX10_doubt_45 : decode cX10_doubt 45 = .ok (.iload_n 3, 1) := by decide +kernel
theorem dX10_doubt_46 : decode cX10_doubt 46 = .ok (.putfield 127, 3) := by decide +kernel
theorem dX10_doubt_49 : decode cX10_doubt 49 = .ok (.aload 4, 2) := by decide +kernel
theorem dX10_doubt_51 : decode cX10_doubt 51 = .ok (.invokevirtual 130, 3) := by decide +kernel
theorem dX10_doubt_54 : decode cX10_doubt 54 = .ok (.lconst 0, 1) := by decide +kernel
theorem dX10_doubt_55 : decode cX10_doubt 55 = .ok (.lreturn, 1) := by decide +kernel
theorem dX10_drop_0 : decode cX10_drop 0 = .ok (.aload_n 0, 1) := by decide +kernel
theorem dX10_drop_1 : decode cX10_drop 1 = .ok (.iload_n 1, 1) := by decide +kernel
theorem dX10_drop_2 : decode cX10_drop 2 = .ok (.invokevirtual 108, 3) := by decide +kernel
theorem dX10_drop_5 : decode cX10_drop 5 = .ok (.astore_n 3, 1) := by decide +kernel
theorem dX10_drop_6 : decode cX10_drop 6 = .ok (.aload_n 3, 1) := by decide +kernel
theorem dX10_drop_7 : decode cX10_drop 7 = .ok (.ifnull 12, 3) := by decide +kernel
theorem dX10_drop_10 : decode cX10_drop 10 = .ok (.iload_n 2, 1) := by decide +kernel
theorem dX10_drop_11 : decode cX10_drop 11 = .ok (.ifCond .lt 8, 3) := by decide +kernel
theorem dX10_drop_14 : decode cX10_drop 14 = .ok (.iload_n 2, 1) := by decide +kernel
theorem dX10_drop_15 : decode cX10_drop 15 = .ok (.iconst 1, 1) := by decide +kernel
theorem dX10_drop_16 : decode cX10_drop 16 = .ok (.if_icmp .le 7, 3) := by decide +kernel
theorem dX10_drop_19 : decode cX10_drop 19 = .ok (.ldc2_w 80, 3) := by decide +kernel
theorem dX10_drop_22 : decode cX10_drop 22 = .ok (.lreturn, 1) := by decide +kernel
theorem dX10_drop_23 : decode cX10_drop 23 = .ok (.aload_n 3, 1) := by decide +kernel
theorem dX10_drop_24 : decode cX10_drop 24 = .ok (.iconst 2, 1) := by decide +kernel
theorem dX10_drop_25 : decode cX10_drop 25 = .ok (.invokevirtual 133, 3) := by decide +kernel
theorem dX10_drop_28 : decode cX10_drop 28 = .ok (.ifCond .ne 7, 3) := by decide +kernel
theorem dX10_drop_31 : decode cX10_drop 31 = .ok (.ldc2_w 136, 3) := by decide +kernel
theorem dX10_drop_34 : decode cX10_drop 34 = .ok (.lreturn, 1) := by decide +kernel
theorem dX10_drop_35 : decode cX10_drop 35 = .ok (.aload_n 3, 1) := by decide +kernel
theorem dX10_drop_36 : decode cX10_drop 36 = .ok (.getfield 138, 3) := by decide +kernel
theorem dX10_drop_39 : decode cX10_drop 39 = .ok (.ifCond .eq 7, 3) := by decide +kernel
theorem dX10_drop_42 : decode cX10_drop 42 = .ok (.lconst 1, 1) := by decide +kernel
theorem dX10_drop_43 : decode cX10_drop 43 = .ok (.goto 4, 3) := by decide +kernel
theorem dX10_drop_46 : decode cX10_drop 46 = .ok (.lconst 0, 1) := by decide +kernel
theorem dX10_drop_47 : decode cX10_drop 47 = .ok (.lstore 4, 2) := by decide +kernel
theorem dX10_drop_49 : decode cX10_drop 49 = .ok (.aload_n 3, 1) := by decide +kernel
theorem dX10_drop_50 : decode cX10_drop 50 = .ok (.iload_n 2, 1) := by decide +kernel
theorem dX10_drop_51 : decode cX10_drop 51 = .ok (.iconst 1, 1) := by decide +kernel
theorem dX10_drop_52 : decode cX10_drop 52 = .ok (.if_icmp .ne 7, 3) := by decide +kernel
theorem dX10_drop_55 : decode cX10_drop 55 = .ok (.iconst 1, 1) := by decide +kernel
theorem dX10_drop_56 : decode cX10_drop 56 = .ok (.goto 4, 3) := by decide +kernel
theorem dX10_drop_59 : decode cX10_drop 59 = .ok (.iconst 0, 1) := by decide +kernel
theorem dX10_drop_60 : decode cX10_drop 60 = .ok (.putfield 138, 3) := by decide +kernel
theorem dX10_drop_63 : decode cX10_drop 63 = .ok (.lload 4, 2) := by decide +kernel
theorem dX10_drop_65 : decode cX10_drop 65 = .ok (.lreturn, 1) := by decide +kernel
theorem dX10_forget_0 : decode cX10_forget 0 = .ok (.aload_n 0, 1) := by decide +kernel
theorem dX10_forget_1 : decode cX10_forget 1 = .ok (.getfield 99, 3) := by decide +kernel
theorem dX10_forget_4 : decode cX10_forget 4 = .ok (.ifCond .ne 7, 3) := by decide +kernel
theorem dX10_forget_7 : decode cX10_forget 7 = .ok (.ldc2_w 136, 3) := by decide +kernel
theorem dX10_forget_10 : decode cX10_forget 10 = .ok (.lreturn, 1) := by decide +kernel
theorem dX10_forget_11 : decode cX10_forget 11 = .ok (.aload_n 0, 1) := by decide +kernel
theorem dX10_forget_12 : decode cX10_forget 12 = .ok (.dup, 1) := by decide +kernel
theorem dX10_forget_13 : decode cX10_forget 13 = .ok (.getfield 99, 3) := by decide +kernel
theorem dX10_forget_16 : decode cX10_forget 16 = .ok (.iconst 1, 1) := by decide +kernel
theorem dX10_forget_17 : decode cX10_forget 17 = .ok (.isub, 1) := by decide +kernel
theorem dX10_forget_18 : decode cX10_forget 18 = .ok (.putfield 99, 3) := by decide +kernel
theorem dX10_forget_21 : decode cX10_forget 21 = .ok (.aload_n 0, 1) := by decide +kernel
theorem dX10_forget_22 : decode cX10_forget 22 = .ok (.getfield 15, 3) := by decide +kernel
theorem dX10_forget_25 : decode cX10_forget 25 = .ok (.aload_n 0, 1) := by decide +kernel
theorem dX10_forget_26 : decode cX10_forget 26 = .ok (.getfield 99, 3) := by decide +kernel
theorem dX10_forget_29 : decode cX10_forget 29 = .ok (.aconst_null, 1) := by decide +kernel
theorem dX10_forget_30 : decode cX10_forget 30 = .ok (.aastore, 1) := by decide +kernel
theorem dX10_forget_31 : decode cX10_forget 31 = .ok (.aload_n 0, 1) := by decide +kernel
theorem dX10_forget_32 : decode cX10_forget 32 = .ok (.getfield 99, 3) := by decide +kernel
theorem dX10_forget_35 : decode cX10_forget 35 = .ok (.i2l, 1) := by decide +kernel
theorem dX10_forget_36 : decode cX10_forget 36 = .ok (.lreturn, 1) := by decide +kernel
theorem dX10_told_0 : decode cX10_told 0 = .ok (.aload_n 0, 1) := by decide +kernel
theorem dX10_told_1 : decode cX10_told 1 = .ok (.iload_n 1, 1) := by decide +kernel
theorem dX10_told_2 : decode cX10_told 2 = .ok (.invokevirtual 108, 3) := by decide +kernel
theorem dX10_told_5 : decode cX10_told 5 = .ok (.astore_n 3, 1) := by decide +kernel
theorem dX10_told_6 : decode cX10_told 6 = .ok (.aload_n 3, 1) := by decide +kernel
theorem dX10_told_7 : decode cX10_told 7 = .ok (.ifnonnull 7, 3) := by decide +kernel
theorem dX10_told_10 : decode cX10_told 10 = .ok (.ldc2_w 80, 3) := by decide +kernel
theorem dX10_told_13 : decode cX10_told 13 = .ok (.lreturn, 1) := by decide +kernel
theorem dX10_told_14 : decode cX10_told 14 = .ok (.iload_n 2, 1) := by decide +kernel
theorem dX10_told_15 : decode cX10_told 15 = .ok (.tableswitch 130 0 10 #[57, 63, 69, 75, 81, 87, 93, 99, 105, 111, 117], 57) := by decide +kernel
theorem dX10_told_72 : decode cX10_told 72 = .ok (.aload_n 3, 1) := by decide +kernel
theorem dX10_told_73 : decode cX10_told 73 = .ok (.getfield 142, 3) := by decide +kernel
theorem dX10_told_76 : decode cX10_told 76 = .ok (.i2l, 1) := by decide +kernel
theorem dX10_told_77 : decode cX10_told 77 = .ok (.lreturn, 1) := by decide +kernel
theorem dX10_told_78 : decode cX10_told 78 = .ok (.aload_n 3, 1) := by decide +kernel
theorem dX10_told_79 : decode cX10_told 79 = .ok (.getfield 145, 3) := by decide +kernel
theorem dX10_told_82 : decode cX10_told 82 = .ok (.i2l, 1) := by decide +kernel
theorem dX10_told_83 : decode cX10_told 83 = .ok (.lreturn, 1) := by decide +kernel
theorem dX10_told_84 : decode cX10_told 84 = .ok (.aload_n 3, 1) := by decide +kernel
theorem dX10_told_85 : decode cX10_told 85 = .ok (.getfield 148, 3) := by decide +kernel
theorem dX10_told_88 : decode cX10_told 88 = .ok (.i2l, 1) := by decide +kernel
theorem dX10_told_89 : decode cX10_told 89 = .ok (.lreturn, 1) := by decide +kernel
theorem dX10_told_90 : decode cX10_told 90 = .ok (.aload_n 3, 1) := by decide +kernel
theorem dX10_told_91 : decode cX10_told 91 = .ok (.getfield 151, 3) := by decide +kernel
theorem dX10_told_94 : decode cX10_told 94 = .ok (.i2l, 1) := by decide +kernel
theorem dX10_told_95 : decode cX10_told 95 = .ok (.lreturn, 1) := by decide +kernel
theorem dX10_told_96 : decode cX10_told 96 = .ok (.aload_n 3, 1) := by decide +kernel
theorem dX10_told_97 : decode cX10_told 97 = .ok (.getfield 154, 3) := by decide +kernel
theorem dX10_told_100 : decode cX10_told 100 = .ok (.i2l, 1) := by decide +kernel
theorem dX10_told_101 : decode cX10_told 101 = .ok (.lreturn, 1) := by decide +kernel
theorem dX10_told_102 : decode cX10_told 102 = .ok (.aload_n 3, 1) := by decide +kernel
theorem dX10_told_103 : decode cX10_told 103 = .ok (.getfield 115, 3) := by decide +kernel
theorem dX10_told_106 : decode cX10_told 106 = .ok (.i2l, 1) := by decide +kernel
theorem dX10_told_107 : decode cX10_told 107 = .ok (.lreturn, 1) := by decide +kernel
theorem dX10_told_108 : decode cX10_told 108 = .ok (.aload_n 3, 1) := by decide +kernel
theorem dX10_told_109 : decode cX10_told 109 = .ok (.getfield 118, 3) := by decide +kernel
theorem dX10_told_112 : decode cX10_told 112 = .ok (.i2l, 1) := by decide +kernel
theorem dX10_told_113 : decode cX10_told 113 = .ok (.lreturn, 1) := by decide +kernel
theorem dX10_told_114 : decode cX10_told 114 = .ok (.aload_n 3, 1) := by decide +kernel
theorem dX10_told_115 : decode cX10_told 115 = .ok (.getfield 121, 3) := by decide +kernel
theorem dX10_told_118 : decode cX10_told 118 = .ok (.i2l, 1) := by decide +kernel
theorem dX10_told_119 : decode cX10_told 119 = .ok (.lreturn, 1) := by decide +kernel
theorem dX10_told_120 : decode cX10_told 120 = .ok (.aload_n 3, 1) := by decide +kernel
theorem dX10_told_121 : decode cX10_told 121 = .ok (.getfield 124, 3) := by decide +kernel
theorem dX10_told_124 : decode cX10_told 124 = .ok (.i2l, 1) := by decide +kernel
theorem dX10_told_125 : decode cX10_told 125 = .ok (.lreturn, 1) := by decide +kernel
theorem dX10_told_126 : decode cX10_told 126 = .ok (.aload_n 3, 1) := by decide +kernel
theorem dX10_told_127 : decode cX10_told 127 = .ok (.getfield 127, 3) := by decide +kernel
theorem dX10_told_130 : decode cX10_told 130 = .ok (.i2l, 1) := by decide +kernel
theorem dX10_told_131 : decode cX10_told 131 = .ok (.lreturn, 1) := by decide +kernel
theorem dX10_told_132 : decode cX10_told 132 = .ok (.aload_n 3, 1) := by decide +kernel
theorem dX10_told_133 : decode cX10_told 133 = .ok (.getfield 138, 3) := by decide +kernel
theorem dX10_told_136 : decode cX10_told 136 = .ok (.ifCond .eq 7, 3) := by decide +kernel
theorem dX10_told_139 : decode cX10_told 139 = .ok (.lconst 1, 1) := by decide +kernel
theorem dX10_told_140 : decode cX10_told 140 = .ok (.goto 4, 3) := by decide +kernel
theorem dX10_told_143 : decode cX10_told 143 = .ok (.lconst 0, 1) := by decide +kernel
theorem dX10_told_144 : decode cX10_told 144 = .ok (.lreturn, 1) := by decide +kernel
theorem dX10_told_145 : decode cX10_told 145 = .ok (.ldc2_w 80, 3) := by decide +kernel
theorem dX10_told_148 : decode cX10_told 148 = .ok (.lreturn, 1) := by decide +kernel
theorem dX10_isOf_0 : decode cX10_isOf 0 = .ok (.aload_n 0, 1) := by decide +kernel
theorem dX10_isOf_1 : decode cX10_isOf 1 = .ok (.iload_n 1, 1) := by decide +kernel
theorem dX10_isOf_2 : decode cX10_isOf 2 = .ok (.invokevirtual 108, 3) := by decide +kernel
theorem dX10_isOf_5 : decode cX10_isOf 5 = .ok (.astore_n 3, 1) := by decide +kernel
theorem dX10_isOf_6 : decode cX10_isOf 6 = .ok (.aload_n 3, 1) := by decide +kernel
theorem dX10_isOf_7 : decode cX10_isOf 7 = .ok (.ifnull 10, 3) := by decide +kernel
theorem dX10_isOf_10 : decode cX10_isOf 10 = .ok (.iload_n 2, 1) := by decide +kernel
theorem dX10_isOf_11 : decode cX10_isOf 11 = .ok (.invokestatic 90, 3) := by decide +kernel
theorem dX10_isOf_14 : decode cX10_isOf 14 = .ok (.ifCond .ne 7, 3) := by decide +kernel
theorem dX10_isOf_17 : decode cX10_isOf 17 = .ok (.ldc2_w 80, 3) := by decide +kernel
theorem dX10_isOf_20 : decode cX10_isOf 20 = .ok (.lreturn, 1) := by decide +kernel
theorem dX10_isOf_21 : decode cX10_isOf 21 = .ok (.aload_n 3, 1) := by decide +kernel
theorem dX10_isOf_22 : decode cX10_isOf 22 = .ok (.iload_n 2, 1) := by decide +kernel
theorem dX10_isOf_23 : decode cX10_isOf 23 = .ok (.invokevirtual 133, 3) := by decide +kernel
theorem dX10_isOf_26 : decode cX10_isOf 26 = .ok (.ifCond .eq 7, 3) := by decide +kernel
theorem dX10_isOf_29 : decode cX10_isOf 29 = .ok (.lconst 1, 1) := by decide +kernel
theorem dX10_isOf_30 : decode cX10_isOf 30 = .ok (.goto 4, 3) := by decide +kernel
theorem dX10_isOf_33 : decode cX10_isOf 33 = .ok (.lconst 0, 1) := by decide +kernel
theorem dX10_isOf_34 : decode cX10_isOf 34 = .ok (.lreturn, 1) := by decide +kernel
theorem dX10_end_0 : decode cX10_end 0 = .ok (.aload_n 0, 1) := by decide +kernel
theorem dX10_end_1 : decode cX10_end 1 = .ok (.iload_n 1, 1) := by decide +kernel
theorem dX10_end_2 : decode cX10_end 2 = .ok (.invokevirtual 108, 3) := by decide +kernel
theorem dX10_end_5 : decode cX10_end 5 = .ok (.astore 4, 2) := by decide +kernel
theorem dX10_end_7 : decode cX10_end 7 = .ok (.aload 4, 2) := by decide +kernel
theorem dX10_end_9 : decode cX10_end 9 = .ok (.ifnull 17, 3) := by decide +kernel
theorem dX10_end_12 : decode cX10_end 12 = .ok (.iload_n 2, 1) := by decide +kernel
theorem dX10_end_13 : decode cX10_end 13 = .ok (.invokestatic 157, 3) := by decide +kernel
theorem dX10_end_16 : decode cX10_end 16 = .ok (.ifCond .eq 10, 3) := by decide +kernel
theorem dX10_end_19 : decode cX10_end 19 = .ok (.iload_n 3, 1) := by decide +kernel
theorem dX10_end_20 : decode cX10_end 20 = .ok (.invokestatic 157, 3) := by decide +kernel
theorem dX10_end_23 : decode cX10_end 23 = .ok (.ifCond .ne 7, 3) := by decide +kernel
theorem dX10_end_26 : decode cX10_end 26 = .ok (.ldc2_w 80, 3) := by decide +kernel
theorem dX10_end_29 : decode cX10_end 29 = .ok (.lreturn, 1) := by decide +kernel
theorem dX10_end_30 : decode cX10_end 30 = .ok (.aload 4, 2) := by decide +kernel
theorem dX10_end_32 : decode cX10_end 32 = .ok (.getfield 160, 3) := by decide +kernel
theorem dX10_end_35 : decode cX10_end 35 = .ok (.aload 4, 2) := by decide +kernel
theorem dX10_end_37 : decode cX10_end 37 = .ok (.getfield 163, 3) := by decide +kernel
theorem dX10_end_40 : decode cX10_end 40 = .ok (.iload_n 2, 1) := by decide +kernel
theorem dX10_end_41 : decode cX10_end 41 = .ok (.iload_n 3, 1) := by decide +kernel
theorem dX10_end_42 : decode cX10_end 42 = .ok (.invokestatic 166, 3) := by decide +kernel
theorem dX10_end_45 : decode cX10_end 45 = .ok (.lreturn, 1) := by decide +kernel
theorem dX10_counts_0 : decode cX10_counts 0 = .ok (.aload_n 0, 1) := by decide +kernel
theorem dX10_counts_1 : decode cX10_counts 1 = .ok (.iload_n 1, 1) := by decide +kernel
theorem dX10_counts_2 : decode cX10_counts 2 = .ok (.invokevirtual 108, 3) := by decide +kernel
theorem dX10_counts_5 : decode cX10_counts 5 = .ok (.astore 4, 2) := by decide +kernel
theorem dX10_counts_7 : decode cX10_counts 7 = .ok (.aload 4, 2) := by decide +kernel
theorem dX10_counts_9 : decode cX10_counts 9 = .ok (.ifnull 17, 3) := by decide +kernel
theorem dX10_counts_12 : decode cX10_counts 12 = .ok (.iload_n 2, 1) := by decide +kernel
theorem dX10_counts_13 : decode cX10_counts 13 = .ok (.invokestatic 82, 3) := by decide +kernel
theorem dX10_counts_16 : decode cX10_counts 16 = .ok (.ifCond .eq 10, 3) := by decide +kernel
theorem dX10_counts_19 : decode cX10_counts 19 = .ok (.iload_n 3, 1) := by decide +kernel
theorem dX10_counts_20 : decode cX10_counts 20 = .ok (.invokestatic 112, 3) := by decide +kernel
theorem dX10_counts_23 : decode cX10_counts 23 = .ok (.ifCond .ne 7, 3) := by decide +kernel
theorem dX10_counts_26 : decode cX10_counts 26 = .ok (.ldc2_w 80, 3) := by decide +kernel
theorem dX10_counts_29 : decode cX10_counts 29 = .ok (.lreturn, 1) := by decide +kernel
theorem dX10_counts_30 : decode cX10_counts 30 = .ok (.aload_n 0, 1) := by decide +kernel
theorem dX10_counts_31 : decode cX10_counts 31 = .ok (.aload 4, 2) := by decide +kernel
theorem dX10_counts_33 : decode cX10_counts 33 = .ok (.iload_n 2, 1) := by decide +kernel
theorem dX10_counts_34 : decode cX10_counts 34 = .ok (.iload_n 3, 1) := by decide +kernel
theorem dX10_counts_35 : decode cX10_counts 35 = .ok (.invokevirtual 170, 3) := by decide +kernel
theorem dX10_counts_38 : decode cX10_counts 38 = .ok (.ifCond .eq 7, 3) := by decide +kernel
theorem dX10_counts_41 : decode cX10_counts 41 = .ok (.lconst 1, 1) := by decide +kernel
theorem dX10_counts_42 : decode cX10_counts 42 = .ok (.goto 4, 3) := by decide +kernel
theorem dX10_counts_45 : decode cX10_counts 45 = .ok (.lconst 0, 1) := by decide +kernel
theorem dX10_counts_46 : decode cX10_counts 46 = .ok (.lreturn, 1) := by decide +kernel
theorem dX10_ways_0 : decode cX10_ways 0 = .ok (.iload_n 1, 1) := by decide +kernel
theorem dX10_ways_1 : decode cX10_ways 1 = .ok (.invokestatic 93, 3) := by decide +kernel
theorem dX10_ways_4 : decode cX10_ways 4 = .ok (.ifCond .eq 10, 3) := by decide +kernel
theorem dX10_ways_7 : decode cX10_ways 7 = .ok (.iload_n 2, 1) := by decide +kernel
theorem dX10_ways_8 : decode cX10_ways 8 = .ok (.invokestatic 174, 3) := by decide +kernel
theorem dX10_ways_11 : decode cX10_ways 11 = .ok (.ifCond .ne 7, 3) := by decide +kernel
theorem dX10_ways_14 : decode cX10_ways 14 = .ok (.ldc2_w 80, 3) := by decide +kernel
theorem dX10_ways_17 : decode cX10_ways 17 = .ok (.lreturn, 1) := by decide +kernel
theorem dX10_ways_18 : decode cX10_ways 18 = .ok (.aload_n 0, 1) := by decide +kernel
theorem dX10_ways_19 : decode cX10_ways 19 = .ok (.iload_n 2, 1) := by decide +kernel
theorem dX10_ways_20 : decode cX10_ways 20 = .ok (.invokevirtual 177, 3) := by decide +kernel
theorem dX10_ways_23 : decode cX10_ways 23 = .ok (.aload_n 0, 1) := by decide +kernel
theorem dX10_ways_24 : decode cX10_ways 24 = .ok (.getfield 41, 3) := by decide +kernel
theorem dX10_ways_27 : decode cX10_ways 27 = .ok (.lconst 0, 1) := by decide +kernel
theorem dX10_ways_28 : decode cX10_ways 28 = .ok (.putfield 181, 3) := by decide +kernel
theorem dX10_ways_31 : decode cX10_ways 31 = .ok (.aload_n 0, 1) := by decide +kernel
theorem dX10_ways_32 : decode cX10_ways 32 = .ok (.getfield 34, 3) := by decide +kernel
theorem dX10_ways_35 : decode cX10_ways 35 = .ok (.iload_n 1, 1) := by decide +kernel
theorem dX10_ways_36 : decode cX10_ways 36 = .ok (.bipush 10, 2) := by decide +kernel
theorem dX10_ways_38 : decode cX10_ways 38 = .ok (.idiv, 1) := by decide +kernel
theorem dX10_ways_39 : decode cX10_ways 39 = .ok (.iload_n 1, 1) := by decide +kernel
theorem dX10_ways_40 : decode cX10_ways 40 = .ok (.bipush 10, 2) := by decide +kernel
theorem dX10_ways_42 : decode cX10_ways 42 = .ok (.irem, 1) := by decide +kernel
theorem dX10_ways_43 : decode cX10_ways 43 = .ok (.aload_n 0, 1) := by decide +kernel
theorem dX10_ways_44 : decode cX10_ways 44 = .ok (.getfield 41, 3) := by decide +kernel
theorem dX10_ways_47 : decode cX10_ways 47 = .ok (.invokevirtual 185, 3) := by decide +kernel
theorem dX10_ways_50 : decode cX10_ways 50 = .ok (.aload_n 0, 1) := by decide +kernel
theorem dX10_ways_51 : decode cX10_ways 51 = .ok (.getfield 41, 3) := by decide +kernel
theorem dX10_ways_54 : decode cX10_ways 54 = .ok (.getfield 181, 3) := by decide +kernel
theorem dX10_ways_57 : decode cX10_ways 57 = .ok (.lreturn, 1) := by decide +kernel
theorem dX10_way_0 : decode cX10_way 0 = .ok (.iload_n 1, 1) := by decide +kernel
theorem dX10_way_1 : decode cX10_way 1 = .ok (.invokestatic 93, 3) := by decide +kernel
theorem dX10_way_4 : decode cX10_way 4 = .ok (.ifCond .eq 19, 3) := by decide +kernel
theorem dX10_way_7 : decode cX10_way 7 = .ok (.iload_n 2, 1) := by decide +kernel
theorem dX10_way_8 : decode cX10_way 8 = .ok (.invokestatic 174, 3) := by decide +kernel
theorem dX10_way_11 : decode cX10_way 11 = .ok (.ifCond .eq 12, 3) := by decide +kernel
theorem dX10_way_14 : decode cX10_way 14 = .ok (.iload_n 3, 1) := by decide +kernel
theorem dX10_way_15 : decode cX10_way 15 = .ok (.ifCond .lt 8, 3) := by decide +kernel
theorem dX10_way_18 : decode cX10_way 18 = .ok (.iload 4, 2) := by decide +kernel
theorem dX10_way_20 : decode cX10_way 20 = .ok (.ifCond .ge 7, 3) := by decide +kernel
theorem dX10_way_23 : decode cX10_way 23 = .ok (.ldc2_w 80, 3) := by decide +kernel
theorem dX10_way_26 : decode cX10_way 26 = .ok (.lreturn, 1) := by decide +kernel
theorem dX10_way_27 : decode cX10_way 27 = .ok (.aload_n 0, 1) := by decide +kernel
theorem dX10_way_28 : decode cX10_way 28 = .ok (.iload_n 2, 1) := by decide +kernel
theorem dX10_way_29 : decode cX10_way 29 = .ok (.invokevirtual 177, 3) := by decide +kernel
theorem dX10_way_32 : decode cX10_way 32 = .ok (.aload_n 0, 1) := by decide +kernel
theorem dX10_way_33 : decode cX10_way 33 = .ok (.getfield 34, 3) := by decide +kernel
theorem dX10_way_36 : decode cX10_way 36 = .ok (.iload_n 1, 1) := by decide +kernel
theorem dX10_way_37 : decode cX10_way 37 = .ok (.bipush 10, 2) := by decide +kernel
theorem dX10_way_39 : decode cX10_way 39 = .ok (.idiv, 1) := by decide +kernel
theorem dX10_way_40 : decode cX10_way 40 = .ok (.iload_n 1, 1) := by decide +kernel
theorem dX10_way_41 : decode cX10_way 41 = .ok (.bipush 10, 2) := by decide +kernel
theorem dX10_way_43 : decode cX10_way 43 = .ok (.irem, 1) := by decide +kernel
theorem dX10_way_44 : decode cX10_way 44 = .ok (.iload_n 3, 1) := by decide +kernel
theorem dX10_way_45 : decode cX10_way 45 = .ok (.aload_n 0, 1) := by decide +kernel
theorem dX10_way_46 : decode cX10_way 46 = .ok (.getfield 48, 3) := by decide +kernel
theorem dX10_way_49 : decode cX10_way 49 = .ok (.invokevirtual 189, 3) := by decide +kernel
theorem dX10_way_52 : decode cX10_way 52 = .ok (.ifCond .eq 15, 3) := by decide +kernel
theorem dX10_way_55 : decode cX10_way 55 = .ok (.iload 4, 2) := by decide +kernel
theorem dX10_way_57 : decode cX10_way 57 = .ok (.aload_n 0, 1) := by decide +kernel
theorem dX10_way_58 : decode cX10_way 58 = .ok (.getfield 34, 3) := by decide +kernel
theorem dX10_way_61 : decode cX10_way 61 = .ok (.getfield 193, 3) := by decide +kernel
theorem dX10_way_64 : decode cX10_way 64 = .ok (.if_icmp .lt 7, 3) := by decide +kernel
theorem dX10_way_67 : decode cX10_way 67 = .ok (.ldc2_w 196, 3) := by decide +kernel
theorem dX10_way_70 : decode cX10_way 70 = .ok (.lreturn, 1) := by decide +kernel
theorem dX10_way_71 : decode cX10_way 71 = .ok (.aload_n 0, 1) := by decide +kernel
theorem dX10_way_72 : decode cX10_way 72 = .ok (.getfield 34, 3) := by decide +kernel
theorem dX10_way_75 : decode cX10_way 75 = .ok (.getfield 198, 3) := by decide +kernel
theorem dX10_way_78 : decode cX10_way 78 = .ok (.iload 4, 2) := by decide +kernel
theorem dX10_way_80 : decode cX10_way 80 = .ok (.iaload, 1) := by decide +kernel
theorem dX10_way_81 : decode cX10_way 81 = .ok (.i2l, 1) := by decide +kernel
theorem dX10_way_82 : decode cX10_way 82 = .ok (.lreturn, 1) := by decide +kernel
theorem dX10_factor_0 : decode cX10_factor 0 = .ok (.iload_n 1, 1) := by decide +kernel
theorem dX10_factor_1 : decode cX10_factor 1 = .ok (.invokestatic 93, 3) := by decide +kernel
theorem dX10_factor_4 : decode cX10_factor 4 = .ok (.ifCond .eq 25, 3) := by decide +kernel
theorem dX10_factor_7 : decode cX10_factor 7 = .ok (.iload_n 2, 1) := by decide +kernel
theorem dX10_factor_8 : decode cX10_factor 8 = .ok (.invokestatic 174, 3) := by decide +kernel
theorem dX10_factor_11 : decode cX10_factor 11 = .ok (.ifCond .eq 18, 3) := by decide +kernel
theorem dX10_factor_14 : decode cX10_factor 14 = .ok (.iload_n 3, 1) := by decide +kernel
theorem dX10_factor_15 : decode cX10_factor 15 = .ok (.invokestatic 157, 3) := by decide +kernel
theorem dX10_factor_18 : decode cX10_factor 18 = .ok (.ifCond .eq 11, 3) := by decide +kernel
theorem dX10_factor_21 : decode cX10_factor 21 = .ok (.iload 4, 2) := by decide +kernel
theorem dX10_factor_23 : decode cX10_factor 23 = .ok (.invokestatic 157, 3) := by decide +kernel
theorem dX10_factor_26 : decode cX10_factor 26 = .ok (.ifCond .ne 7, 3) := by decide +kernel
theorem dX10_factor_29 : decode cX10_factor 29 = .ok (.ldc2_w 80, 3) := by decide +kernel
theorem dX10_factor_32 : decode cX10_factor 32 = .ok (.lreturn, 1) := by decide +kernel
theorem dX10_factor_33 : decode cX10_factor 33 = .ok (.aload_n 0, 1) := by decide +kernel
theorem dX10_factor_34 : decode cX10_factor 34 = .ok (.iload_n 2, 1) := by decide +kernel
theorem dX10_factor_35 : decode cX10_factor 35 = .ok (.invokevirtual 177, 3) := by decide +kernel
theorem dX10_factor_38 : decode cX10_factor 38 = .ok (.aload_n 0, 1) := by decide +kernel
theorem dX10_factor_39 : decode cX10_factor 39 = .ok (.getfield 34, 3) := by decide +kernel
theorem dX10_factor_42 : decode cX10_factor 42 = .ok (.iload_n 1, 1) := by decide +kernel
theorem dX10_factor_43 : decode cX10_factor 43 = .ok (.bipush 10, 2) := by decide +kernel
theorem dX10_factor_45 : decode cX10_factor 45 = .ok (.idiv, 1) := by decide +kernel
theorem dX10_factor_46 : decode cX10_factor 46 = .ok (.iload_n 1, 1) := by decide +kernel
theorem dX10_factor_47 : decode cX10_factor 47 = .ok (.bipush 10, 2) := by decide +kernel
theorem dX10_factor_49 : decode cX10_factor 49 = .ok (.irem, 1) := by decide +kernel
theorem dX10_factor_50 : decode cX10_factor 50 = .ok (.iconst 0, 1) := by decide +kernel
theorem dX10_factor_51 : decode cX10_factor 51 = .ok (.aload_n 0, 1) := by decide +kernel
theorem dX10_factor_52 : decode cX10_factor 52 = .ok (.getfield 48, 3) := by decide +kernel
theorem dX10_factor_55 : decode cX10_factor 55 = .ok (.invokevirtual 189, 3) := by decide +kernel
theorem dX10_factor_58 : decode cX10_factor 58 = .ok (.ifCond .ne 7, 3) := by decide +kernel
theorem dX10_factor_61 : decode cX10_factor 61 = .ok (.ldc2_w 196, 3) := by decide +kernel
theorem dX10_factor_64 : decode cX10_factor 64 = .ok (.lreturn, 1) := by decide +kernel
theorem dX10_factor_65 : decode cX10_factor 65 = .ok (.aload_n 0, 1) := by decide +kernel
theorem dX10_factor_66 : decode cX10_factor 66 = .ok (.getfield 34, 3) := by decide +kernel
theorem dX10_factor_69 : decode cX10_factor 69 = .ok (.invokevirtual 201, 3) := by decide +kernel
theorem dX10_factor_72 : decode cX10_factor 72 = .ok (.aload_n 0, 1) := by decide +kernel
theorem dX10_factor_73 : decode cX10_factor 73 = .ok (.getfield 34, 3) := by decide +kernel
theorem dX10_factor_76 : decode cX10_factor 76 = .ok (.invokevirtual 204, 3) := by decide +kernel
theorem dX10_factor_79 : decode cX10_factor 79 = .ok (.iload_n 3, 1) := by decide +kernel
theorem dX10_factor_80 : decode cX10_factor 80 = .ok (.iload 4, 2) := by decide +kernel
theorem dX10_factor_82 : decode cX10_factor 82 = .ok (.invokestatic 166, 3) := by decide +kernel
theorem dX10_factor_85 : decode cX10_factor 85 = .ok (.lreturn, 1) := by decide +kernel
theorem dX10_span_0 : decode cX10_span 0 = .ok (.iload_n 1, 1) := by decide +kernel
theorem dX10_span_1 : decode cX10_span 1 = .ok (.invokestatic 93, 3) := by decide +kernel
theorem dX10_span_4 : decode cX10_span 4 = .ok (.ifCond .eq 25, 3) := by decide +kernel
theorem dX10_span_7 : decode cX10_span 7 = .ok (.iload_n 2, 1) := by decide +kernel
theorem dX10_span_8 : decode cX10_span 8 = .ok (.invokestatic 174, 3) := by decide +kernel
theorem dX10_span_11 : decode cX10_span 11 = .ok (.ifCond .eq 18, 3) := by decide +kernel
theorem dX10_span_14 : decode cX10_span 14 = .ok (.iload_n 3, 1) := by decide +kernel
theorem dX10_span_15 : decode cX10_span 15 = .ok (.invokestatic 157, 3) := by decide +kernel
theorem dX10_span_18 : decode cX10_span 18 = .ok (.ifCond .eq 11, 3) := by decide +kernel
theorem dX10_span_21 : decode cX10_span 21 = .ok (.iload 4, 2) := by decide +kernel
theorem dX10_span_23 : decode cX10_span 23 = .ok (.invokestatic 157, 3) := by decide +kernel
theorem dX10_span_26 : decode cX10_span 26 = .ok (.ifCond .ne 7, 3) := by decide +kernel
theorem dX10_span_29 : decode cX10_span 29 = .ok (.ldc2_w 80, 3) := by decide +kernel
theorem dX10_span_32 : decode cX10_span 32 = .ok (.lreturn, 1) := by decide +kernel
theorem dX10_span_33 : decode cX10_span 33 = .ok (.aload_n 0, 1) := by decide +kernel
theorem dX10_span_34 : decode cX10_span 34 = .ok (.iload_n 2, 1) := by decide +kernel
theorem dX10_span_35 : decode cX10_span 35 = .ok (.invokevirtual 177, 3) := by decide +kernel
theorem dX10_span_38 : decode cX10_span 38 = .ok (.aload_n 0, 1) := by decide +kernel
theorem dX10_span_39 : decode cX10_span 39 = .ok (.getfield 55, 3) := by decide +kernel
theorem dX10_span_42 : decode cX10_span 42 = .ok (.iconst 0, 1) := by decide +kernel
theorem dX10_span_43 : decode cX10_span 43 = .ok (.putfield 206, 3) := by decide +kernel
theorem dX10_span_46 : decode cX10_span 46 = .ok (.aload_n 0, 1) := by decide +kernel
theorem dX10_span_47 : decode cX10_span 47 = .ok (.getfield 34, 3) := by decide +kernel
theorem dX10_span_50 : decode cX10_span 50 = .ok (.iload_n 1, 1) := by decide +kernel
theorem dX10_span_51 : decode cX10_span 51 = .ok (.bipush 10, 2) := by decide +kernel
theorem dX10_span_53 : decode cX10_span 53 = .ok (.idiv, 1) := by decide +kernel
theorem dX10_span_54 : decode cX10_span 54 = .ok (.iload_n 1, 1) := by decide +kernel
theorem dX10_span_55 : decode cX10_span 55 = .ok (.bipush 10, 2) := by decide +kernel
theorem dX10_span_57 : decode cX10_span 57 = .ok (.irem, 1) := by decide +kernel
theorem dX10_span_58 : decode cX10_span 58 = .ok (.aload_n 0, 1) := by decide +kernel
theorem dX10_span_59 : decode cX10_span 59 = .ok (.getfield 55, 3) := by decide +kernel
theorem dX10_span_62 : decode cX10_span 62 = .ok (.invokevirtual 185, 3) := by decide +kernel
theorem dX10_span_65 : decode cX10_span 65 = .ok (.aload_n 0, 1) := by decide +kernel
theorem dX10_span_66 : decode cX10_span 66 = .ok (.getfield 55, 3) := by decide +kernel
theorem dX10_span_69 : decode cX10_span 69 = .ok (.getfield 206, 3) := by decide +kernel
theorem dX10_span_72 : decode cX10_span 72 = .ok (.ifCond .ne 7, 3) := by decide +kernel
theorem dX10_span_75 : decode cX10_span 75 = .ok (.ldc2_w 196, 3) := by decide +kernel
theorem dX10_span_78 : decode cX10_span 78 = .ok (.lreturn, 1) := by decide +kernel
theorem dX10_span_79 : decode cX10_span 79 = .ok (.aload_n 0, 1) := by decide +kernel
theorem dX10_span_80 : decode cX10_span 80 = .ok (.getfield 55, 3) := by decide +kernel
theorem dX10_span_83 : decode cX10_span 83 = .ok (.getfield 208, 3) := by decide +kernel
theorem dX10_span_86 : decode cX10_span 86 = .ok (.aload_n 0, 1) := by decide +kernel
theorem dX10_span_87 : decode cX10_span 87 = .ok (.getfield 55, 3) := by decide +kernel
theorem dX10_span_90 : decode cX10_span 90 = .ok (.getfield 209, 3) := by decide +kernel
theorem dX10_span_93 : decode cX10_span 93 = .ok (.iload_n 3, 1) := by decide +kernel
theorem dX10_span_94 : decode cX10_span 94 = .ok (.iload 4, 2) := by decide +kernel
theorem dX10_span_96 : decode cX10_span 96 = .ok (.invokestatic 166, 3) := by decide +kernel
theorem dX10_span_99 : decode cX10_span 99 = .ok (.lreturn, 1) := by decide +kernel
theorem dX10_quarrel_0 : decode cX10_quarrel 0 = .ok (.iload_n 1, 1) := by decide +kernel
theorem dX10_quarrel_1 : decode cX10_quarrel 1 = .ok (.invokestatic 174, 3) := by decide +kernel
theorem dX10_quarrel_4 : decode cX10_quarrel 4 = .ok (.ifCond .eq 7, 3) := by decide +kernel
theorem dX10_quarrel_7 : decode cX10_quarrel 7 = .ok (.iload_n 2, 1) := by decide +kernel
theorem dX10_quarrel_8 : decode cX10_quarrel 8 = .ok (.ifCond .ge 7, 3) := by decide +kernel
theorem dX10_quarrel_11 : decode cX10_quarrel 11 = .ok (.ldc2_w 80, 3) := by decide +kernel
theorem dX10_quarrel_14 : decode cX10_quarrel 14 = .ok (.lreturn, 1) := by decide +kernel
theorem dX10_quarrel_15 : decode cX10_quarrel 15 = .ok (.aload_n 0, 1) := by decide +kernel
theorem dX10_quarrel_16 : decode cX10_quarrel 16 = .ok (.iload_n 1, 1) := by decide +kernel
theorem dX10_quarrel_17 : decode cX10_quarrel 17 = .ok (.invokevirtual 177, 3) := by decide +kernel
theorem dX10_quarrel_20 : decode cX10_quarrel 20 = .ok (.aload_n 0, 1) := by decide +kernel
theorem dX10_quarrel_21 : decode cX10_quarrel 21 = .ok (.getfield 62, 3) := by decide +kernel
theorem dX10_quarrel_24 : decode cX10_quarrel 24 = .ok (.invokevirtual 210, 3) := by decide +kernel
theorem dX10_quarrel_27 : decode cX10_quarrel 27 = .ok (.aload_n 0, 1) := by decide +kernel
theorem dX10_quarrel_28 : decode cX10_quarrel 28 = .ok (.getfield 34, 3) := by decide +kernel
theorem dX10_quarrel_31 : decode cX10_quarrel 31 = .ok (.aload_n 0, 1) := by decide +kernel
theorem dX10_quarrel_32 : decode cX10_quarrel 32 = .ok (.getfield 62, 3) := by decide +kernel
theorem dX10_quarrel_35 : decode cX10_quarrel 35 = .ok (.invokevirtual 213, 3) := by decide +kernel
theorem dX10_quarrel_38 : decode cX10_quarrel 38 = .ok (.aload_n 0, 1) := by decide +kernel
theorem dX10_quarrel_39 : decode cX10_quarrel 39 = .ok (.getfield 62, 3) := by decide +kernel
theorem dX10_quarrel_42 : decode cX10_quarrel 42 = .ok (.getfield 217, 3) := by decide +kernel
theorem dX10_quarrel_45 : decode cX10_quarrel 45 = .ok (.ifCond .eq 7, 3) := by decide +kernel
theorem dX10_quarrel_48 : decode cX10_quarrel 48 = .ok (.ldc2_w 220, 3) := by decide +kernel
theorem dX10_quarrel_51 : decode cX10_quarrel 51 = .ok (.lreturn, 1) := by decide +kernel
theorem dX10_quarrel_52 : decode cX10_quarrel 52 = .ok (.iload_n 2, 1) := by decide +kernel
theorem dX10_quarrel_53 : decode cX10_quarrel 53 = .ok (.aload_n 0, 1) := by decide +kernel
theorem dX10_quarrel_54 : decode cX10_quarrel 54 = .ok (.getfield 62, 3) := by decide +kernel
theorem dX10_quarrel_57 : decode cX10_quarrel 57 = .ok (.getfield 222, 3) := by decide +kernel
theorem dX10_quarrel_60 : decode cX10_quarrel 60 = .ok (.if_icmp .ge 16, 3) := by decide +kernel
theorem dX10_quarrel_63 : decode cX10_quarrel 63 = .ok (.aload_n 0, 1) := by decide +kernel
theorem dX10_quarrel_64 : decode cX10_quarrel 64 = .ok (.getfield 62, 3) := by decide +kernel
theorem dX10_quarrel_67 : decode cX10_quarrel 67 = .ok (.getfield 223, 3) := by decide +kernel
theorem dX10_quarrel_70 : decode cX10_quarrel 70 = .ok (.iload_n 2, 1) := by decide +kernel
theorem dX10_quarrel_71 : decode cX10_quarrel 71 = .ok (.iaload, 1) := by decide +kernel
theorem dX10_quarrel_72 : decode cX10_quarrel 72 = .ok (.i2l, 1) := by decide +kernel
theorem dX10_quarrel_73 : decode cX10_quarrel 73 = .ok (.goto 6, 3) := by decide +kernel
theorem dX10_quarrel_76 : decode cX10_quarrel 76 = .ok (.ldc2_w 196, 3) := by decide +kernel
theorem dX10_quarrel_79 : decode cX10_quarrel 79 = .ok (.lreturn, 1) := by decide +kernel
theorem dX10_cure_0 : decode cX10_cure 0 = .ok (.iload_n 1, 1) := by decide +kernel
theorem dX10_cure_1 : decode cX10_cure 1 = .ok (.invokestatic 174, 3) := by decide +kernel
theorem dX10_cure_4 : decode cX10_cure 4 = .ok (.ifCond .eq 11, 3) := by decide +kernel
theorem dX10_cure_7 : decode cX10_cure 7 = .ok (.aload_n 0, 1) := by decide +kernel
theorem dX10_cure_8 : decode cX10_cure 8 = .ok (.iload_n 1, 1) := by decide +kernel
theorem dX10_cure_9 : decode cX10_cure 9 = .ok (.invokevirtual 224, 3) := by decide +kernel
theorem dX10_cure_12 : decode cX10_cure 12 = .ok (.goto 6, 3) := by decide +kernel
theorem dX10_cure_15 : decode cX10_cure 15 = .ok (.ldc2_w 80, 3) := by decide +kernel
theorem dX10_cure_18 : decode cX10_cure 18 = .ok (.lreturn, 1) := by decide +kernel
theorem dX10_heal_0 : decode cX10_heal 0 = .ok (.iload_n 1, 1) := by decide +kernel
theorem dX10_heal_1 : decode cX10_heal 1 = .ok (.invokestatic 174, 3) := by decide +kernel
theorem dX10_heal_4 : decode cX10_heal 4 = .ok (.ifCond .eq 11, 3) := by decide +kernel
theorem dX10_heal_7 : decode cX10_heal 7 = .ok (.aload_n 0, 1) := by decide +kernel
theorem dX10_heal_8 : decode cX10_heal 8 = .ok (.iload_n 1, 1) := by decide +kernel
theorem dX10_heal_9 : decode cX10_heal 9 = .ok (.invokevirtual 224, 3) := by decide +kernel
theorem dX10_heal_12 : decode cX10_heal 12 = .ok (.goto 6, 3) := by decide +kernel
theorem dX10_heal_15 : decode cX10_heal 15 = .ok (.ldc2_w 80, 3) := by decide +kernel
theorem dX10_heal_18 : decode cX10_heal 18 = .ok (.lstore_n 2, 1) := by decide +kernel
theorem dX10_heal_19 : decode cX10_heal 19 = .ok (.lload_n 2, 1) := by decide +kernel
theorem dX10_heal_20 : decode cX10_heal 20 = .ok (.lconst 0, 1) := by decide +kernel
theorem dX10_heal_21 : decode cX10_heal 21 = .ok (.lcmp, 1) := by decide +kernel
theorem dX10_heal_22 : decode cX10_heal 22 = .ok (.ifCond .ge 5, 3) := by decide +kernel
theorem dX10_heal_25 : decode cX10_heal 25 = .ok (.lload_n 2, 1) := by decide +kernel
theorem dX10_heal_26 : decode cX10_heal 26 = .ok (.lreturn, 1) := by decide +kernel
theorem dX10_heal_27 : decode cX10_heal 27 = .ok (.iconst 0, 1) := by decide +kernel
theorem dX10_heal_28 : decode cX10_heal 28 = .ok (.istore 4, 2) := by decide +kernel
theorem dX10_heal_30 : decode cX10_heal 30 = .ok (.iload 4, 2) := by decide +kernel
theorem dX10_heal_32 : decode cX10_heal 32 = .ok (.aload_n 0, 1) := by decide +kernel
theorem dX10_heal_33 : decode cX10_heal 33 = .ok (.getfield 99, 3) := by decide +kernel
theorem dX10_heal_36 : decode cX10_heal 36 = .ok (.if_icmp .ge 40, 3) := by decide +kernel
theorem dX10_heal_39 : decode cX10_heal 39 = .ok (.aload_n 0, 1) := by decide +kernel
theorem dX10_heal_40 : decode cX10_heal 40 = .ok (.getfield 15, 3) := by decide +kernel
theorem dX10_heal_43 : decode cX10_heal 43 = .ok (.iload 4, 2) := by decide +kernel
theorem dX10_heal_45 : decode cX10_heal 45 = .ok (.aaload, 1) := by decide +kernel
theorem dX10_heal_46 : decode cX10_heal 46 = .ok (.astore 5, 2) := by decide +kernel
theorem dX10_heal_48 : decode cX10_heal 48 = .ok (.aload 5, 2) := by decide +kernel
theorem dX10_heal_50 : decode cX10_heal 50 = .ok (.ifnull 20, 3) := by decide +kernel
theorem dX10_heal_53 : decode cX10_heal 53 = .ok (.lload_n 2, 1) := by decide +kernel
theorem dX10_heal_54 : decode cX10_heal 54 = .ok (.iload 4, 2) := by decide +kernel
theorem dX10_heal_56 : decode cX10_heal 56 = .ok (.lshr, 1) := by decide +kernel
theorem dX10_heal_57 : decode cX10_heal 57 = .ok (.lconst 1, 1) := by decide +kernel
theorem dX10_heal_58 : decode cX10_heal 58 = .ok (.land, 1) := by decide +kernel
theorem dX10_heal_59 : decode cX10_heal 59 = .ok (.lconst 1, 1) := by decide +kernel
theorem dX10_heal_60 : decode cX10_heal 60 = .ok (.lcmp, 1) := by decide +kernel
theorem dX10_heal_61 : decode cX10_heal 61 = .ok (.ifCond .ne 9, 3) := by decide +kernel
theorem dX10_heal_64 : decode cX10_heal 64 = .ok (.aload 5, 2) := by decide +kernel
theorem dX10_heal_66 : decode cX10_heal 66 = .ok (.iconst 1, 1) := by decide +kernel
theorem dX10_heal_67 : decode cX10_heal 67 = .ok (.putfield 138, 3) := by decide +kernel
theorem dX10_heal_70 : decode cX10_heal 70 = .ok (.iinc 4 1, 3) := by decide +kernel
theorem dX10_heal_73 : decode cX10_heal 73 = .ok (.goto (-43), 3) := by decide +kernel
theorem dX10_heal_76 : decode cX10_heal 76 = .ok (.lload_n 2, 1) := by decide +kernel
theorem dX10_heal_77 : decode cX10_heal 77 = .ok (.invokestatic 228, 3) := by decide +kernel
theorem dX10_heal_80 : decode cX10_heal 80 = .ok (.i2l, 1) := by decide +kernel
theorem dX10_heal_81 : decode cX10_heal 81 = .ok (.lreturn, 1) := by decide +kernel
theorem dX10_custom_0 : decode cX10_custom 0 = .ok (.aload_n 0, 1) := by decide +kernel
theorem dX10_custom_1 : decode cX10_custom 1 = .ok (.iload_n 1, 1) := by decide +kernel
theorem dX10_custom_2 : decode cX10_custom 2 = .ok (.invokevirtual 234, 3) := by decide +kernel
theorem dX10_custom_5 : decode cX10_custom 5 = .ok (.astore_n 3, 1) := by decide +kernel
theorem dX10_custom_6 : decode cX10_custom 6 = .ok (.aload_n 3, 1) := by decide +kernel
theorem dX10_custom_7 : decode cX10_custom 7 = .ok (.ifnull 8, 3) := by decide +kernel
theorem dX10_custom_10 : decode cX10_custom 10 = .ok (.iload_n 2, 1) := by decide +kernel
theorem dX10_custom_11 : decode cX10_custom 11 = .ok (.iconst 5, 1) := by decide +kernel
theorem dX10_custom_12 : decode cX10_custom 12 = .ok (.if_icmp .le 7, 3) := by decide +kernel
theorem dX10_custom_15 : decode cX10_custom 15 = .ok (.ldc2_w 80, 3) := by decide +kernel
theorem dX10_custom_18 : decode cX10_custom 18 = .ok (.lreturn, 1) := by decide +kernel
theorem dX10_custom_19 : decode cX10_custom 19 = .ok (.iload_n 2, 1) := by decide +kernel
theorem dX10_custom_20 : decode cX10_custom 20 = .ok (.ifCond .ge 7, 3) := by decide +kernel
theorem dX10_custom_23 : decode cX10_custom 23 = .ok (.ldc2_w 238, 3) := by decide +kernel
theorem dX10_custom_26 : decode cX10_custom 26 = .ok (.lreturn, 1) := by decide +kernel
theorem dX10_custom_27 : decode cX10_custom 27 = .ok (.aload_n 3, 1) := by decide +kernel
theorem dX10_custom_28 : decode cX10_custom 28 = .ok (.iload_n 2, 1) := by decide +kernel
theorem dX10_custom_29 : decode cX10_custom 29 = .ok (.invokevirtual 240, 3) := by decide +kernel
theorem dX10_custom_32 : decode cX10_custom 32 = .ok (.iload_n 2, 1) := by decide +kernel
theorem dX10_custom_33 : decode cX10_custom 33 = .ok (.i2l, 1) := by decide +kernel
theorem dX10_custom_34 : decode cX10_custom 34 = .ok (.lreturn, 1) := by decide +kernel
theorem dX10_step_0 : decode cX10_step 0 = .ok (.aload_n 0, 1) := by decide +kernel
theorem dX10_step_1 : decode cX10_step 1 = .ok (.iload_n 1, 1) := by decide +kernel
theorem dX10_step_2 : decode cX10_step 2 = .ok (.invokevirtual 234, 3) := by decide +kernel
theorem dX10_step_5 : decode cX10_step 5 = .ok (.astore 4, 2) := by decide +kernel
theorem dX10_step_7 : decode cX10_step 7 = .ok (.aload 4, 2) := by decide +kernel
theorem dX10_step_9 : decode cX10_step 9 = .ok (.ifnonnull 7, 3) := by decide +kernel
theorem dX10_step_12 : decode cX10_step 12 = .ok (.ldc2_w 80, 3) := by decide +kernel
theorem dX10_step_15 : decode cX10_step 15 = .ok (.lreturn, 1) := by decide +kernel
theorem dX10_step_16 : decode cX10_step 16 = .ok (.aload 4, 2) := by decide +kernel
theorem dX10_step_18 : decode cX10_step 18 = .ok (.getfield 242, 3) := by decide +kernel
theorem dX10_step_21 : decode cX10_step 21 = .ok (.ifCond .eq 7, 3) := by decide +kernel
theorem dX10_step_24 : decode cX10_step 24 = .ok (.ldc2_w 245, 3) := by decide +kernel
theorem dX10_step_27 : decode cX10_step 27 = .ok (.lreturn, 1) := by decide +kernel
theorem dX10_step_28 : decode cX10_step 28 = .ok (.iload_n 2, 1) := by decide +kernel
theorem dX10_step_29 : decode cX10_step 29 = .ok (.ifCond .lt 12, 3) := by decide +kernel
theorem dX10_step_32 : decode cX10_step 32 = .ok (.iload_n 2, 1) := by decide +kernel
theorem dX10_step_33 : decode cX10_step 33 = .ok (.aload 4, 2) := by decide +kernel
theorem dX10_step_35 : decode cX10_step 35 = .ok (.getfield 247, 3) := by decide +kernel
theorem dX10_step_38 : decode cX10_step 38 = .ok (.if_icmp .lt 7, 3) := by decide +kernel
theorem dX10_step_41 : decode cX10_step 41 = .ok (.ldc2_w 250, 3) := by decide +kernel
theorem dX10_step_44 : decode cX10_step 44 = .ok (.lreturn, 1) := by decide +kernel
theorem dX10_step_45 : decode cX10_step 45 = .ok (.iload_n 3, 1) := by decide +kernel
theorem dX10_step_46 : decode cX10_step 46 = .ok (.iconst 2, 1) := by decide +kernel
theorem dX10_step_47 : decode cX10_step 47 = .ok (.if_icmp .lt 10, 3) := by decide +kernel
theorem dX10_step_50 : decode cX10_step 50 = .ok (.iload_n 3, 1) := by decide +kernel
theorem dX10_step_51 : decode cX10_step 51 = .ok (.sipush 1000, 3) := by decide +kernel
theorem dX10_step_54 : decode cX10_step 54 = .ok (.if_icmp .le 7, 3) := by decide +kernel
theorem dX10_step_57 : decode cX10_step 57 = .ok (.ldc2_w 80, 3) := by decide +kernel
theorem dX10_step_60 : decode cX10_step 60 = .ok (.lreturn, 1) := by decide +kernel
theorem dX10_step_61 : decode cX10_step 61 = .ok (.aload 4, 2) := by decide +kernel
theorem dX10_step_63 : decode cX10_step 63 = .ok (.getfield 252, 3) := by decide +kernel
theorem dX10_step_66 : decode cX10_step 66 = .ok (.iload_n 2, 1) := by decide +kernel
theorem dX10_step_67 : decode cX10_step 67 = .ok (.iaload, 1) := by decide +kernel
theorem dX10_step_68 : decode cX10_step 68 = .ok (.istore 5, 2) := by decide +kernel
theorem dX10_step_70 : decode cX10_step 70 = .ok (.aload 4, 2) := by decide +kernel
theorem dX10_step_72 : decode cX10_step 72 = .ok (.getfield 252, 3) := by decide +kernel
theorem dX10_step_75 : decode cX10_step 75 = .ok (.iload_n 2, 1) := by decide +kernel
theorem dX10_step_76 : decode cX10_step 76 = .ok (.iload_n 3, 1) := by decide +kernel
theorem dX10_step_77 : decode cX10_step 77 = .ok (.iastore, 1) := by decide +kernel
theorem dX10_step_78 : decode cX10_step 78 = .ok (.iload 5, 2) := by decide +kernel
theorem dX10_step_80 : decode cX10_step 80 = .ok (.i2l, 1) := by decide +kernel
theorem dX10_step_81 : decode cX10_step 81 = .ok (.lreturn, 1) := by decide +kernel
theorem dX10_copy_0 : decode cX10_copy 0 = .ok (.aload_n 0, 1) := by decide +kernel
theorem dX10_copy_1 : decode cX10_copy 1 = .ok (.iload_n 1, 1) := by decide +kernel
theorem dX10_copy_2 : decode cX10_copy 2 = .ok (.invokevirtual 234, 3) := by decide +kernel
theorem dX10_copy_5 : decode cX10_copy 5 = .ok (.astore 4, 2) := by decide +kernel
theorem dX10_copy_7 : decode cX10_copy 7 = .ok (.aload_n 0, 1) := by decide +kernel
theorem dX10_copy_8 : decode cX10_copy 8 = .ok (.iload_n 2, 1) := by decide +kernel
theorem dX10_copy_9 : decode cX10_copy 9 = .ok (.invokevirtual 234, 3) := by decide +kernel
theorem dX10_copy_12 : decode cX10_copy 12 = .ok (.astore 5, 2) := by decide +kernel
theorem dX10_copy_14 : decode cX10_copy 14 = .ok (.aload 4, 2) := by decide +kernel
theorem dX10_copy_16 : decode cX10_copy 16 = .ok (.ifnull 8, 3) := by decide +kernel
theorem dX10_copy_19 : decode cX10_copy 19 = .ok (.aload 5, 2) := by decide +kernel
theorem dX10_copy_21 : decode cX10_copy 21 = .ok (.ifnonnull 7, 3) := by decide +kernel
theorem dX10_copy_24 : decode cX10_copy 24 = .ok (.ldc2_w 80, 3) := by decide +kernel
theorem dX10_copy_27 : decode cX10_copy 27 = .ok (.lreturn, 1) := by decide +kernel
theorem dX10_copy_28 : decode cX10_copy 28 = .ok (.aload 4, 2) := by decide +kernel
theorem dX10_copy_30 : decode cX10_copy 30 = .ok (.getfield 242, 3) := by decide +kernel
theorem dX10_copy_33 : decode cX10_copy 33 = .ok (.ifCond .ne 11, 3) := by decide +kernel
theorem dX10_copy_36 : decode cX10_copy 36 = .ok (.aload 5, 2) := by decide +kernel
theorem dX10_copy_38 : decode cX10_copy 38 = .ok (.getfield 242, 3) := by decide +kernel
theorem dX10_copy_41 : decode cX10_copy 41 = .ok (.ifCond .eq 7, 3) := by decide +kernel
theorem dX10_copy_44 : decode cX10_copy 44 = .ok (.ldc2_w 245, 3) := by decide +kernel
theorem dX10_copy_47 : decode cX10_copy 47 = .ok (.lreturn, 1) := by decide +kernel
theorem dX10_copy_48 : decode cX10_copy 48 = .ok (.iload_n 3, 1) := by decide +kernel
theorem dX10_copy_49 : decode cX10_copy 49 = .ok (.ifCond .lt 21, 3) := by decide +kernel
theorem dX10_copy_52 : decode cX10_copy 52 = .ok (.iload_n 3, 1) := by decide +kernel
theorem dX10_copy_53 : decode cX10_copy 53 = .ok (.aload 4, 2) := by decide +kernel
theorem dX10_copy_55 : decode cX10_copy 55 = .ok (.getfield 247, 3) := by decide +kernel
theorem dX10_copy_58 : decode cX10_copy 58 = .ok (.if_icmp .gt 12, 3) := by decide +kernel
theorem dX10_copy_61 : decode cX10_copy 61 = .ok (.iload_n 3, 1) := by decide +kernel
theorem dX10_copy_62 : decode cX10_copy 62 = .ok (.aload 5, 2) := by decide +kernel
theorem dX10_copy_64 : decode cX10_copy 64 = .ok (.getfield 247, 3) := by decide +kernel
theorem dX10_copy_67 : decode cX10_copy 67 = .ok (.if_icmp .le 7, 3) := by decide +kernel
theorem dX10_copy_70 : decode cX10_copy 70 = .ok (.ldc2_w 250, 3) := by decide +kernel
theorem dX10_copy_73 : decode cX10_copy 73 = .ok (.lreturn, 1) := by decide +kernel
theorem dX10_copy_74 : decode cX10_copy 74 = .ok (.iconst 0, 1) := by decide +kernel
theorem dX10_copy_75 : decode cX10_copy 75 = .ok (.istore 6, 2) := by decide +kernel
theorem dX10_copy_77 : decode cX10_copy 77 = .ok (.iload 6, 2) := by decide +kernel
theorem dX10_copy_79 : decode cX10_copy 79 = .ok (.iload_n 3, 1) := by decide +kernel
theorem dX10_copy_80 : decode cX10_copy 80 = .ok (.if_icmp .ge 25, 3) := by decide +kernel
theorem dX10_copy_83 : decode cX10_copy 83 = .ok (.aload 5, 2) := by decide +kernel
theorem dX10_copy_85 : decode cX10_copy 85 = .ok (.getfield 252, 3) := by decide +kernel
theorem dX10_copy_88 : decode cX10_copy 88 = .ok (.iload 6, 2) := by decide +kernel
theorem dX10_copy_90 : decode cX10_copy 90 = .ok (.aload 4, 2) := by decide +kernel
theorem dX10_copy_92 : decode cX10_copy 92 = .ok (.getfield 252, 3) := by decide +kernel
theorem dX10_copy_95 : decode cX10_copy 95 = .ok (.iload 6, 2) := by decide +kernel
theorem dX10_copy_97 : decode cX10_copy 97 = .ok (.iaload, 1) := by decide +kernel
theorem dX10_copy_98 : decode cX10_copy 98 = .ok (.iastore, 1) := by decide +kernel
theorem dX10_copy_99 : decode cX10_copy 99 = .ok (.iinc 6 1, 3) := by decide +kernel
theorem dX10_copy_102 : decode cX10_copy 102 = .ok (.goto (-25), 3) := by decide +kernel
theorem dX10_copy_105 : decode cX10_copy 105 = .ok (.iload_n 3, 1) := by decide +kernel
theorem dX10_copy_106 : decode cX10_copy 106 = .ok (.i2l, 1) := by decide +kernel
theorem dX10_copy_107 : decode cX10_copy 107 = .ok (.lreturn, 1) := by decide +kernel
theorem dX10_part_0 : decode cX10_part 0 = .ok (.aload_n 0, 1) := by decide +kernel
theorem dX10_part_1 : decode cX10_part 1 = .ok (.iload_n 1, 1) := by decide +kernel
theorem dX10_part_2 : decode cX10_part 2 = .ok (.invokevirtual 234, 3) := by decide +kernel
theorem dX10_part_5 : decode cX10_part 5 = .ok (.astore 5, 2) := by decide +kernel
theorem dX10_part_7 : decode cX10_part 7 = .ok (.aload 5, 2) := by decide +kernel
theorem dX10_part_9 : decode cX10_part 9 = .ok (.ifnull 19, 3) := by decide +kernel
theorem dX10_part_12 : decode cX10_part 12 = .ok (.lload_n 2, 1) := by decide +kernel
theorem dX10_part_13 : decode cX10_part 13 = .ok (.ldc2_w 255, 3) := by decide +kernel
theorem dX10_part_16 : decode cX10_part 16 = .ok (.lcmp, 1) := by decide +kernel
theorem dX10_part_17 : decode cX10_part 17 = .ok (.ifCond .lt 11, 3) := by decide +kernel
theorem dX10_part_20 : decode cX10_part 20 = .ok (.lload_n 2, 1) := by decide +kernel
theorem dX10_part_21 : decode cX10_part 21 = .ok (.ldc2_w 257, 3) := by decide +kernel
theorem dX10_part_24 : decode cX10_part 24 = .ok (.lcmp, 1) := by decide +kernel
theorem dX10_part_25 : decode cX10_part 25 = .ok (.ifCond .le 7, 3) := by decide +kernel
theorem dX10_part_28 : decode cX10_part 28 = .ok (.ldc2_w 80, 3) := by decide +kernel
theorem dX10_part_31 : decode cX10_part 31 = .ok (.lreturn, 1) := by decide +kernel
theorem dX10_part_32 : decode cX10_part 32 = .ok (.aload 5, 2) := by decide +kernel
theorem dX10_part_34 : decode cX10_part 34 = .ok (.getfield 242, 3) := by decide +kernel
theorem dX10_part_37 : decode cX10_part 37 = .ok (.ifCond .eq 7, 3) := by decide +kernel
theorem dX10_part_40 : decode cX10_part 40 = .ok (.ldc2_w 245, 3) := by decide +kernel
theorem dX10_part_43 : decode cX10_part 43 = .ok (.lreturn, 1) := by decide +kernel
theorem dX10_part_44 : decode cX10_part 44 = .ok (.iload 4, 2) := by decide +kernel
theorem dX10_part_46 : decode cX10_part 46 = .ok (.ifCond .lt 13, 3) := by decide +kernel
theorem dX10_part_49 : decode cX10_part 49 = .ok (.iload 4, 2) := by decide +kernel
theorem dX10_part_51 : decode cX10_part 51 = .ok (.aload 5, 2) := by decide +kernel
theorem dX10_part_53 : decode cX10_part 53 = .ok (.getfield 247, 3) := by decide +kernel
theorem dX10_part_56 : decode cX10_part 56 = .ok (.if_icmp .le 7, 3) := by decide +kernel
theorem dX10_part_59 : decode cX10_part 59 = .ok (.ldc2_w 250, 3) := by decide +kernel
theorem dX10_part_62 : decode cX10_part 62 = .ok (.lreturn, 1) := by decide +kernel
theorem dX10_part_63 : decode cX10_part 63 = .ok (.lload_n 2, 1) := by decide +kernel
theorem dX10_part_64 : decode cX10_part 64 = .ok (.lconst 0, 1) := by decide +kernel
theorem dX10_part_65 : decode cX10_part 65 = .ok (.lcmp, 1) := by decide +kernel
theorem dX10_part_66 : decode cX10_part 66 = .ok (.ifCond .ge 16, 3) := by decide +kernel
theorem dX10_part_69 : decode cX10_part 69 = .ok (.aload 5, 2) := by decide +kernel
theorem dX10_part_71 : decode cX10_part 71 = .ok (.lload_n 2, 1) := by decide +kernel
theorem dX10_part_72 : decode cX10_part 72 = .ok (.lneg, 1) := by decide +kernel
theorem dX10_part_73 : decode cX10_part 73 = .ok (.iload 4, 2) := by decide +kernel
theorem dX10_part_75 : decode cX10_part 75 = .ok (.invokevirtual 259, 3) := by decide +kernel
theorem dX10_part_78 : decode cX10_part 78 = .ok (.lneg, 1) := by decide +kernel
theorem dX10_part_79 : decode cX10_part 79 = .ok (.goto 11, 3) := by decide +kernel
theorem dX10_part_82 : decode cX10_part 82 = .ok (.aload 5, 2) := by decide +kernel
theorem dX10_part_84 : decode cX10_part 84 = .ok (.lload_n 2, 1) := by decide +kernel
theorem dX10_part_85 : decode cX10_part 85 = .ok (.iload 4, 2) := by decide +kernel
theorem dX10_part_87 : decode cX10_part 87 = .ok (.invokevirtual 259, 3) := by decide +kernel
theorem dX10_part_90 : decode cX10_part 90 = .ok (.lreturn, 1) := by decide +kernel
theorem dX10_whole_0 : decode cX10_whole 0 = .ok (.aload_n 0, 1) := by decide +kernel
theorem dX10_whole_1 : decode cX10_whole 1 = .ok (.iload_n 1, 1) := by decide +kernel
theorem dX10_whole_2 : decode cX10_whole 2 = .ok (.invokevirtual 234, 3) := by decide +kernel
theorem dX10_whole_5 : decode cX10_whole 5 = .ok (.astore 4, 2) := by decide +kernel
theorem dX10_whole_7 : decode cX10_whole 7 = .ok (.aload 4, 2) := by decide +kernel
theorem dX10_whole_9 : decode cX10_whole 9 = .ok (.ifnull 17, 3) := by decide +kernel
theorem dX10_whole_12 : decode cX10_whole 12 = .ok (.lload_n 2, 1) := by decide +kernel
theorem dX10_whole_13 : decode cX10_whole 13 = .ok (.lconst 0, 1) := by decide +kernel
theorem dX10_whole_14 : decode cX10_whole 14 = .ok (.lcmp, 1) := by decide +kernel
theorem dX10_whole_15 : decode cX10_whole 15 = .ok (.ifCond .lt 11, 3) := by decide +kernel
theorem dX10_whole_18 : decode cX10_whole 18 = .ok (.lload_n 2, 1) := by decide +kernel
theorem dX10_whole_19 : decode cX10_whole 19 = .ok (.ldc2_w 263, 3) := by decide +kernel
theorem dX10_whole_22 : decode cX10_whole 22 = .ok (.lcmp, 1) := by decide +kernel
theorem dX10_whole_23 : decode cX10_whole 23 = .ok (.ifCond .lt 7, 3) := by decide +kernel
theorem dX10_whole_26 : decode cX10_whole 26 = .ok (.ldc2_w 80, 3) := by decide +kernel
theorem dX10_whole_29 : decode cX10_whole 29 = .ok (.lreturn, 1) := by decide +kernel
theorem dX10_whole_30 : decode cX10_whole 30 = .ok (.aload 4, 2) := by decide +kernel
theorem dX10_whole_32 : decode cX10_whole 32 = .ok (.getfield 242, 3) := by decide +kernel
theorem dX10_whole_35 : decode cX10_whole 35 = .ok (.ifCond .eq 9, 3) := by decide +kernel
theorem dX10_whole_38 : decode cX10_whole 38 = .ok (.ldc2_w 245, 3) := by decide +kernel
theorem dX10_whole_41 : decode cX10_whole 41 = .ok (.goto 9, 3) := by decide +kernel
theorem dX10_whole_44 : decode cX10_whole 44 = .ok (.aload 4, 2) := by decide +kernel
theorem dX10_whole_46 : decode cX10_whole 46 = .ok (.lload_n 2, 1) := by decide +kernel
theorem dX10_whole_47 : decode cX10_whole 47 = .ok (.invokevirtual 265, 3) := by decide +kernel
theorem dX10_whole_50 : decode cX10_whole 50 = .ok (.lreturn, 1) := by decide +kernel
theorem dX10_line_0 : decode cX10_line 0 = .ok (.iload_n 1, 1) := by decide +kernel
theorem dX10_line_1 : decode cX10_line 1 = .ok (.invokestatic 269, 3) := by decide +kernel
theorem dX10_line_4 : decode cX10_line 4 = .ok (.ifCond .eq 25, 3) := by decide +kernel
theorem dX10_line_7 : decode cX10_line 7 = .ok (.iload_n 2, 1) := by decide +kernel
theorem dX10_line_8 : decode cX10_line 8 = .ok (.invokestatic 272, 3) := by decide +kernel
theorem dX10_line_11 : decode cX10_line 11 = .ok (.ifCond .eq 18, 3) := by decide +kernel
theorem dX10_line_14 : decode cX10_line 14 = .ok (.iload_n 3, 1) := by decide +kernel
theorem dX10_line_15 : decode cX10_line 15 = .ok (.invokestatic 82, 3) := by decide +kernel
theorem dX10_line_18 : decode cX10_line 18 = .ok (.ifCond .eq 11, 3) := by decide +kernel
theorem dX10_line_21 : decode cX10_line 21 = .ok (.iload 4, 2) := by decide +kernel
theorem dX10_line_23 : decode cX10_line 23 = .ok (.invokestatic 112, 3) := by decide +kernel
theorem dX10_line_26 : decode cX10_line 26 = .ok (.ifCond .ne 7, 3) := by decide +kernel
theorem dX10_line_29 : decode cX10_line 29 = .ok (.ldc2_w 80, 3) := by decide +kernel
theorem dX10_line_32 : decode cX10_line 32 = .ok (.lreturn, 1) := by decide +kernel
theorem dX10_line_33 : decode cX10_line 33 = .ok (.aload_n 0, 1) := by decide +kernel
theorem dX10_line_34 : decode cX10_line 34 = .ok (.getfield 275, 3) := by decide +kernel
theorem dX10_line_37 : decode cX10_line 37 = .ok (.bipush 20, 2) := by decide +kernel
theorem dX10_line_39 : decode cX10_line 39 = .ok (.if_icmp .lt 7, 3) := by decide +kernel
theorem dX10_line_42 : decode cX10_line 42 = .ok (.ldc2_w 103, 3) := by decide +kernel
theorem dX10_line_45 : decode cX10_line 45 = .ok (.lreturn, 1) := by decide +kernel
theorem dX10_line_46 : decode cX10_line 46 = .ok (.aload_n 0, 1) := by decide +kernel
theorem dX10_line_47 : decode cX10_line 47 = .ok (.getfield 27, 3) := by decide +kernel
theorem dX10_line_50 : decode cX10_line 50 = .ok (.aload_n 0, 1) := by decide +kernel
theorem dX10_line_51 : decode cX10_line 51 = .ok (.getfield 275, 3) := by decide +kernel
theorem dX10_line_54 : decode cX10_line 54 = .ok (.new 25, 3) := by decide +kernel
theorem dX10_line_57 : decode cX10_line 57 = .ok (.dup, 1) := by decide +kernel
theorem dX10_line_58 : decode cX10_line 58 = .ok (.iload_n 1, 1) := by decide +kernel
theorem dX10_line_59 : decode cX10_line 59 = .ok (.iload_n 2, 1) := by decide +kernel
theorem dX10_line_60 : decode cX10_line 60 = .ok (.iload_n 3, 1) := by decide +kernel
theorem dX10_line_61 : decode cX10_line 61 = .ok (.iload 4, 2) := by decide +kernel
theorem dX10_line_63 : decode cX10_line 63 = .ok (.invokespecial 278, 3) := by decide +kernel
theorem dX10_line_66 : decode cX10_line 66 = .ok (.aastore, 1) := by decide +kernel
theorem dX10_line_67 : decode cX10_line 67 = .ok (.aload_n 0, 1) := by decide +kernel
theorem dX10_line_68 : decode cX10_line 68 = .ok (.dup, 1) := by decide +kernel
theorem dX10_line_69 : decode cX10_line 69 = .ok (.getfield 275, 3) := by decide +kernel
theorem dX10_line_72 : decode cX10_line 72 = .ok (.dup_x1, 1) := by decide +kernel
theorem dX10_line_73 : decode cX10_line 73 = .ok (.iconst 1, 1) := by decide +kernel
theorem dX10_line_74 : decode cX10_line 74 = .ok (.iadd, 1) := by decide +kernel
theorem dX10_line_75 : decode cX10_line 75 = .ok (.putfield 275, 3) := by decide +kernel
theorem dX10_line_78 : decode cX10_line 78 = .ok (.i2l, 1) := by decide +kernel
theorem dX10_line_79 : decode cX10_line 79 = .ok (.lreturn, 1) := by decide +kernel
theorem dX10_amend_0 : decode cX10_amend 0 = .ok (.aload_n 0, 1) := by decide +kernel
theorem dX10_amend_1 : decode cX10_amend 1 = .ok (.iload_n 1, 1) := by decide +kernel
theorem dX10_amend_2 : decode cX10_amend 2 = .ok (.invokevirtual 281, 3) := by decide +kernel
theorem dX10_amend_5 : decode cX10_amend 5 = .ok (.astore_n 3, 1) := by decide +kernel
theorem dX10_amend_6 : decode cX10_amend 6 = .ok (.aload_n 3, 1) := by decide +kernel
theorem dX10_amend_7 : decode cX10_amend 7 = .ok (.ifnull 10, 3) := by decide +kernel
theorem dX10_amend_10 : decode cX10_amend 10 = .ok (.iload_n 2, 1) := by decide +kernel
theorem dX10_amend_11 : decode cX10_amend 11 = .ok (.invokestatic 269, 3) := by decide +kernel
theorem dX10_amend_14 : decode cX10_amend 14 = .ok (.ifCond .ne 7, 3) := by decide +kernel
theorem dX10_amend_17 : decode cX10_amend 17 = .ok (.ldc2_w 80, 3) := by decide +kernel
theorem dX10_amend_20 : decode cX10_amend 20 = .ok (.lreturn, 1) := by decide +kernel
theorem dX10_amend_21 : decode cX10_amend 21 = .ok (.aload_n 3, 1) := by decide +kernel
theorem dX10_amend_22 : decode cX10_amend 22 = .ok (.getfield 285, 3) := by decide +kernel
theorem dX10_amend_25 : decode cX10_amend 25 = .ok (.istore 4, 2) := by decide +kernel
theorem dX10_amend_27 : decode cX10_amend 27 = .ok (.aload_n 3, 1) := by decide +kernel
theorem dX10_amend_28 : decode cX10_amend 28 = .ok (.iload_n 2, 1) := by decide +kernel
theorem dX10_amend_29 : decode cX10_amend 29 = .ok (.putfield 285, 3) := by decide +kernel
theorem dX10_amend_32 : decode cX10_amend 32 = .ok (.iload 4, 2) := by decide +kernel
theorem dX10_amend_34 : decode cX10_amend 34 = .ok (.i2l, 1) := by decide +kernel
theorem dX10_amend_35 : decode cX10_amend 35 = .ok (.lreturn, 1) := by decide +kernel
theorem dX10_clear_0 : decode cX10_clear 0 = .ok (.aload_n 0, 1) := by decide +kernel
theorem dX10_clear_1 : decode cX10_clear 1 = .ok (.getfield 275, 3) := by decide +kernel
theorem dX10_clear_4 : decode cX10_clear 4 = .ok (.istore_n 1, 1) := by decide +kernel
theorem dX10_clear_5 : decode cX10_clear 5 = .ok (.iconst 0, 1) := by decide +kernel
theorem dX10_clear_6 : decode cX10_clear 6 = .ok (.istore_n 2, 1) := by decide +kernel
theorem dX10_clear_7 : decode cX10_clear 7 = .ok (.iload_n 2, 1) := by decide +kernel
theorem dX10_clear_8 : decode cX10_clear 8 = .ok (.iload_n 1, 1) := by decide +kernel
theorem dX10_clear_9 : decode cX10_clear 9 = .ok (.if_icmp .ge 16, 3) := by decide +kernel
theorem dX10_clear_12 : decode cX10_clear 12 = .ok (.aload_n 0, 1) := by decide +kernel
theorem dX10_clear_13 : decode cX10_clear 13 = .ok (.getfield 27, 3) := by decide +kernel
theorem dX10_clear_16 : decode cX10_clear 16 = .ok (.iload_n 2, 1) := by decide +kernel
theorem dX10_clear_17 : decode cX10_clear 17 = .ok (.aconst_null, 1) := by decide +kernel
theorem dX10_clear_18 : decode cX10_clear 18 = .ok (.aastore, 1) := by decide +kernel
theorem dX10_clear_19 : decode cX10_clear 19 = .ok (.iinc 2 1, 3) := by decide +kernel
theorem dX10_clear_22 : decode cX10_clear 22 = .ok (.goto (-15), 3) := by decide +kernel
theorem dX10_clear_25 : decode cX10_clear 25 = .ok (.aload_n 0, 1) := by decide +kernel
theorem dX10_clear_26 : decode cX10_clear 26 = .ok (.iconst 0, 1) := by decide +kernel
theorem dX10_clear_27 : decode cX10_clear 27 = .ok (.putfield 275, 3) := by decide +kernel
theorem dX10_clear_30 : decode cX10_clear 30 = .ok (.iload_n 1, 1) := by decide +kernel
theorem dX10_clear_31 : decode cX10_clear 31 = .ok (.i2l, 1) := by decide +kernel
theorem dX10_clear_32 : decode cX10_clear 32 = .ok (.lreturn, 1) := by decide +kernel
theorem dX10_total_0 : decode cX10_total 0 = .ok (.iload_n 1, 1) := by decide +kernel
theorem dX10_total_1 : decode cX10_total 1 = .ok (.invokestatic 272, 3) := by decide +kernel
theorem dX10_total_4 : decode cX10_total 4 = .ok (.ifCond .eq 17, 3) := by decide +kernel
theorem dX10_total_7 : decode cX10_total 7 = .ok (.iload_n 2, 1) := by decide +kernel
theorem dX10_total_8 : decode cX10_total 8 = .ok (.invokestatic 157, 3) := by decide +kernel
theorem dX10_total_11 : decode cX10_total 11 = .ok (.ifCond .eq 10, 3) := by decide +kernel
theorem dX10_total_14 : decode cX10_total 14 = .ok (.iload_n 3, 1) := by decide +kernel
theorem dX10_total_15 : decode cX10_total 15 = .ok (.invokestatic 157, 3) := by decide +kernel
theorem dX10_total_18 : decode cX10_total 18 = .ok (.ifCond .ne 7, 3) := by decide +kernel
theorem dX10_total_21 : decode cX10_total 21 = .ok (.ldc2_w 80, 3) := by decide +kernel
theorem dX10_total_24 : decode cX10_total 24 = .ok (.lreturn, 1) := by decide +kernel
theorem dX10_total_25 : decode cX10_total 25 = .ok (.aload_n 0, 1) := by decide +kernel
theorem dX10_total_26 : decode cX10_total 26 = .ok (.iload_n 1, 1) := by decide +kernel
theorem dX10_total_27 : decode cX10_total 27 = .ok (.invokevirtual 288, 3) := by decide +kernel
theorem dX10_total_30 : decode cX10_total 30 = .ok (.ifCond .ne 7, 3) := by decide +kernel
theorem dX10_total_33 : decode cX10_total 33 = .ok (.ldc2_w 196, 3) := by decide +kernel
theorem dX10_total_36 : decode cX10_total 36 = .ok (.lreturn, 1) := by decide +kernel
theorem dX10_total_37 : decode cX10_total 37 = .ok (.aload_n 0, 1) := by decide +kernel
theorem dX10_total_38 : decode cX10_total 38 = .ok (.iconst (-1), 1) := by decide +kernel
theorem dX10_total_39 : decode cX10_total 39 = .ok (.lconst 0, 1) := by decide +kernel
theorem dX10_total_40 : decode cX10_total 40 = .ok (.invokevirtual 291, 3) := by decide +kernel
theorem dX10_total_43 : decode cX10_total 43 = .ok (.aload_n 0, 1) := by decide +kernel
theorem dX10_total_44 : decode cX10_total 44 = .ok (.getfield 69, 3) := by decide +kernel
theorem dX10_total_47 : decode cX10_total 47 = .ok (.aload_n 0, 1) := by decide +kernel
theorem dX10_total_48 : decode cX10_total 48 = .ok (.getfield 73, 3) := by decide +kernel
theorem dX10_total_51 : decode cX10_total 51 = .ok (.iload_n 2, 1) := by decide +kernel
theorem dX10_total_52 : decode cX10_total 52 = .ok (.iload_n 3, 1) := by decide +kernel
theorem dX10_total_53 : decode cX10_total 53 = .ok (.invokestatic 166, 3) := by decide +kernel
theorem dX10_total_56 : decode cX10_total 56 = .ok (.lreturn, 1) := by decide +kernel
theorem dX10_slip_0 : decode cX10_slip 0 = .ok (.iload_n 1, 1) := by decide +kernel
theorem dX10_slip_1 : decode cX10_slip 1 = .ok (.invokestatic 272, 3) := by decide +kernel
theorem dX10_slip_4 : decode cX10_slip 4 = .ok (.ifCond .eq 17, 3) := by decide +kernel
theorem dX10_slip_7 : decode cX10_slip 7 = .ok (.iload_n 2, 1) := by decide +kernel
theorem dX10_slip_8 : decode cX10_slip 8 = .ok (.ldc_w 295, 3) := by decide +kernel
theorem dX10_slip_11 : decode cX10_slip 11 = .ok (.if_icmp .lt 10, 3) := by decide +kernel
theorem dX10_slip_14 : decode cX10_slip 14 = .ok (.iload_n 2, 1) := by decide +kernel
theorem dX10_slip_15 : decode cX10_slip 15 = .ok (.ldc_w 296, 3) := by decide +kernel
theorem dX10_slip_18 : decode cX10_slip 18 = .ok (.if_icmp .le 7, 3) := by decide +kernel
theorem dX10_slip_21 : decode cX10_slip 21 = .ok (.ldc2_w 80, 3) := by decide +kernel
theorem dX10_slip_24 : decode cX10_slip 24 = .ok (.lreturn, 1) := by decide +kernel
theorem dX10_slip_25 : decode cX10_slip 25 = .ok (.aload_n 0, 1) := by decide +kernel
theorem dX10_slip_26 : decode cX10_slip 26 = .ok (.iload_n 1, 1) := by decide +kernel
theorem dX10_slip_27 : decode cX10_slip 27 = .ok (.invokevirtual 288, 3) := by decide +kernel
theorem dX10_slip_30 : decode cX10_slip 30 = .ok (.ifCond .ne 7, 3) := by decide +kernel
theorem dX10_slip_33 : decode cX10_slip 33 = .ok (.ldc2_w 196, 3) := by decide +kernel
theorem dX10_slip_36 : decode cX10_slip 36 = .ok (.lreturn, 1) := by decide +kernel
theorem dX10_slip_37 : decode cX10_slip 37 = .ok (.aload_n 0, 1) := by decide +kernel
theorem dX10_slip_38 : decode cX10_slip 38 = .ok (.iconst (-1), 1) := by decide +kernel
theorem dX10_slip_39 : decode cX10_slip 39 = .ok (.lconst 0, 1) := by decide +kernel
theorem dX10_slip_40 : decode cX10_slip 40 = .ok (.iload_n 2, 1) := by decide +kernel
theorem dX10_slip_41 : decode cX10_slip 41 = .ok (.invokevirtual 297, 3) := by decide +kernel
theorem dX10_slip_44 : decode cX10_slip 44 = .ok (.lstore_n 3, 1) := by decide +kernel
theorem dX10_slip_45 : decode cX10_slip 45 = .ok (.lload_n 3, 1) := by decide +kernel
theorem dX10_slip_46 : decode cX10_slip 46 = .ok (.lconst 1, 1) := by decide +kernel
theorem dX10_slip_47 : decode cX10_slip 47 = .ok (.lcmp, 1) := by decide +kernel
theorem dX10_slip_48 : decode cX10_slip 48 = .ok (.ifCond .ne 5, 3) := by decide +kernel
theorem dX10_slip_51 : decode cX10_slip 51 = .ok (.lconst 0, 1) := by decide +kernel
theorem dX10_slip_52 : decode cX10_slip 52 = .ok (.lreturn, 1) := by decide +kernel
theorem dX10_slip_53 : decode cX10_slip 53 = .ok (.lload_n 3, 1) := by decide +kernel
theorem dX10_slip_54 : decode cX10_slip 54 = .ok (.ldc2_w 220, 3) := by decide +kernel
theorem dX10_slip_57 : decode cX10_slip 57 = .ok (.lcmp, 1) := by decide +kernel
theorem dX10_slip_58 : decode cX10_slip 58 = .ok (.ifCond .ne 9, 3) := by decide +kernel
theorem dX10_slip_61 : decode cX10_slip 61 = .ok (.ldc2_w 220, 3) := by decide +kernel
theorem dX10_slip_64 : decode cX10_slip 64 = .ok (.goto 8, 3) := by decide +kernel
theorem dX10_slip_67 : decode cX10_slip 67 = .ok (.aload_n 0, 1) := by decide +kernel
theorem dX10_slip_68 : decode cX10_slip 68 = .ok (.iload_n 2, 1) := by decide +kernel
theorem dX10_slip_69 : decode cX10_slip 69 = .ok (.invokevirtual 301, 3) := by decide +kernel
theorem dX10_slip_72 : decode cX10_slip 72 = .ok (.lreturn, 1) := by decide +kernel
theorem dX10_count_0 : decode cX10_count 0 = .ok (.iload_n 1, 1) := by decide +kernel
theorem dX10_count_1 : decode cX10_count 1 = .ok (.tableswitch 65 0 4 #[35, 41, 47, 53, 59], 35) := by decide +kernel
theorem dX10_count_36 : decode cX10_count 36 = .ok (.aload_n 0, 1) := by decide +kernel
theorem dX10_count_37 : decode cX10_count 37 = .ok (.getfield 99, 3) := by decide +kernel
theorem dX10_count_40 : decode cX10_count 40 = .ok (.i2l, 1) := by decide +kernel
theorem dX10_count_41 : decode cX10_count 41 = .ok (.lreturn, 1) := by decide +kernel
theorem dX10_count_42 : decode cX10_count 42 = .ok (.aload_n 0, 1) := by decide +kernel
theorem dX10_count_43 : decode cX10_count 43 = .ok (.invokevirtual 304, 3) := by decide +kernel
theorem dX10_count_46 : decode cX10_count 46 = .ok (.i2l, 1) := by decide +kernel
theorem dX10_count_47 : decode cX10_count 47 = .ok (.lreturn, 1) := by decide +kernel
theorem dX10_count_48 : decode cX10_count 48 = .ok (.aload_n 0, 1) := by decide +kernel
theorem dX10_count_49 : decode cX10_count 49 = .ok (.invokevirtual 308, 3) := by decide +kernel
theorem dX10_count_52 : decode cX10_count 52 = .ok (.i2l, 1) := by decide +kernel
theorem dX10_count_53 : decode cX10_count 53 = .ok (.lreturn, 1) := by decide +kernel
theorem dX10_count_54 : decode cX10_count 54 = .ok (.aload_n 0, 1) := by decide +kernel
theorem dX10_count_55 : decode cX10_count 55 = .ok (.getfield 275, 3) := by decide +kernel
theorem dX10_count_58 : decode cX10_count 58 = .ok (.i2l, 1) := by decide +kernel
theorem dX10_count_59 : decode cX10_count 59 = .ok (.lreturn, 1) := by decide +kernel
theorem dX10_count_60 : decode cX10_count 60 = .ok (.aload_n 0, 1) := by decide +kernel
theorem dX10_count_61 : decode cX10_count 61 = .ok (.invokevirtual 311, 3) := by decide +kernel
theorem dX10_count_64 : decode cX10_count 64 = .ok (.i2l, 1) := by decide +kernel
theorem dX10_count_65 : decode cX10_count 65 = .ok (.lreturn, 1) := by decide +kernel
theorem dX10_count_66 : decode cX10_count 66 = .ok (.ldc2_w 80, 3) := by decide +kernel
theorem dX10_count_69 : decode cX10_count 69 = .ok (.lreturn, 1) := by decide +kernel
theorem dX10_isPlace_0 : decode cX10_isPlace 0 = .ok (.iload_n 0, 1) := by decide +kernel
theorem dX10_isPlace_1 : decode cX10_isPlace 1 = .ok (.ifCond .lt 13, 3) := by decide +kernel
theorem dX10_isPlace_4 : decode cX10_isPlace 4 = .ok (.iload_n 0, 1) := by decide +kernel
theorem dX10_isPlace_5 : decode cX10_isPlace 5 = .ok (.bipush 8, 2) := by decide +kernel
theorem dX10_isPlace_7 : decode cX10_isPlace 7 = .ok (.if_icmp .ge 7, 3) := by decide +kernel
theorem dX10_isPlace_10 : decode cX10_isPlace 10 = .ok (.iconst 1, 1) := by decide +kernel
theorem dX10_isPlace_11 : decode cX10_isPlace 11 = .ok (.goto 4, 3) := by decide +kernel
theorem dX10_isPlace_14 : decode cX10_isPlace 14 = .ok (.iconst 0, 1) := by decide +kernel
