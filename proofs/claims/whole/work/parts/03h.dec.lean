theorem dX11_whole_116 : decode cX11_whole 116 = .ok (.lload 8, 2) := by decide +kernel
theorem dX11_whole_118 : decode cX11_whole 118 = .ok (.lreturn, 1) := by decide +kernel
theorem dX11_line_0 : decode cX11_line 0 = .ok (.iload_n 1, 1) := by decide +kernel
theorem dX11_line_1 : decode cX11_line 1 = .ok (.i2l, 1) := by decide +kernel
theorem dX11_line_2 : decode cX11_line 2 = .ok (.ldc2_w 330, 3) := by decide +kernel
theorem dX11_line_5 : decode cX11_line 5 = .ok (.ldc2_w 332, 3) := by decide +kernel
theorem dX11_line_8 : decode cX11_line 8 = .ok (.invokestatic 145, 3) := by decide +kernel
theorem dX11_line_11 : decode cX11_line 11 = .ok (.ifCond .eq 30, 3) := by decide +kernel
theorem dX11_line_14 : decode cX11_line 14 = .ok (.iload_n 2, 1) := by decide +kernel
theorem dX11_line_15 : decode cX11_line 15 = .ok (.i2l, 1) := by decide +kernel
theorem dX11_line_16 : decode cX11_line 16 = .ok (.lconst 0, 1) := by decide +kernel
theorem dX11_line_17 : decode cX11_line 17 = .ok (.ldc2_w 334, 3) := by decide +kernel
theorem dX11_line_20 : decode cX11_line 20 = .ok (.invokestatic 145, 3) := by decide +kernel
theorem dX11_line_23 : decode cX11_line 23 = .ok (.ifCond .eq 18, 3) := by decide +kernel
theorem dX11_line_26 : decode cX11_line 26 = .ok (.iload_n 3, 1) := by decide +kernel
theorem dX11_line_27 : decode cX11_line 27 = .ok (.invokestatic 151, 3) := by decide +kernel
theorem dX11_line_30 : decode cX11_line 30 = .ok (.ifCond .eq 11, 3) := by decide +kernel
theorem dX11_line_33 : decode cX11_line 33 = .ok (.iload 4, 2) := by decide +kernel
theorem dX11_line_35 : decode cX11_line 35 = .ok (.invokestatic 195, 3) := by decide +kernel
theorem dX11_line_38 : decode cX11_line 38 = .ok (.ifCond .ne 7, 3) := by decide +kernel
theorem dX11_line_41 : decode cX11_line 41 = .ok (.ldc2_w 149, 3) := by decide +kernel
theorem dX11_line_44 : decode cX11_line 44 = .ok (.lreturn, 1) := by decide +kernel
theorem dX11_line_45 : decode cX11_line 45 = .ok (.aload_n 0, 1) := by decide +kernel
theorem dX11_line_46 : decode cX11_line 46 = .ok (.getfield 336, 3) := by decide +kernel
theorem dX11_line_49 : decode cX11_line 49 = .ok (.bipush 20, 2) := by decide +kernel
theorem dX11_line_51 : decode cX11_line 51 = .ok (.if_icmp .ne 7, 3) := by decide +kernel
theorem dX11_line_54 : decode cX11_line 54 = .ok (.ldc2_w 167, 3) := by decide +kernel
theorem dX11_line_57 : decode cX11_line 57 = .ok (.lreturn, 1) := by decide +kernel
theorem dX11_line_58 : decode cX11_line 58 = .ok (.aload_n 0, 1) := by decide +kernel
theorem dX11_line_59 : decode cX11_line 59 = .ok (.getfield 53, 3) := by decide +kernel
theorem dX11_line_62 : decode cX11_line 62 = .ok (.aload_n 0, 1) := by decide +kernel
theorem dX11_line_63 : decode cX11_line 63 = .ok (.getfield 336, 3) := by decide +kernel
theorem dX11_line_66 : decode cX11_line 66 = .ok (.iload_n 1, 1) := by decide +kernel
theorem dX11_line_67 : decode cX11_line 67 = .ok (.iastore, 1) := by decide +kernel
theorem dX11_line_68 : decode cX11_line 68 = .ok (.aload_n 0, 1) := by decide +kernel
theorem dX11_line_69 : decode cX11_line 69 = .ok (.getfield 56, 3) := by decide +kernel
theorem dX11_line_72 : decode cX11_line 72 = .ok (.aload_n 0, 1) := by decide +kernel
theorem dX11_line_73 : decode cX11_line 73 = .ok (.getfield 336, 3) := by decide +kernel
theorem dX11_line_76 : decode cX11_line 76 = .ok (.iload_n 2, 1) := by decide +kernel
theorem dX11_line_77 : decode cX11_line 77 = .ok (.iastore, 1) := by decide +kernel
theorem dX11_line_78 : decode cX11_line 78 = .ok (.aload_n 0, 1) := by decide +kernel
theorem dX11_line_79 : decode cX11_line 79 = .ok (.getfield 59, 3) := by decide +kernel
theorem dX11_line_82 : decode cX11_line 82 = .ok (.aload_n 0, 1) := by decide +kernel
theorem dX11_line_83 : decode cX11_line 83 = .ok (.getfield 336, 3) := by decide +kernel
theorem dX11_line_86 : decode cX11_line 86 = .ok (.iload_n 3, 1) := by decide +kernel
theorem dX11_line_87 : decode cX11_line 87 = .ok (.iastore, 1) := by decide +kernel
theorem dX11_line_88 : decode cX11_line 88 = .ok (.aload_n 0, 1) := by decide +kernel
theorem dX11_line_89 : decode cX11_line 89 = .ok (.getfield 62, 3) := by decide +kernel
theorem dX11_line_92 : decode cX11_line 92 = .ok (.aload_n 0, 1) := by decide +kernel
theorem dX11_line_93 : decode cX11_line 93 = .ok (.getfield 336, 3) := by decide +kernel
theorem dX11_line_96 : decode cX11_line 96 = .ok (.iload 4, 2) := by decide +kernel
theorem dX11_line_98 : decode cX11_line 98 = .ok (.iastore, 1) := by decide +kernel
theorem dX11_line_99 : decode cX11_line 99 = .ok (.aload_n 0, 1) := by decide +kernel
theorem dX11_line_100 : decode cX11_line 100 = .ok (.dup, 1) := by decide +kernel
theorem dX11_line_101 : decode cX11_line 101 = .ok (.getfield 336, 3) := by decide +kernel
theorem dX11_line_104 : decode cX11_line 104 = .ok (.iconst 1, 1) := by decide +kernel
theorem dX11_line_105 : decode cX11_line 105 = .ok (.iadd, 1) := by decide +kernel
theorem dX11_line_106 : decode cX11_line 106 = .ok (.putfield 336, 3) := by decide +kernel
theorem dX11_line_109 : decode cX11_line 109 = .ok (.aload_n 0, 1) := by decide +kernel
theorem dX11_line_110 : decode cX11_line 110 = .ok (.getfield 336, 3) := by decide +kernel
theorem dX11_line_113 : decode cX11_line 113 = .ok (.iconst 1, 1) := by decide +kernel
theorem dX11_line_114 : decode cX11_line 114 = .ok (.isub, 1) := by decide +kernel
theorem dX11_line_115 : decode cX11_line 115 = .ok (.i2l, 1) := by decide +kernel
theorem dX11_line_116 : decode cX11_line 116 = .ok (.lreturn, 1) := by decide +kernel
theorem dX11_amend_0 : decode cX11_amend 0 = .ok (.iload_n 1, 1) := by decide +kernel
theorem dX11_amend_1 : decode cX11_amend 1 = .ok (.i2l, 1) := by decide +kernel
theorem dX11_amend_2 : decode cX11_amend 2 = .ok (.lconst 0, 1) := by decide +kernel
theorem dX11_amend_3 : decode cX11_amend 3 = .ok (.aload_n 0, 1) := by decide +kernel
theorem dX11_amend_4 : decode cX11_amend 4 = .ok (.getfield 336, 3) := by decide +kernel
theorem dX11_amend_7 : decode cX11_amend 7 = .ok (.iconst 1, 1) := by decide +kernel
theorem dX11_amend_8 : decode cX11_amend 8 = .ok (.isub, 1) := by decide +kernel
theorem dX11_amend_9 : decode cX11_amend 9 = .ok (.i2l, 1) := by decide +kernel
theorem dX11_amend_10 : decode cX11_amend 10 = .ok (.invokestatic 145, 3) := by decide +kernel
theorem dX11_amend_13 : decode cX11_amend 13 = .ok (.ifCond .eq 17, 3) := by decide +kernel
theorem dX11_amend_16 : decode cX11_amend 16 = .ok (.iload_n 2, 1) := by decide +kernel
theorem dX11_amend_17 : decode cX11_amend 17 = .ok (.i2l, 1) := by decide +kernel
theorem dX11_amend_18 : decode cX11_amend 18 = .ok (.ldc2_w 330, 3) := by decide +kernel
theorem dX11_amend_21 : decode cX11_amend 21 = .ok (.ldc2_w 332, 3) := by decide +kernel
theorem dX11_amend_24 : decode cX11_amend 24 = .ok (.invokestatic 145, 3) := by decide +kernel
theorem dX11_amend_27 : decode cX11_amend 27 = .ok (.ifCond .ne 7, 3) := by decide +kernel
theorem dX11_amend_30 : decode cX11_amend 30 = .ok (.ldc2_w 149, 3) := by decide +kernel
theorem dX11_amend_33 : decode cX11_amend 33 = .ok (.lreturn, 1) := by decide +kernel
theorem dX11_amend_34 : decode cX11_amend 34 = .ok (.aload_n 0, 1) := by decide +kernel
theorem dX11_amend_35 : decode cX11_amend 35 = .ok (.getfield 53, 3) := by decide +kernel
theorem dX11_amend_38 : decode cX11_amend 38 = .ok (.iload_n 1, 1) := by decide +kernel
theorem dX11_amend_39 : decode cX11_amend 39 = .ok (.iaload, 1) := by decide +kernel
theorem dX11_amend_40 : decode cX11_amend 40 = .ok (.i2l, 1) := by decide +kernel
theorem dX11_amend_41 : decode cX11_amend 41 = .ok (.lstore_n 3, 1) := by decide +kernel
theorem dX11_amend_42 : decode cX11_amend 42 = .ok (.aload_n 0, 1) := by decide +kernel
theorem dX11_amend_43 : decode cX11_amend 43 = .ok (.getfield 53, 3) := by decide +kernel
theorem dX11_amend_46 : decode cX11_amend 46 = .ok (.iload_n 1, 1) := by decide +kernel
theorem dX11_amend_47 : decode cX11_amend 47 = .ok (.iload_n 2, 1) := by decide +kernel
theorem dX11_amend_48 : decode cX11_amend 48 = .ok (.iastore, 1) := by decide +kernel
theorem dX11_amend_49 : decode cX11_amend 49 = .ok (.lload_n 3, 1) := by decide +kernel
theorem dX11_amend_50 : decode cX11_amend 50 = .ok (.lreturn, 1) := by decide +kernel
theorem dX11_clear_0 : decode cX11_clear 0 = .ok (.aload_n 0, 1) := by decide +kernel
theorem dX11_clear_1 : decode cX11_clear 1 = .ok (.getfield 336, 3) := by decide +kernel
theorem dX11_clear_4 : decode cX11_clear 4 = .ok (.i2l, 1) := by decide +kernel
theorem dX11_clear_5 : decode cX11_clear 5 = .ok (.lstore_n 1, 1) := by decide +kernel
theorem dX11_clear_6 : decode cX11_clear 6 = .ok (.aload_n 0, 1) := by decide +kernel
theorem dX11_clear_7 : decode cX11_clear 7 = .ok (.iconst 0, 1) := by decide +kernel
theorem dX11_clear_8 : decode cX11_clear 8 = .ok (.putfield 336, 3) := by decide +kernel
theorem dX11_clear_11 : decode cX11_clear 11 = .ok (.lload_n 1, 1) := by decide +kernel
theorem dX11_clear_12 : decode cX11_clear 12 = .ok (.lreturn, 1) := by decide +kernel
theorem dX11_findEnds_0 : decode cX11_findEnds 0 = .ok (.iconst 0, 1) := by decide +kernel
theorem dX11_findEnds_1 : decode cX11_findEnds 1 = .ok (.istore_n 2, 1) := by decide +kernel
theorem dX11_findEnds_2 : decode cX11_findEnds 2 = .ok (.iconst 0, 1) := by decide +kernel
theorem dX11_findEnds_3 : decode cX11_findEnds 3 = .ok (.istore_n 3, 1) := by decide +kernel
theorem dX11_findEnds_4 : decode cX11_findEnds 4 = .ok (.iload_n 3, 1) := by decide +kernel
theorem dX11_findEnds_5 : decode cX11_findEnds 5 = .ok (.aload_n 0, 1) := by decide +kernel
theorem dX11_findEnds_6 : decode cX11_findEnds 6 = .ok (.getfield 336, 3) := by decide +kernel
theorem dX11_findEnds_9 : decode cX11_findEnds 9 = .ok (.if_icmp .ge 120, 3) := by decide +kernel
theorem dX11_findEnds_12 : decode cX11_findEnds 12 = .ok (.aload_n 0, 1) := by decide +kernel
theorem dX11_findEnds_13 : decode cX11_findEnds 13 = .ok (.aload_n 0, 1) := by decide +kernel
theorem dX11_findEnds_14 : decode cX11_findEnds 14 = .ok (.getfield 56, 3) := by decide +kernel
theorem dX11_findEnds_17 : decode cX11_findEnds 17 = .ok (.iload_n 3, 1) := by decide +kernel
theorem dX11_findEnds_18 : decode cX11_findEnds 18 = .ok (.iaload, 1) := by decide +kernel
theorem dX11_findEnds_19 : decode cX11_findEnds 19 = .ok (.iload_n 1, 1) := by decide +kernel
theorem dX11_findEnds_20 : decode cX11_findEnds 20 = .ok (.aload_n 0, 1) := by decide +kernel
theorem dX11_findEnds_21 : decode cX11_findEnds 21 = .ok (.getfield 59, 3) := by decide +kernel
theorem dX11_findEnds_24 : decode cX11_findEnds 24 = .ok (.iload_n 3, 1) := by decide +kernel
theorem dX11_findEnds_25 : decode cX11_findEnds 25 = .ok (.iaload, 1) := by decide +kernel
theorem dX11_findEnds_26 : decode cX11_findEnds 26 = .ok (.aload_n 0, 1) := by decide +kernel
theorem dX11_findEnds_27 : decode cX11_findEnds 27 = .ok (.getfield 62, 3) := by decide +kernel
theorem dX11_findEnds_30 : decode cX11_findEnds 30 = .ok (.iload_n 3, 1) := by decide +kernel
theorem dX11_findEnds_31 : decode cX11_findEnds 31 = .ok (.iaload, 1) := by decide +kernel
theorem dX11_findEnds_32 : decode cX11_findEnds 32 = .ok (.invokevirtual 277, 3) := by decide +kernel
theorem dX11_findEnds_35 : decode cX11_findEnds 35 = .ok (.lstore 4, 2) := by decide +kernel
theorem dX11_findEnds_37 : decode cX11_findEnds 37 = .ok (.lload 4, 2) := by decide +kernel
theorem dX11_findEnds_39 : decode cX11_findEnds 39 = .ok (.ldc2_w 270, 3) := by decide +kernel
theorem dX11_findEnds_42 : decode cX11_findEnds 42 = .ok (.lcmp, 1) := by decide +kernel
theorem dX11_findEnds_43 : decode cX11_findEnds 43 = .ok (.ifCond .ne 7, 3) := by decide +kernel
theorem dX11_findEnds_46 : decode cX11_findEnds 46 = .ok (.ldc2_w 270, 3) := by decide +kernel
theorem dX11_findEnds_49 : decode cX11_findEnds 49 = .ok (.lreturn, 1) := by decide +kernel
theorem dX11_findEnds_50 : decode cX11_findEnds 50 = .ok (.iload_n 2, 1) := by decide +kernel
theorem dX11_findEnds_51 : decode cX11_findEnds 51 = .ok (.ifCond .ne 12, 3) := by decide +kernel
theorem dX11_findEnds_54 : decode cX11_findEnds 54 = .ok (.lload 4, 2) := by decide +kernel
theorem dX11_findEnds_56 : decode cX11_findEnds 56 = .ok (.ldc2_w 272, 3) := by decide +kernel
theorem dX11_findEnds_59 : decode cX11_findEnds 59 = .ok (.lcmp, 1) := by decide +kernel
theorem dX11_findEnds_60 : decode cX11_findEnds 60 = .ok (.ifCond .ne 7, 3) := by decide +kernel
theorem dX11_findEnds_63 : decode cX11_findEnds 63 = .ok (.iconst 1, 1) := by decide +kernel
theorem dX11_findEnds_64 : decode cX11_findEnds 64 = .ok (.goto 4, 3) := by decide +kernel
theorem dX11_findEnds_67 : decode cX11_findEnds 67 = .ok (.iconst 0, 1) := by decide +kernel
theorem dX11_findEnds_68 : decode cX11_findEnds 68 = .ok (.istore_n 2, 1) := by decide +kernel
theorem dX11_findEnds_69 : decode cX11_findEnds 69 = .ok (.aload_n 0, 1) := by decide +kernel
theorem dX11_findEnds_70 : decode cX11_findEnds 70 = .ok (.getfield 87, 3) := by decide +kernel
theorem dX11_findEnds_73 : decode cX11_findEnds 73 = .ok (.iconst 4, 1) := by decide +kernel
theorem dX11_findEnds_74 : decode cX11_findEnds 74 = .ok (.iload_n 3, 1) := by decide +kernel
theorem dX11_findEnds_75 : decode cX11_findEnds 75 = .ok (.imul, 1) := by decide +kernel
theorem dX11_findEnds_76 : decode cX11_findEnds 76 = .ok (.aload_n 0, 1) := by decide +kernel
theorem dX11_findEnds_77 : decode cX11_findEnds 77 = .ok (.getfield 215, 3) := by decide +kernel
theorem dX11_findEnds_80 : decode cX11_findEnds 80 = .ok (.lastore, 1) := by decide +kernel
theorem dX11_findEnds_81 : decode cX11_findEnds 81 = .ok (.aload_n 0, 1) := by decide +kernel
theorem dX11_findEnds_82 : decode cX11_findEnds 82 = .ok (.getfield 87, 3) := by decide +kernel
theorem dX11_findEnds_85 : decode cX11_findEnds 85 = .ok (.iconst 4, 1) := by decide +kernel
theorem dX11_findEnds_86 : decode cX11_findEnds 86 = .ok (.iload_n 3, 1) := by decide +kernel
theorem dX11_findEnds_87 : decode cX11_findEnds 87 = .ok (.imul, 1) := by decide +kernel
theorem dX11_findEnds_88 : decode cX11_findEnds 88 = .ok (.iconst 1, 1) := by decide +kernel
theorem dX11_findEnds_89 : decode cX11_findEnds 89 = .ok (.iadd, 1) := by decide +kernel
theorem dX11_findEnds_90 : decode cX11_findEnds 90 = .ok (.aload_n 0, 1) := by decide +kernel
theorem dX11_findEnds_91 : decode cX11_findEnds 91 = .ok (.getfield 218, 3) := by decide +kernel
theorem dX11_findEnds_94 : decode cX11_findEnds 94 = .ok (.lastore, 1) := by decide +kernel
theorem dX11_findEnds_95 : decode cX11_findEnds 95 = .ok (.aload_n 0, 1) := by decide +kernel
theorem dX11_findEnds_96 : decode cX11_findEnds 96 = .ok (.getfield 87, 3) := by decide +kernel
theorem dX11_findEnds_99 : decode cX11_findEnds 99 = .ok (.iconst 4, 1) := by decide +kernel
theorem dX11_findEnds_100 : decode cX11_findEnds 100 = .ok (.iload_n 3, 1) := by decide +kernel
theorem dX11_findEnds_101 : decode cX11_findEnds 101 = .ok (.imul, 1) := by decide +kernel
theorem dX11_findEnds_102 : decode cX11_findEnds 102 = .ok (.iconst 2, 1) := by decide +kernel
theorem dX11_findEnds_103 : decode cX11_findEnds 103 = .ok (.iadd, 1) := by decide +kernel
theorem dX11_findEnds_104 : decode cX11_findEnds 104 = .ok (.aload_n 0, 1) := by decide +kernel
theorem dX11_findEnds_105 : decode cX11_findEnds 105 = .ok (.getfield 225, 3) := by decide +kernel
theorem dX11_findEnds_108 : decode cX11_findEnds 108 = .ok (.lastore, 1) := by decide +kernel
theorem dX11_findEnds_109 : decode cX11_findEnds 109 = .ok (.aload_n 0, 1) := by decide +kernel
theorem dX11_findEnds_110 : decode cX11_findEnds 110 = .ok (.getfield 87, 3) := by decide +kernel
theorem dX11_findEnds_113 : decode cX11_findEnds 113 = .ok (.iconst 4, 1) := by decide +kernel
theorem dX11_findEnds_114 : decode cX11_findEnds 114 = .ok (.iload_n 3, 1) := by decide +kernel
theorem dX11_findEnds_115 : decode cX11_findEnds 115 = .ok (.imul, 1) := by decide +kernel
theorem dX11_findEnds_116 : decode cX11_findEnds 116 = .ok (.iconst 3, 1) := by decide +kernel
theorem dX11_findEnds_117 : decode cX11_findEnds 117 = .ok (.iadd, 1) := by decide +kernel
theorem dX11_findEnds_118 : decode cX11_findEnds 118 = .ok (.aload_n 0, 1) := by decide +kernel
theorem dX11_findEnds_119 : decode cX11_findEnds 119 = .ok (.getfield 228, 3) := by decide +kernel
theorem dX11_findEnds_122 : decode cX11_findEnds 122 = .ok (.lastore, 1) := by decide +kernel
theorem dX11_findEnds_123 : decode cX11_findEnds 123 = .ok (.iinc 3 1, 3) := by decide +kernel
theorem dX11_findEnds_126 : decode cX11_findEnds 126 = .ok (.goto (-122), 3) := by decide +kernel
theorem dX11_findEnds_129 : decode cX11_findEnds 129 = .ok (.iload_n 2, 1) := by decide +kernel
theorem dX11_findEnds_130 : decode cX11_findEnds 130 = .ok (.ifCond .eq 9, 3) := by decide +kernel
theorem dX11_findEnds_133 : decode cX11_findEnds 133 = .ok (.ldc2_w 272, 3) := by decide +kernel
theorem dX11_findEnds_136 : decode cX11_findEnds 136 = .ok (.goto 4, 3) := by decide +kernel
theorem dX11_findEnds_139 : decode cX11_findEnds 139 = .ok (.lconst 0, 1) := by decide +kernel
theorem dX11_findEnds_140 : decode cX11_findEnds 140 = .ok (.lreturn, 1) := by decide +kernel
theorem dX11_totalOf_0 : decode cX11_totalOf 0 = .ok (.lconst 0, 1) := by decide +kernel
theorem dX11_totalOf_1 : decode cX11_totalOf 1 = .ok (.lstore 4, 2) := by decide +kernel
theorem dX11_totalOf_3 : decode cX11_totalOf 3 = .ok (.lconst 1, 1) := by decide +kernel
theorem dX11_totalOf_4 : decode cX11_totalOf 4 = .ok (.lstore 6, 2) := by decide +kernel
theorem dX11_totalOf_6 : decode cX11_totalOf 6 = .ok (.iconst 0, 1) := by decide +kernel
theorem dX11_totalOf_7 : decode cX11_totalOf 7 = .ok (.istore 8, 2) := by decide +kernel
theorem dX11_totalOf_9 : decode cX11_totalOf 9 = .ok (.iload 8, 2) := by decide +kernel
theorem dX11_totalOf_11 : decode cX11_totalOf 11 = .ok (.aload_n 0, 1) := by decide +kernel
theorem dX11_totalOf_12 : decode cX11_totalOf 12 = .ok (.getfield 336, 3) := by decide +kernel
theorem dX11_totalOf_15 : decode cX11_totalOf 15 = .ok (.if_icmp .ge 135, 3) := by decide +kernel
theorem dX11_totalOf_18 : decode cX11_totalOf 18 = .ok (.aload_n 0, 1) := by decide +kernel
theorem dX11_totalOf_19 : decode cX11_totalOf 19 = .ok (.getfield 103, 3) := by decide +kernel
theorem dX11_totalOf_22 : decode cX11_totalOf 22 = .ok (.ifCond .ne 128, 3) := by decide +kernel
theorem dX11_totalOf_25 : decode cX11_totalOf 25 = .ok (.iload 8, 2) := by decide +kernel
theorem dX11_totalOf_27 : decode cX11_totalOf 27 = .ok (.iload_n 2, 1) := by decide +kernel
theorem dX11_totalOf_28 : decode cX11_totalOf 28 = .ok (.if_icmp .ne 7, 3) := by decide +kernel
theorem dX11_totalOf_31 : decode cX11_totalOf 31 = .ok (.iload_n 3, 1) := by decide +kernel
theorem dX11_totalOf_32 : decode cX11_totalOf 32 = .ok (.goto 10, 3) := by decide +kernel
theorem dX11_totalOf_35 : decode cX11_totalOf 35 = .ok (.aload_n 0, 1) := by decide +kernel
theorem dX11_totalOf_36 : decode cX11_totalOf 36 = .ok (.getfield 53, 3) := by decide +kernel
theorem dX11_totalOf_39 : decode cX11_totalOf 39 = .ok (.iload 8, 2) := by decide +kernel
theorem dX11_totalOf_41 : decode cX11_totalOf 41 = .ok (.iaload, 1) := by decide +kernel
theorem dX11_totalOf_42 : decode cX11_totalOf 42 = .ok (.istore 9, 2) := by decide +kernel
theorem dX11_totalOf_44 : decode cX11_totalOf 44 = .ok (.iconst 4, 1) := by decide +kernel
theorem dX11_totalOf_45 : decode cX11_totalOf 45 = .ok (.iload 8, 2) := by decide +kernel
theorem dX11_totalOf_47 : decode cX11_totalOf 47 = .ok (.imul, 1) := by decide +kernel
theorem dX11_totalOf_48 : decode cX11_totalOf 48 = .ok (.iconst 2, 1) := by decide +kernel
theorem dX11_totalOf_49 : decode cX11_totalOf 49 = .ok (.iload 9, 2) := by decide +kernel
theorem dX11_totalOf_51 : decode cX11_totalOf 51 = .ok (.ifCond .ge 9, 3) := by decide +kernel
theorem dX11_totalOf_54 : decode cX11_totalOf 54 = .ok (.iconst 1, 1) := by decide +kernel
theorem dX11_totalOf_55 : decode cX11_totalOf 55 = .ok (.iload_n 1, 1) := by decide +kernel
theorem dX11_totalOf_56 : decode cX11_totalOf 56 = .ok (.isub, 1) := by decide +kernel
theorem dX11_totalOf_57 : decode cX11_totalOf 57 = .ok (.goto 4, 3) := by decide +kernel
theorem dX11_totalOf_60 : decode cX11_totalOf 60 = .ok (.iload_n 1, 1) := by decide +kernel
theorem dX11_totalOf_61 : decode cX11_totalOf 61 = .ok (.imul, 1) := by decide +kernel
theorem dX11_totalOf_62 : decode cX11_totalOf 62 = .ok (.iadd, 1) := by decide +kernel
theorem dX11_totalOf_63 : decode cX11_totalOf 63 = .ok (.istore 10, 2) := by decide +kernel
theorem dX11_totalOf_65 : decode cX11_totalOf 65 = .ok (.aload_n 0, 1) := by decide +kernel
theorem dX11_totalOf_66 : decode cX11_totalOf 66 = .ok (.aload_n 0, 1) := by decide +kernel
theorem dX11_totalOf_67 : decode cX11_totalOf 67 = .ok (.getfield 87, 3) := by decide +kernel
theorem dX11_totalOf_70 : decode cX11_totalOf 70 = .ok (.iload 10, 2) := by decide +kernel
theorem dX11_totalOf_72 : decode cX11_totalOf 72 = .ok (.laload, 1) := by decide +kernel
theorem dX11_totalOf_73 : decode cX11_totalOf 73 = .ok (.aload_n 0, 1) := by decide +kernel
theorem dX11_totalOf_74 : decode cX11_totalOf 74 = .ok (.getfield 87, 3) := by decide +kernel
theorem dX11_totalOf_77 : decode cX11_totalOf 77 = .ok (.iload 10, 2) := by decide +kernel
theorem dX11_totalOf_79 : decode cX11_totalOf 79 = .ok (.iconst 1, 1) := by decide +kernel
theorem dX11_totalOf_80 : decode cX11_totalOf 80 = .ok (.iadd, 1) := by decide +kernel
theorem dX11_totalOf_81 : decode cX11_totalOf 81 = .ok (.laload, 1) := by decide +kernel
theorem dX11_totalOf_82 : decode cX11_totalOf 82 = .ok (.invokevirtual 186, 3) := by decide +kernel
theorem dX11_totalOf_85 : decode cX11_totalOf 85 = .ok (.aload_n 0, 1) := by decide +kernel
theorem dX11_totalOf_86 : decode cX11_totalOf 86 = .ok (.iload 9, 2) := by decide +kernel
theorem dX11_totalOf_88 : decode cX11_totalOf 88 = .ok (.i2l, 1) := by decide +kernel
theorem dX11_totalOf_89 : decode cX11_totalOf 89 = .ok (.lconst 1, 1) := by decide +kernel
theorem dX11_totalOf_90 : decode cX11_totalOf 90 = .ok (.invokevirtual 202, 3) := by decide +kernel
theorem dX11_totalOf_93 : decode cX11_totalOf 93 = .ok (.aload_n 0, 1) := by decide +kernel
theorem dX11_totalOf_94 : decode cX11_totalOf 94 = .ok (.getfield 94, 3) := by decide +kernel
theorem dX11_totalOf_97 : decode cX11_totalOf 97 = .ok (.lstore 11, 2) := by decide +kernel
theorem dX11_totalOf_99 : decode cX11_totalOf 99 = .ok (.aload_n 0, 1) := by decide +kernel
theorem dX11_totalOf_100 : decode cX11_totalOf 100 = .ok (.getfield 98, 3) := by decide +kernel
theorem dX11_totalOf_103 : decode cX11_totalOf 103 = .ok (.lstore 13, 2) := by decide +kernel
theorem dX11_totalOf_105 : decode cX11_totalOf 105 = .ok (.aload_n 0, 1) := by decide +kernel
theorem dX11_totalOf_106 : decode cX11_totalOf 106 = .ok (.lload 4, 2) := by decide +kernel
theorem dX11_totalOf_108 : decode cX11_totalOf 108 = .ok (.putfield 94, 3) := by decide +kernel
theorem dX11_totalOf_111 : decode cX11_totalOf 111 = .ok (.aload_n 0, 1) := by decide +kernel
theorem dX11_totalOf_112 : decode cX11_totalOf 112 = .ok (.lload 6, 2) := by decide +kernel
theorem dX11_totalOf_114 : decode cX11_totalOf 114 = .ok (.putfield 98, 3) := by decide +kernel
theorem dX11_totalOf_117 : decode cX11_totalOf 117 = .ok (.aload_n 0, 1) := by decide +kernel
theorem dX11_totalOf_118 : decode cX11_totalOf 118 = .ok (.getfield 103, 3) := by decide +kernel
theorem dX11_totalOf_121 : decode cX11_totalOf 121 = .ok (.ifCond .ne 11, 3) := by decide +kernel
theorem dX11_totalOf_124 : decode cX11_totalOf 124 = .ok (.aload_n 0, 1) := by decide +kernel
theorem dX11_totalOf_125 : decode cX11_totalOf 125 = .ok (.lload 11, 2) := by decide +kernel
theorem dX11_totalOf_127 : decode cX11_totalOf 127 = .ok (.lload 13, 2) := by decide +kernel
theorem dX11_totalOf_129 : decode cX11_totalOf 129 = .ok (.invokevirtual 339, 3) := by decide +kernel
theorem dX11_totalOf_132 : decode cX11_totalOf 132 = .ok (.aload_n 0, 1) := by decide +kernel
theorem dX11_totalOf_133 : decode cX11_totalOf 133 = .ok (.getfield 94, 3) := by decide +kernel
theorem dX11_totalOf_136 : decode cX11_totalOf 136 = .ok (.lstore 4, 2) := by decide +kernel
theorem dX11_totalOf_138 : decode cX11_totalOf 138 = .ok (.aload_n 0, 1) := by decide +kernel
theorem dX11_totalOf_139 : decode cX11_totalOf 139 = .ok (.getfield 98, 3) := by decide +kernel
theorem dX11_totalOf_142 : decode cX11_totalOf 142 = .ok (.lstore 6, 2) := by decide +kernel
theorem dX11_totalOf_144 : decode cX11_totalOf 144 = .ok (.iinc 8 1, 3) := by decide +kernel
theorem dX11_totalOf_147 : decode cX11_totalOf 147 = .ok (.goto (-138), 3) := by decide +kernel
theorem dX11_totalOf_150 : decode cX11_totalOf 150 = .ok (.aload_n 0, 1) := by decide +kernel
theorem dX11_totalOf_151 : decode cX11_totalOf 151 = .ok (.lload 4, 2) := by decide +kernel
theorem dX11_totalOf_153 : decode cX11_totalOf 153 = .ok (.putfield 94, 3) := by decide +kernel
theorem dX11_totalOf_156 : decode cX11_totalOf 156 = .ok (.aload_n 0, 1) := by decide +kernel
theorem dX11_totalOf_157 : decode cX11_totalOf 157 = .ok (.lload 6, 2) := by decide +kernel
theorem dX11_totalOf_159 : decode cX11_totalOf 159 = .ok (.putfield 98, 3) := by decide +kernel
theorem dX11_totalOf_162 : decode cX11_totalOf 162 = .ok (.return_, 1) := by decide +kernel
theorem dX11_bothEnds_0 : decode cX11_bothEnds 0 = .ok (.aload_n 0, 1) := by decide +kernel
theorem dX11_bothEnds_1 : decode cX11_bothEnds 1 = .ok (.iconst 0, 1) := by decide +kernel
theorem dX11_bothEnds_2 : decode cX11_bothEnds 2 = .ok (.putfield 103, 3) := by decide +kernel
theorem dX11_bothEnds_5 : decode cX11_bothEnds 5 = .ok (.aload_n 0, 1) := by decide +kernel
theorem dX11_bothEnds_6 : decode cX11_bothEnds 6 = .ok (.iconst 0, 1) := by decide +kernel
theorem dX11_bothEnds_7 : decode cX11_bothEnds 7 = .ok (.iload_n 1, 1) := by decide +kernel
theorem dX11_bothEnds_8 : decode cX11_bothEnds 8 = .ok (.iload_n 2, 1) := by decide +kernel
theorem dX11_bothEnds_9 : decode cX11_bothEnds 9 = .ok (.invokevirtual 342, 3) := by decide +kernel
theorem dX11_bothEnds_12 : decode cX11_bothEnds 12 = .ok (.aload_n 0, 1) := by decide +kernel
theorem dX11_bothEnds_13 : decode cX11_bothEnds 13 = .ok (.aload_n 0, 1) := by decide +kernel
theorem dX11_bothEnds_14 : decode cX11_bothEnds 14 = .ok (.getfield 94, 3) := by decide +kernel
theorem dX11_bothEnds_17 : decode cX11_bothEnds 17 = .ok (.putfield 215, 3) := by decide +kernel
theorem dX11_bothEnds_20 : decode cX11_bothEnds 20 = .ok (.aload_n 0, 1) := by decide +kernel
theorem dX11_bothEnds_21 : decode cX11_bothEnds 21 = .ok (.aload_n 0, 1) := by decide +kernel
theorem dX11_bothEnds_22 : decode cX11_bothEnds 22 = .ok (.getfield 98, 3) := by decide +kernel
theorem dX11_bothEnds_25 : decode cX11_bothEnds 25 = .ok (.putfield 218, 3) := by decide +kernel
theorem dX11_bothEnds_28 : decode cX11_bothEnds 28 = .ok (.aload_n 0, 1) := by decide +kernel
theorem dX11_bothEnds_29 : decode cX11_bothEnds 29 = .ok (.getfield 103, 3) := by decide +kernel
theorem dX11_bothEnds_32 : decode cX11_bothEnds 32 = .ok (.ifCond .ne 10, 3) := by decide +kernel
theorem dX11_bothEnds_35 : decode cX11_bothEnds 35 = .ok (.aload_n 0, 1) := by decide +kernel
theorem dX11_bothEnds_36 : decode cX11_bothEnds 36 = .ok (.iconst 1, 1) := by decide +kernel
theorem dX11_bothEnds_37 : decode cX11_bothEnds 37 = .ok (.iload_n 1, 1) := by decide +kernel
theorem dX11_bothEnds_38 : decode cX11_bothEnds 38 = .ok (.iload_n 2, 1) := by decide +kernel
theorem dX11_bothEnds_39 : decode cX11_bothEnds 39 = .ok (.invokevirtual 342, 3) := by decide +kernel
theorem dX11_bothEnds_42 : decode cX11_bothEnds 42 = .ok (.aload_n 0, 1) := by decide +kernel
theorem dX11_bothEnds_43 : decode cX11_bothEnds 43 = .ok (.aload_n 0, 1) := by decide +kernel
theorem dX11_bothEnds_44 : decode cX11_bothEnds 44 = .ok (.getfield 94, 3) := by decide +kernel
theorem dX11_bothEnds_47 : decode cX11_bothEnds 47 = .ok (.putfield 225, 3) := by decide +kernel
theorem dX11_bothEnds_50 : decode cX11_bothEnds 50 = .ok (.aload_n 0, 1) := by decide +kernel
theorem dX11_bothEnds_51 : decode cX11_bothEnds 51 = .ok (.aload_n 0, 1) := by decide +kernel
theorem dX11_bothEnds_52 : decode cX11_bothEnds 52 = .ok (.getfield 98, 3) := by decide +kernel
theorem dX11_bothEnds_55 : decode cX11_bothEnds 55 = .ok (.putfield 228, 3) := by decide +kernel
theorem dX11_bothEnds_58 : decode cX11_bothEnds 58 = .ok (.aload_n 0, 1) := by decide +kernel
theorem dX11_bothEnds_59 : decode cX11_bothEnds 59 = .ok (.getfield 103, 3) := by decide +kernel
theorem dX11_bothEnds_62 : decode cX11_bothEnds 62 = .ok (.ifCond .eq 9, 3) := by decide +kernel
theorem dX11_bothEnds_65 : decode cX11_bothEnds 65 = .ok (.ldc2_w 272, 3) := by decide +kernel
theorem dX11_bothEnds_68 : decode cX11_bothEnds 68 = .ok (.goto 4, 3) := by decide +kernel
theorem dX11_bothEnds_71 : decode cX11_bothEnds 71 = .ok (.lconst 0, 1) := by decide +kernel
theorem dX11_bothEnds_72 : decode cX11_bothEnds 72 = .ok (.lreturn, 1) := by decide +kernel
theorem dX11_total_0 : decode cX11_total 0 = .ok (.iload_n 1, 1) := by decide +kernel
theorem dX11_total_1 : decode cX11_total 1 = .ok (.i2l, 1) := by decide +kernel
theorem dX11_total_2 : decode cX11_total 2 = .ok (.lconst 0, 1) := by decide +kernel
theorem dX11_total_3 : decode cX11_total 3 = .ok (.ldc2_w 334, 3) := by decide +kernel
theorem dX11_total_6 : decode cX11_total 6 = .ok (.invokestatic 145, 3) := by decide +kernel
theorem dX11_total_9 : decode cX11_total 9 = .ok (.ifCond .eq 11, 3) := by decide +kernel
theorem dX11_total_12 : decode cX11_total 12 = .ok (.iload_n 2, 1) := by decide +kernel
theorem dX11_total_13 : decode cX11_total 13 = .ok (.iload_n 3, 1) := by decide +kernel
theorem dX11_total_14 : decode cX11_total 14 = .ok (.invokestatic 274, 3) := by decide +kernel
theorem dX11_total_17 : decode cX11_total 17 = .ok (.ifCond .ne 7, 3) := by decide +kernel
theorem dX11_total_20 : decode cX11_total 20 = .ok (.ldc2_w 149, 3) := by decide +kernel
theorem dX11_total_23 : decode cX11_total 23 = .ok (.lreturn, 1) := by decide +kernel
theorem dX11_total_24 : decode cX11_total 24 = .ok (.aload_n 0, 1) := by decide +kernel
theorem dX11_total_25 : decode cX11_total 25 = .ok (.iload_n 1, 1) := by decide +kernel
theorem dX11_total_26 : decode cX11_total 26 = .ok (.invokevirtual 346, 3) := by decide +kernel
theorem dX11_total_29 : decode cX11_total 29 = .ok (.lstore 4, 2) := by decide +kernel
theorem dX11_total_31 : decode cX11_total 31 = .ok (.lload 4, 2) := by decide +kernel
theorem dX11_total_33 : decode cX11_total 33 = .ok (.lconst 0, 1) := by decide +kernel
theorem dX11_total_34 : decode cX11_total 34 = .ok (.lcmp, 1) := by decide +kernel
theorem dX11_total_35 : decode cX11_total 35 = .ok (.ifCond .eq 6, 3) := by decide +kernel
theorem dX11_total_38 : decode cX11_total 38 = .ok (.lload 4, 2) := by decide +kernel
theorem dX11_total_40 : decode cX11_total 40 = .ok (.lreturn, 1) := by decide +kernel
theorem dX11_total_41 : decode cX11_total 41 = .ok (.aload_n 0, 1) := by decide +kernel
theorem dX11_total_42 : decode cX11_total 42 = .ok (.iconst (-1), 1) := by decide +kernel
theorem dX11_total_43 : decode cX11_total 43 = .ok (.iconst 0, 1) := by decide +kernel
theorem dX11_total_44 : decode cX11_total 44 = .ok (.invokevirtual 350, 3) := by decide +kernel
theorem dX11_total_47 : decode cX11_total 47 = .ok (.lstore 4, 2) := by decide +kernel
theorem dX11_total_49 : decode cX11_total 49 = .ok (.lload 4, 2) := by decide +kernel
theorem dX11_total_51 : decode cX11_total 51 = .ok (.lconst 0, 1) := by decide +kernel
theorem dX11_total_52 : decode cX11_total 52 = .ok (.lcmp, 1) := by decide +kernel
theorem dX11_total_53 : decode cX11_total 53 = .ok (.ifCond .eq 8, 3) := by decide +kernel
theorem dX11_total_56 : decode cX11_total 56 = .ok (.lload 4, 2) := by decide +kernel
theorem dX11_total_58 : decode cX11_total 58 = .ok (.goto 9, 3) := by decide +kernel
theorem dX11_total_61 : decode cX11_total 61 = .ok (.aload_n 0, 1) := by decide +kernel
theorem dX11_total_62 : decode cX11_total 62 = .ok (.iload_n 2, 1) := by decide +kernel
theorem dX11_total_63 : decode cX11_total 63 = .ok (.iload_n 3, 1) := by decide +kernel
theorem dX11_total_64 : decode cX11_total 64 = .ok (.invokevirtual 281, 3) := by decide +kernel
theorem dX11_total_67 : decode cX11_total 67 = .ok (.lreturn, 1) := by decide +kernel
theorem dX11_isRight_0 : decode cX11_isRight 0 = .ok (.aload_n 0, 1) := by decide +kernel
theorem dX11_isRight_1 : decode cX11_isRight 1 = .ok (.iload_n 1, 1) := by decide +kernel
theorem dX11_isRight_2 : decode cX11_isRight 2 = .ok (.i2l, 1) := by decide +kernel
theorem dX11_isRight_3 : decode cX11_isRight 3 = .ok (.lconst 1, 1) := by decide +kernel
theorem dX11_isRight_4 : decode cX11_isRight 4 = .ok (.aload_n 0, 1) := by decide +kernel
theorem dX11_isRight_5 : decode cX11_isRight 5 = .ok (.getfield 215, 3) := by decide +kernel
theorem dX11_isRight_8 : decode cX11_isRight 8 = .ok (.aload_n 0, 1) := by decide +kernel
theorem dX11_isRight_9 : decode cX11_isRight 9 = .ok (.getfield 218, 3) := by decide +kernel
theorem dX11_isRight_12 : decode cX11_isRight 12 = .ok (.invokevirtual 221, 3) := by decide +kernel
theorem dX11_isRight_15 : decode cX11_isRight 15 = .ok (.ifCond .ne 25, 3) := by decide +kernel
theorem dX11_isRight_18 : decode cX11_isRight 18 = .ok (.aload_n 0, 1) := by decide +kernel
theorem dX11_isRight_19 : decode cX11_isRight 19 = .ok (.aload_n 0, 1) := by decide +kernel
theorem dX11_isRight_20 : decode cX11_isRight 20 = .ok (.getfield 225, 3) := by decide +kernel
theorem dX11_isRight_23 : decode cX11_isRight 23 = .ok (.aload_n 0, 1) := by decide +kernel
theorem dX11_isRight_24 : decode cX11_isRight 24 = .ok (.getfield 228, 3) := by decide +kernel
theorem dX11_isRight_27 : decode cX11_isRight 27 = .ok (.iload_n 1, 1) := by decide +kernel
theorem dX11_isRight_28 : decode cX11_isRight 28 = .ok (.i2l, 1) := by decide +kernel
theorem dX11_isRight_29 : decode cX11_isRight 29 = .ok (.lconst 1, 1) := by decide +kernel
theorem dX11_isRight_30 : decode cX11_isRight 30 = .ok (.invokevirtual 221, 3) := by decide +kernel
theorem dX11_isRight_33 : decode cX11_isRight 33 = .ok (.ifCond .ne 7, 3) := by decide +kernel
theorem dX11_isRight_36 : decode cX11_isRight 36 = .ok (.iconst 1, 1) := by decide +kernel
theorem dX11_isRight_37 : decode cX11_isRight 37 = .ok (.goto 4, 3) := by decide +kernel
theorem dX11_isRight_40 : decode cX11_isRight 40 = .ok (.iconst 0, 1) := by decide +kernel
theorem dX11_isRight_41 : decode cX11_isRight 41 = .ok (.ireturn, 1) := by decide +kernel
theorem dX11_slip_0 : decode cX11_slip 0 = .ok (.iload_n 1, 1) := by decide +kernel
theorem dX11_slip_1 : decode cX11_slip 1 = .ok (.i2l, 1) := by decide +kernel
theorem dX11_slip_2 : decode cX11_slip 2 = .ok (.lconst 0, 1) := by decide +kernel
theorem dX11_slip_3 : decode cX11_slip 3 = .ok (.ldc2_w 334, 3) := by decide +kernel
theorem dX11_slip_6 : decode cX11_slip 6 = .ok (.invokestatic 145, 3) := by decide +kernel
theorem dX11_slip_9 : decode cX11_slip 9 = .ok (.ifCond .eq 17, 3) := by decide +kernel
theorem dX11_slip_12 : decode cX11_slip 12 = .ok (.iload_n 2, 1) := by decide +kernel
theorem dX11_slip_13 : decode cX11_slip 13 = .ok (.i2l, 1) := by decide +kernel
theorem dX11_slip_14 : decode cX11_slip 14 = .ok (.ldc2_w 353, 3) := by decide +kernel
theorem dX11_slip_17 : decode cX11_slip 17 = .ok (.ldc2_w 355, 3) := by decide +kernel
theorem dX11_slip_20 : decode cX11_slip 20 = .ok (.invokestatic 145, 3) := by decide +kernel
theorem dX11_slip_23 : decode cX11_slip 23 = .ok (.ifCond .ne 7, 3) := by decide +kernel
theorem dX11_slip_26 : decode cX11_slip 26 = .ok (.ldc2_w 149, 3) := by decide +kernel
theorem dX11_slip_29 : decode cX11_slip 29 = .ok (.lreturn, 1) := by decide +kernel
theorem dX11_slip_30 : decode cX11_slip 30 = .ok (.aload_n 0, 1) := by decide +kernel
theorem dX11_slip_31 : decode cX11_slip 31 = .ok (.iload_n 1, 1) := by decide +kernel
theorem dX11_slip_32 : decode cX11_slip 32 = .ok (.invokevirtual 346, 3) := by decide +kernel
theorem dX11_slip_35 : decode cX11_slip 35 = .ok (.lstore_n 3, 1) := by decide +kernel
theorem dX11_slip_36 : decode cX11_slip 36 = .ok (.lload_n 3, 1) := by decide +kernel
theorem dX11_slip_37 : decode cX11_slip 37 = .ok (.lconst 0, 1) := by decide +kernel
theorem dX11_slip_38 : decode cX11_slip 38 = .ok (.lcmp, 1) := by decide +kernel
theorem dX11_slip_39 : decode cX11_slip 39 = .ok (.ifCond .eq 5, 3) := by decide +kernel
theorem dX11_slip_42 : decode cX11_slip 42 = .ok (.lload_n 3, 1) := by decide +kernel
theorem dX11_slip_43 : decode cX11_slip 43 = .ok (.lreturn, 1) := by decide +kernel
theorem dX11_slip_44 : decode cX11_slip 44 = .ok (.aload_n 0, 1) := by decide +kernel
theorem dX11_slip_45 : decode cX11_slip 45 = .ok (.iconst (-1), 1) := by decide +kernel
theorem dX11_slip_46 : decode cX11_slip 46 = .ok (.iconst 0, 1) := by decide +kernel
theorem dX11_slip_47 : decode cX11_slip 47 = .ok (.invokevirtual 350, 3) := by decide +kernel
theorem dX11_slip_50 : decode cX11_slip 50 = .ok (.lconst 0, 1) := by decide +kernel
theorem dX11_slip_51 : decode cX11_slip 51 = .ok (.lcmp, 1) := by decide +kernel
theorem dX11_slip_52 : decode cX11_slip 52 = .ok (.ifCond .eq 7, 3) := by decide +kernel
theorem dX11_slip_55 : decode cX11_slip 55 = .ok (.ldc2_w 272, 3) := by decide +kernel
theorem dX11_slip_58 : decode cX11_slip 58 = .ok (.lreturn, 1) := by decide +kernel
theorem dX11_slip_59 : decode cX11_slip 59 = .ok (.aload_n 0, 1) := by decide +kernel
theorem dX11_slip_60 : decode cX11_slip 60 = .ok (.iload_n 2, 1) := by decide +kernel
theorem dX11_slip_61 : decode cX11_slip 61 = .ok (.invokevirtual 357, 3) := by decide +kernel
theorem dX11_slip_64 : decode cX11_slip 64 = .ok (.ifCond .eq 5, 3) := by decide +kernel
theorem dX11_slip_67 : decode cX11_slip 67 = .ok (.lconst 0, 1) := by decide +kernel
theorem dX11_slip_68 : decode cX11_slip 68 = .ok (.lreturn, 1) := by decide +kernel
theorem dX11_slip_69 : decode cX11_slip 69 = .ok (.iconst 1, 1) := by decide +kernel
theorem dX11_slip_70 : decode cX11_slip 70 = .ok (.istore 5, 2) := by decide +kernel
theorem dX11_slip_72 : decode cX11_slip 72 = .ok (.iload 5, 2) := by decide +kernel
theorem dX11_slip_74 : decode cX11_slip 74 = .ok (.iconst 2, 1) := by decide +kernel
theorem dX11_slip_75 : decode cX11_slip 75 = .ok (.if_icmp .gt 185, 3) := by decide +kernel
theorem dX11_slip_78 : decode cX11_slip 78 = .ok (.iconst 0, 1) := by decide +kernel
theorem dX11_slip_79 : decode cX11_slip 79 = .ok (.istore 6, 2) := by decide +kernel
theorem dX11_slip_81 : decode cX11_slip 81 = .ok (.iload 6, 2) := by decide +kernel
theorem dX11_slip_83 : decode cX11_slip 83 = .ok (.aload_n 0, 1) := by decide +kernel
theorem dX11_slip_84 : decode cX11_slip 84 = .ok (.getfield 336, 3) := by decide +kernel
theorem dX11_slip_87 : decode cX11_slip 87 = .ok (.if_icmp .ge 167, 3) := by decide +kernel
theorem dX11_slip_90 : decode cX11_slip 90 = .ok (.iconst 2, 1) := by decide +kernel
theorem dX11_slip_91 : decode cX11_slip 91 = .ok (.iload 5, 2) := by decide +kernel
theorem dX11_slip_93 : decode cX11_slip 93 = .ok (.imul, 1) := by decide +kernel
theorem dX11_slip_94 : decode cX11_slip 94 = .ok (.iconst 1, 1) := by decide +kernel
theorem dX11_slip_95 : decode cX11_slip 95 = .ok (.isub, 1) := by decide +kernel
theorem dX11_slip_96 : decode cX11_slip 96 = .ok (.istore 7, 2) := by decide +kernel
theorem dX11_slip_98 : decode cX11_slip 98 = .ok (.iload 7, 2) := by decide +kernel
theorem dX11_slip_100 : decode cX11_slip 100 = .ok (.iconst 2, 1) := by decide +kernel
theorem dX11_slip_101 : decode cX11_slip 101 = .ok (.iload 5, 2) := by decide +kernel
theorem dX11_slip_103 : decode cX11_slip 103 = .ok (.imul, 1) := by decide +kernel
theorem dX11_slip_104 : decode cX11_slip 104 = .ok (.if_icmp .gt 144, 3) := by decide +kernel
theorem dX11_slip_107 : decode cX11_slip 107 = .ok (.aload_n 0, 1) := by decide +kernel
theorem dX11_slip_108 : decode cX11_slip 108 = .ok (.getfield 53, 3) := by decide +kernel
theorem dX11_slip_111 : decode cX11_slip 111 = .ok (.iload 6, 2) := by decide +kernel
theorem dX11_slip_113 : decode cX11_slip 113 = .ok (.iaload, 1) := by decide +kernel
theorem dX11_slip_114 : decode cX11_slip 114 = .ok (.istore 8, 2) := by decide +kernel
theorem dX11_slip_116 : decode cX11_slip 116 = .ok (.iload 7, 2) := by decide +kernel
theorem dX11_slip_118 : decode cX11_slip 118 = .ok (.iconst 3, 1) := by decide +kernel
theorem dX11_slip_119 : decode cX11_slip 119 = .ok (.if_icmp .lt 28, 3) := by decide +kernel
theorem dX11_slip_122 : decode cX11_slip 122 = .ok (.iload 7, 2) := by decide +kernel
theorem dX11_slip_124 : decode cX11_slip 124 = .ok (.iconst 3, 1) := by decide +kernel
theorem dX11_slip_125 : decode cX11_slip 125 = .ok (.if_icmp .ne 14, 3) := by decide +kernel
theorem dX11_slip_128 : decode cX11_slip 128 = .ok (.iload 8, 2) := by decide +kernel
theorem dX11_slip_130 : decode cX11_slip 130 = .ok (.bipush 10, 2) := by decide +kernel
theorem dX11_slip_132 : decode cX11_slip 132 = .ok (.irem, 1) := by decide +kernel
theorem dX11_slip_133 : decode cX11_slip 133 = .ok (.ifCond .ne 18, 3) := by decide +kernel
theorem dX11_slip_136 : decode cX11_slip 136 = .ok (.goto 11, 3) := by decide +kernel
theorem dX11_slip_139 : decode cX11_slip 139 = .ok (.iload 8, 2) := by decide +kernel
theorem dX11_slip_141 : decode cX11_slip 141 = .ok (.bipush 12, 2) := by decide +kernel
theorem dX11_slip_143 : decode cX11_slip 143 = .ok (.irem, 1) := by decide +kernel
theorem dX11_slip_144 : decode cX11_slip 144 = .ok (.ifCond .ne 7, 3) := by decide +kernel
theorem dX11_slip_147 : decode cX11_slip 147 = .ok (.iconst 1, 1) := by decide +kernel
theorem dX11_slip_148 : decode cX11_slip 148 = .ok (.goto 4, 3) := by decide +kernel
theorem dX11_slip_151 : decode cX11_slip 151 = .ok (.iconst 0, 1) := by decide +kernel
theorem dX11_slip_152 : decode cX11_slip 152 = .ok (.istore 9, 2) := by decide +kernel
theorem dX11_slip_154 : decode cX11_slip 154 = .ok (.iload 9, 2) := by decide +kernel
theorem dX11_slip_156 : decode cX11_slip 156 = .ok (.ifCond .eq 86, 3) := by decide +kernel
theorem dX11_slip_159 : decode cX11_slip 159 = .ok (.aload_n 0, 1) := by decide +kernel
theorem dX11_slip_160 : decode cX11_slip 160 = .ok (.iload 6, 2) := by decide +kernel
theorem dX11_slip_162 : decode cX11_slip 162 = .ok (.iload 7, 2) := by decide +kernel
theorem dX11_slip_164 : decode cX11_slip 164 = .ok (.iconst 1, 1) := by decide +kernel
theorem dX11_slip_165 : decode cX11_slip 165 = .ok (.if_icmp .ne 10, 3) := by decide +kernel
theorem dX11_slip_168 : decode cX11_slip 168 = .ok (.iconst 2, 1) := by decide +kernel
theorem dX11_slip_169 : decode cX11_slip 169 = .ok (.iload 8, 2) := by decide +kernel
theorem dX11_slip_171 : decode cX11_slip 171 = .ok (.imul, 1) := by decide +kernel
theorem dX11_slip_172 : decode cX11_slip 172 = .ok (.goto 38, 3) := by decide +kernel
theorem dX11_slip_175 : decode cX11_slip 175 = .ok (.iload 7, 2) := by decide +kernel
theorem dX11_slip_177 : decode cX11_slip 177 = .ok (.iconst 2, 1) := by decide +kernel
theorem dX11_slip_178 : decode cX11_slip 178 = .ok (.if_icmp .ne 7, 3) := by decide +kernel
theorem dX11_slip_181 : decode cX11_slip 181 = .ok (.iconst 0, 1) := by decide +kernel
theorem dX11_slip_182 : decode cX11_slip 182 = .ok (.goto 28, 3) := by decide +kernel
theorem dX11_slip_185 : decode cX11_slip 185 = .ok (.iload 7, 2) := by decide +kernel
theorem dX11_slip_187 : decode cX11_slip 187 = .ok (.iconst 3, 1) := by decide +kernel
theorem dX11_slip_188 : decode cX11_slip 188 = .ok (.if_icmp .ne 14, 3) := by decide +kernel
theorem dX11_slip_191 : decode cX11_slip 191 = .ok (.iload 8, 2) := by decide +kernel
theorem dX11_slip_193 : decode cX11_slip 193 = .ok (.bipush 10, 2) := by decide +kernel
theorem dX11_slip_195 : decode cX11_slip 195 = .ok (.idiv, 1) := by decide +kernel
theorem dX11_slip_196 : decode cX11_slip 196 = .ok (.bipush 12, 2) := by decide +kernel
theorem dX11_slip_198 : decode cX11_slip 198 = .ok (.imul, 1) := by decide +kernel
theorem dX11_slip_199 : decode cX11_slip 199 = .ok (.goto 11, 3) := by decide +kernel
theorem dX11_slip_202 : decode cX11_slip 202 = .ok (.iload 8, 2) := by decide +kernel
theorem dX11_slip_204 : decode cX11_slip 204 = .ok (.bipush 12, 2) := by decide +kernel
theorem dX11_slip_206 : decode cX11_slip 206 = .ok (.idiv, 1) := by decide +kernel
theorem dX11_slip_207 : decode cX11_slip 207 = .ok (.bipush 10, 2) := by decide +kernel
theorem dX11_slip_209 : decode cX11_slip 209 = .ok (.imul, 1) := by decide +kernel
theorem dX11_slip_210 : decode cX11_slip 210 = .ok (.invokevirtual 350, 3) := by decide +kernel
theorem dX11_slip_213 : decode cX11_slip 213 = .ok (.lconst 0, 1) := by decide +kernel
theorem dX11_slip_214 : decode cX11_slip 214 = .ok (.lcmp, 1) := by decide +kernel
theorem dX11_slip_215 : decode cX11_slip 215 = .ok (.ifCond .eq 7, 3) := by decide +kernel
theorem dX11_slip_218 : decode cX11_slip 218 = .ok (.ldc2_w 272, 3) := by decide +kernel
theorem dX11_slip_221 : decode cX11_slip 221 = .ok (.lreturn, 1) := by decide +kernel
theorem dX11_slip_222 : decode cX11_slip 222 = .ok (.aload_n 0, 1) := by decide +kernel
theorem dX11_slip_223 : decode cX11_slip 223 = .ok (.iload_n 2, 1) := by decide +kernel
theorem dX11_slip_224 : decode cX11_slip 224 = .ok (.invokevirtual 357, 3) := by decide +kernel
theorem dX11_slip_227 : decode cX11_slip 227 = .ok (.ifCond .eq 15, 3) := by decide +kernel
theorem dX11_slip_230 : decode cX11_slip 230 = .ok (.ldc2_w 112, 3) := by decide +kernel
theorem dX11_slip_233 : decode cX11_slip 233 = .ok (.iload 6, 2) := by decide +kernel
theorem dX11_slip_235 : decode cX11_slip 235 = .ok (.i2l, 1) := by decide +kernel
theorem dX11_slip_236 : decode cX11_slip 236 = .ok (.lmul, 1) := by decide +kernel
theorem dX11_slip_237 : decode cX11_slip 237 = .ok (.iload 7, 2) := by decide +kernel
theorem dX11_slip_239 : decode cX11_slip 239 = .ok (.i2l, 1) := by decide +kernel
theorem dX11_slip_240 : decode cX11_slip 240 = .ok (.ladd, 1) := by decide +kernel
theorem dX11_slip_241 : decode cX11_slip 241 = .ok (.lreturn, 1) := by decide +kernel
theorem dX11_slip_242 : decode cX11_slip 242 = .ok (.iinc 7 1, 3) := by decide +kernel
theorem dX11_slip_245 : decode cX11_slip 245 = .ok (.goto (-147), 3) := by decide +kernel
theorem dX11_slip_248 : decode cX11_slip 248 = .ok (.iinc 6 1, 3) := by decide +kernel
theorem dX11_slip_251 : decode cX11_slip 251 = .ok (.goto (-170), 3) := by decide +kernel
theorem dX11_slip_254 : decode cX11_slip 254 = .ok (.iinc 5 1, 3) := by decide +kernel
theorem dX11_slip_257 : decode cX11_slip 257 = .ok (.goto (-185), 3) := by decide +kernel
theorem dX11_slip_260 : decode cX11_slip 260 = .ok (.ldc2_w 270, 3) := by decide +kernel
theorem dX11_slip_263 : decode cX11_slip 263 = .ok (.lreturn, 1) := by decide +kernel
theorem dX11_count_0 : decode cX11_count 0 = .ok (.lconst 0, 1) := by decide +kernel
theorem dX11_count_1 : decode cX11_count 1 = .ok (.lstore_n 2, 1) := by decide +kernel
theorem dX11_count_2 : decode cX11_count 2 = .ok (.iload_n 1, 1) := by decide +kernel
theorem dX11_count_3 : decode cX11_count 3 = .ok (.tableswitch 192 0 4 #[33, 39, 77, 112, 118], 33) := by decide +kernel
theorem dX11_count_36 : decode cX11_count 36 = .ok (.aload_n 0, 1) := by decide +kernel
theorem dX11_count_37 : decode cX11_count 37 = .ok (.getfield 159, 3) := by decide +kernel
theorem dX11_count_40 : decode cX11_count 40 = .ok (.i2l, 1) := by decide +kernel
theorem dX11_count_41 : decode cX11_count 41 = .ok (.lreturn, 1) := by decide +kernel
theorem dX11_count_42 : decode cX11_count 42 = .ok (.iconst 0, 1) := by decide +kernel
theorem dX11_count_43 : decode cX11_count 43 = .ok (.istore 4, 2) := by decide +kernel
theorem dX11_count_45 : decode cX11_count 45 = .ok (.iload 4, 2) := by decide +kernel
theorem dX11_count_47 : decode cX11_count 47 = .ok (.aload_n 0, 1) := by decide +kernel
theorem dX11_count_48 : decode cX11_count 48 = .ok (.getfield 159, 3) := by decide +kernel
theorem dX11_count_51 : decode cX11_count 51 = .ok (.if_icmp .ge 27, 3) := by decide +kernel
theorem dX11_count_54 : decode cX11_count 54 = .ok (.lload_n 2, 1) := by decide +kernel
theorem dX11_count_55 : decode cX11_count 55 = .ok (.aload_n 0, 1) := by decide +kernel
theorem dX11_count_56 : decode cX11_count 56 = .ok (.getfield 43, 3) := by decide +kernel
theorem dX11_count_59 : decode cX11_count 59 = .ok (.iload 4, 2) := by decide +kernel
theorem dX11_count_61 : decode cX11_count 61 = .ok (.baload, 1) := by decide +kernel
theorem dX11_count_62 : decode cX11_count 62 = .ok (.ifCond .eq 7, 3) := by decide +kernel
theorem dX11_count_65 : decode cX11_count 65 = .ok (.lconst 1, 1) := by decide +kernel
theorem dX11_count_66 : decode cX11_count 66 = .ok (.goto 4, 3) := by decide +kernel
theorem dX11_count_69 : decode cX11_count 69 = .ok (.lconst 0, 1) := by decide +kernel
theorem dX11_count_70 : decode cX11_count 70 = .ok (.ladd, 1) := by decide +kernel
theorem dX11_count_71 : decode cX11_count 71 = .ok (.lstore_n 2, 1) := by decide +kernel
theorem dX11_count_72 : decode cX11_count 72 = .ok (.iinc 4 1, 3) := by decide +kernel
theorem dX11_count_75 : decode cX11_count 75 = .ok (.goto (-30), 3) := by decide +kernel
theorem dX11_count_78 : decode cX11_count 78 = .ok (.lload_n 2, 1) := by decide +kernel
theorem dX11_count_79 : decode cX11_count 79 = .ok (.lreturn, 1) := by decide +kernel
theorem dX11_count_80 : decode cX11_count 80 = .ok (.iconst 0, 1) := by decide +kernel
theorem dX11_count_81 : decode cX11_count 81 = .ok (.istore 4, 2) := by decide +kernel
theorem dX11_count_83 : decode cX11_count 83 = .ok (.iload 4, 2) := by decide +kernel
theorem dX11_count_85 : decode cX11_count 85 = .ok (.iconst 4, 1) := by decide +kernel
theorem dX11_count_86 : decode cX11_count 86 = .ok (.if_icmp .ge 27, 3) := by decide +kernel
theorem dX11_count_89 : decode cX11_count 89 = .ok (.lload_n 2, 1) := by decide +kernel
theorem dX11_count_90 : decode cX11_count 90 = .ok (.aload_n 0, 1) := by decide +kernel
theorem dX11_count_91 : decode cX11_count 91 = .ok (.getfield 47, 3) := by decide +kernel
theorem dX11_count_94 : decode cX11_count 94 = .ok (.iload 4, 2) := by decide +kernel
theorem dX11_count_96 : decode cX11_count 96 = .ok (.iaload, 1) := by decide +kernel
theorem dX11_count_97 : decode cX11_count 97 = .ok (.ifCond .lt 7, 3) := by decide +kernel
theorem dX11_count_100 : decode cX11_count 100 = .ok (.lconst 1, 1) := by decide +kernel
theorem dX11_count_101 : decode cX11_count 101 = .ok (.goto 4, 3) := by decide +kernel
theorem dX11_count_104 : decode cX11_count 104 = .ok (.lconst 0, 1) := by decide +kernel
theorem dX11_count_105 : decode cX11_count 105 = .ok (.ladd, 1) := by decide +kernel
theorem dX11_count_106 : decode cX11_count 106 = .ok (.lstore_n 2, 1) := by decide +kernel
theorem dX11_count_107 : decode cX11_count 107 = .ok (.iinc 4 1, 3) := by decide +kernel
theorem dX11_count_110 : decode cX11_count 110 = .ok (.goto (-27), 3) := by decide +kernel
theorem dX11_count_113 : decode cX11_count 113 = .ok (.lload_n 2, 1) := by decide +kernel
theorem dX11_count_114 : decode cX11_count 114 = .ok (.lreturn, 1) := by decide +kernel
theorem dX11_count_115 : decode cX11_count 115 = .ok (.aload_n 0, 1) := by decide +kernel
theorem dX11_count_116 : decode cX11_count 116 = .ok (.getfield 336, 3) := by decide +kernel
theorem dX11_count_119 : decode cX11_count 119 = .ok (.i2l, 1) := by decide +kernel
theorem dX11_count_120 : decode cX11_count 120 = .ok (.lreturn, 1) := by decide +kernel
theorem dX11_count_121 : decode cX11_count 121 = .ok (.iconst 0, 1) := by decide +kernel
theorem dX11_count_122 : decode cX11_count 122 = .ok (.istore 4, 2) := by decide +kernel
theorem dX11_count_124 : decode cX11_count 124 = .ok (.iconst 0, 1) := by decide +kernel
theorem dX11_count_125 : decode cX11_count 125 = .ok (.istore 5, 2) := by decide +kernel
theorem dX11_count_127 : decode cX11_count 127 = .ok (.iload 5, 2) := by decide +kernel
theorem dX11_count_129 : decode cX11_count 129 = .ok (.aload_n 0, 1) := by decide +kernel
theorem dX11_count_130 : decode cX11_count 130 = .ok (.getfield 159, 3) := by decide +kernel
theorem dX11_count_133 : decode cX11_count 133 = .ok (.if_icmp .ge 33, 3) := by decide +kernel
theorem dX11_count_136 : decode cX11_count 136 = .ok (.iload 4, 2) := by decide +kernel
theorem dX11_count_138 : decode cX11_count 138 = .ok (.iconst 1, 1) := by decide +kernel
theorem dX11_count_139 : decode cX11_count 139 = .ok (.aload_n 0, 1) := by decide +kernel
theorem dX11_count_140 : decode cX11_count 140 = .ok (.getfield 16, 3) := by decide +kernel
theorem dX11_count_143 : decode cX11_count 143 = .ok (.iload 5, 2) := by decide +kernel
theorem dX11_count_145 : decode cX11_count 145 = .ok (.iaload, 1) := by decide +kernel
theorem dX11_count_146 : decode cX11_count 146 = .ok (.ishl, 1) := by decide +kernel
theorem dX11_count_147 : decode cX11_count 147 = .ok (.iconst 1, 1) := by decide +kernel
theorem dX11_count_148 : decode cX11_count 148 = .ok (.aload_n 0, 1) := by decide +kernel
theorem dX11_count_149 : decode cX11_count 149 = .ok (.getfield 19, 3) := by decide +kernel
theorem dX11_count_152 : decode cX11_count 152 = .ok (.iload 5, 2) := by decide +kernel
theorem dX11_count_154 : decode cX11_count 154 = .ok (.iaload, 1) := by decide +kernel
theorem dX11_count_155 : decode cX11_count 155 = .ok (.ishl, 1) := by decide +kernel
theorem dX11_count_156 : decode cX11_count 156 = .ok (.ior, 1) := by decide +kernel
theorem dX11_count_157 : decode cX11_count 157 = .ok (.ior, 1) := by decide +kernel
theorem dX11_count_158 : decode cX11_count 158 = .ok (.istore 4, 2) := by decide +kernel
theorem dX11_count_160 : decode cX11_count 160 = .ok (.iinc 5 1, 3) := by decide +kernel
theorem dX11_count_163 : decode cX11_count 163 = .ok (.goto (-36), 3) := by decide +kernel
theorem dX11_count_166 : decode cX11_count 166 = .ok (.iconst 0, 1) := by decide +kernel
theorem dX11_count_167 : decode cX11_count 167 = .ok (.istore 5, 2) := by decide +kernel
theorem dX11_count_169 : decode cX11_count 169 = .ok (.iload 5, 2) := by decide +kernel
theorem dX11_count_171 : decode cX11_count 171 = .ok (.bipush 10, 2) := by decide +kernel
theorem dX11_count_173 : decode cX11_count 173 = .ok (.if_icmp .ge 20, 3) := by decide +kernel
theorem dX11_count_176 : decode cX11_count 176 = .ok (.lload_n 2, 1) := by decide +kernel
theorem dX11_count_177 : decode cX11_count 177 = .ok (.iload 4, 2) := by decide +kernel
theorem dX11_count_179 : decode cX11_count 179 = .ok (.iload 5, 2) := by decide +kernel
theorem dX11_count_181 : decode cX11_count 181 = .ok (.ishr, 1) := by decide +kernel
theorem dX11_count_182 : decode cX11_count 182 = .ok (.iconst 1, 1) := by decide +kernel
theorem dX11_count_183 : decode cX11_count 183 = .ok (.iand, 1) := by decide +kernel
theorem dX11_count_184 : decode cX11_count 184 = .ok (.i2l, 1) := by decide +kernel
theorem dX11_count_185 : decode cX11_count 185 = .ok (.ladd, 1) := by decide +kernel
theorem dX11_count_186 : decode cX11_count 186 = .ok (.lstore_n 2, 1) := by decide +kernel
theorem dX11_count_187 : decode cX11_count 187 = .ok (.iinc 5 1, 3) := by decide +kernel
theorem dX11_count_190 : decode cX11_count 190 = .ok (.goto (-21), 3) := by decide +kernel
theorem dX11_count_193 : decode cX11_count 193 = .ok (.lload_n 2, 1) := by decide +kernel
theorem dX11_count_194 : decode cX11_count 194 = .ok (.lreturn, 1) := by decide +kernel
theorem dX11_count_195 : decode cX11_count 195 = .ok (.ldc2_w 149, 3) := by decide +kernel
theorem dX11_count_198 : decode cX11_count 198 = .ok (.lreturn, 1) := by decide +kernel
theorem dJ6_bitCount_0f7a4_0 : decode cJ6_bitCount_0f7a4 0 = .ok (.iload_n 0, 1) := by decide +kernel
theorem dJ6_bitCount_0f7a4_1 : decode cJ6_bitCount_0f7a4 1 = .ok (.iload_n 0, 1) := by decide +kernel
theorem dJ6_bitCount_0f7a4_2 : decode cJ6_bitCount_0f7a4 2 = .ok (.iconst 1, 1) := by decide +kernel
theorem dJ6_bitCount_0f7a4_3 : decode cJ6_bitCount_0f7a4 3 = .ok (.iushr, 1) := by decide +kernel
theorem dJ6_bitCount_0f7a4_4 : decode cJ6_bitCount_0f7a4 4 = .ok (.ldc_w 265, 3) := by decide +kernel
theorem dJ6_bitCount_0f7a4_7 : decode cJ6_bitCount_0f7a4 7 = .ok (.iand, 1) := by decide +kernel
theorem dJ6_bitCount_0f7a4_8 : decode cJ6_bitCount_0f7a4 8 = .ok (.isub, 1) := by decide +kernel
theorem dJ6_bitCount_0f7a4_9 : decode cJ6_bitCount_0f7a4 9 = .ok (.istore_n 0, 1) := by decide +kernel
theorem dJ6_bitCount_0f7a4_10 : decode cJ6_bitCount_0f7a4 10 = .ok (.iload_n 0, 1) := by decide +kernel
theorem dJ6_bitCount_0f7a4_11 : decode cJ6_bitCount_0f7a4 11 = .ok (.ldc_w 266, 3) := by decide +kernel
theorem dJ6_bitCount_0f7a4_14 : decode cJ6_bitCount_0f7a4 14 = .ok (.iand, 1) := by decide +kernel
theorem dJ6_bitCount_0f7a4_15 : decode cJ6_bitCount_0f7a4 15 = .ok (.iload_n 0, 1) := by decide +kernel
theorem dJ6_bitCount_0f7a4_16 : decode cJ6_bitCount_0f7a4 16 = .ok (.iconst 2, 1) := by decide +kernel
theorem dJ6_bitCount_0f7a4_17 : decode cJ6_bitCount_0f7a4 17 = .ok (.iushr, 1) := by decide +kernel
theorem dJ6_bitCount_0f7a4_18 : decode cJ6_bitCount_0f7a4 18 = .ok (.ldc_w 266, 3) := by decide +kernel
theorem dJ6_bitCount_0f7a4_21 : decode cJ6_bitCount_0f7a4 21 = .ok (.iand, 1) := by decide +kernel
theorem dJ6_bitCount_0f7a4_22 : decode cJ6_bitCount_0f7a4 22 = .ok (.iadd, 1) := by decide +kernel
theorem dJ6_bitCount_0f7a4_23 : decode cJ6_bitCount_0f7a4 23 = .ok (.istore_n 0, 1) := by decide +kernel
theorem dJ6_bitCount_0f7a4_24 : decode cJ6_bitCount_0f7a4 24 = .ok (.iload_n 0, 1) := by decide +kernel
theorem dJ6_bitCount_0f7a4_25 : decode cJ6_bitCount_0f7a4 25 = .ok (.iload_n 0, 1) := by decide +kernel
theorem dJ6_bitCount_0f7a4_26 : decode cJ6_bitCount_0f7a4 26 = .ok (.iconst 4, 1) := by decide +kernel
theorem dJ6_bitCount_0f7a4_27 : decode cJ6_bitCount_0f7a4 27 = .ok (.iushr, 1) := by decide +kernel
theorem dJ6_bitCount_0f7a4_28 : decode cJ6_bitCount_0f7a4 28 = .ok (.iadd, 1) := by decide +kernel
theorem dJ6_bitCount_0f7a4_29 : decode cJ6_bitCount_0f7a4 29 = .ok (.ldc_w 267, 3) := by decide +kernel
theorem dJ6_bitCount_0f7a4_32 : decode cJ6_bitCount_0f7a4 32 = .ok (.iand, 1) := by decide +kernel
theorem dJ6_bitCount_0f7a4_33 : decode cJ6_bitCount_0f7a4 33 = .ok (.istore_n 0, 1) := by decide +kernel
theorem dJ6_bitCount_0f7a4_34 : decode cJ6_bitCount_0f7a4 34 = .ok (.iload_n 0, 1) := by decide +kernel
theorem dJ6_bitCount_0f7a4_35 : decode cJ6_bitCount_0f7a4 35 = .ok (.iload_n 0, 1) := by decide +kernel
theorem dJ6_bitCount_0f7a4_36 : decode cJ6_bitCount_0f7a4 36 = .ok (.bipush 8, 2) := by decide +kernel
theorem dJ6_bitCount_0f7a4_38 : decode cJ6_bitCount_0f7a4 38 = .ok (.iushr, 1) := by decide +kernel
theorem dJ6_bitCount_0f7a4_39 : decode cJ6_bitCount_0f7a4 39 = .ok (.iadd, 1) := by decide +kernel
theorem dJ6_bitCount_0f7a4_40 : decode cJ6_bitCount_0f7a4 40 = .ok (.istore_n 0, 1) := by decide +kernel
theorem dJ6_bitCount_0f7a4_41 : decode cJ6_bitCount_0f7a4 41 = .ok (.iload_n 0, 1) := by decide +kernel
theorem dJ6_bitCount_0f7a4_42 : decode cJ6_bitCount_0f7a4 42 = .ok (.iload_n 0, 1) := by decide +kernel
theorem dJ6_bitCount_0f7a4_43 : decode cJ6_bitCount_0f7a4 43 = .ok (.bipush 16, 2) := by decide +kernel
theorem dJ6_bitCount_0f7a4_45 : decode cJ6_bitCount_0f7a4 45 = .ok (.iushr, 1) := by decide +kernel
theorem dJ6_bitCount_0f7a4_46 : decode cJ6_bitCount_0f7a4 46 = .ok (.iadd, 1) := by decide +kernel
theorem dJ6_bitCount_0f7a4_47 : decode cJ6_bitCount_0f7a4 47 = .ok (.istore_n 0, 1) := by decide +kernel
theorem dJ6_bitCount_0f7a4_48 : decode cJ6_bitCount_0f7a4 48 = .ok (.iload_n 0, 1) := by decide +kernel
theorem dJ6_bitCount_0f7a4_49 : decode cJ6_bitCount_0f7a4 49 = .ok (.bipush 63, 2) := by decide +kernel
theorem dJ6_bitCount_0f7a4_51 : decode cJ6_bitCount_0f7a4 51 = .ok (.iand, 1) := by decide +kernel
theorem dJ6_bitCount_0f7a4_52 : decode cJ6_bitCount_0f7a4 52 = .ok (.ireturn, 1) := by decide +kernel
theorem dJ13_bitCount_95d88_0 : decode cJ13_bitCount_95d88 0 = .ok (.lload_n 0, 1) := by decide +kernel
theorem dJ13_bitCount_95d88_1 : decode cJ13_bitCount_95d88 1 = .ok (.lload_n 0, 1) := by decide +kernel
theorem dJ13_bitCount_95d88_2 : decode cJ13_bitCount_95d88 2 = .ok (.iconst 1, 1) := by decide +kernel
theorem dJ13_bitCount_95d88_3 : decode cJ13_bitCount_95d88 3 = .ok (.lushr, 1) := by decide +kernel
theorem dJ13_bitCount_95d88_4 : decode cJ13_bitCount_95d88 4 = .ok (.ldc2_w 314, 3) := by decide +kernel
theorem dJ13_bitCount_95d88_7 : decode cJ13_bitCount_95d88 7 = .ok (.land, 1) := by decide +kernel
theorem dJ13_bitCount_95d88_8 : decode cJ13_bitCount_95d88 8 = .ok (.lsub, 1) := by decide +kernel
theorem dJ13_bitCount_95d88_9 : decode cJ13_bitCount_95d88 9 = .ok (.lstore_n 0, 1) := by decide +kernel
theorem dJ13_bitCount_95d88_10 : decode cJ13_bitCount_95d88 10 = .ok (.lload_n 0, 1) := by decide +kernel
theorem dJ13_bitCount_95d88_11 : decode cJ13_bitCount_95d88 11 = .ok (.ldc2_w 316, 3) := by decide +kernel
theorem dJ13_bitCount_95d88_14 : decode cJ13_bitCount_95d88 14 = .ok (.land, 1) := by decide +kernel
theorem dJ13_bitCount_95d88_15 : decode cJ13_bitCount_95d88 15 = .ok (.lload_n 0, 1) := by decide +kernel
theorem dJ13_bitCount_95d88_16 : decode cJ13_bitCount_95d88 16 = .ok (.iconst 2, 1) := by decide +kernel
theorem dJ13_bitCount_95d88_17 : decode cJ13_bitCount_95d88 17 = .ok (.lushr, 1) := by decide +kernel
theorem dJ13_bitCount_95d88_18 : decode cJ13_bitCount_95d88 18 = .ok (.ldc2_w 316, 3) := by decide +kernel
theorem dJ13_bitCount_95d88_21 : decode cJ13_bitCount_95d88 21 = .ok (.land, 1) := by decide +kernel
theorem dJ13_bitCount_95d88_22 : decode cJ13_bitCount_95d88 22 = .ok (.ladd, 1) := by decide +kernel
theorem dJ13_bitCount_95d88_23 : decode cJ13_bitCount_95d88 23 = .ok (.lstore_n 0, 1) := by decide +kernel
theorem dJ13_bitCount_95d88_24 : decode cJ13_bitCount_95d88 24 = .ok (.lload_n 0, 1) := by decide +kernel
theorem dJ13_bitCount_95d88_25 : decode cJ13_bitCount_95d88 25 = .ok (.lload_n 0, 1) := by decide +kernel
theorem dJ13_bitCount_95d88_26 : decode cJ13_bitCount_95d88 26 = .ok (.iconst 4, 1) := by decide +kernel
theorem dJ13_bitCount_95d88_27 : decode cJ13_bitCount_95d88 27 = .ok (.lushr, 1) := by decide +kernel
theorem dJ13_bitCount_95d88_28 : decode cJ13_bitCount_95d88 28 = .ok (.ladd, 1) := by decide +kernel
theorem dJ13_bitCount_95d88_29 : decode cJ13_bitCount_95d88 29 = .ok (.ldc2_w 318, 3) := by decide +kernel
theorem dJ13_bitCount_95d88_32 : decode cJ13_bitCount_95d88 32 = .ok (.land, 1) := by decide +kernel
theorem dJ13_bitCount_95d88_33 : decode cJ13_bitCount_95d88 33 = .ok (.lstore_n 0, 1) := by decide +kernel
theorem dJ13_bitCount_95d88_34 : decode cJ13_bitCount_95d88 34 = .ok (.lload_n 0, 1) := by decide +kernel
theorem dJ13_bitCount_95d88_35 : decode cJ13_bitCount_95d88 35 = .ok (.lload_n 0, 1) := by decide +kernel
theorem dJ13_bitCount_95d88_36 : decode cJ13_bitCount_95d88 36 = .ok (.bipush 8, 2) := by decide +kernel
theorem dJ13_bitCount_95d88_38 : decode cJ13_bitCount_95d88 38 = .ok (.lushr, 1) := by decide +kernel
theorem dJ13_bitCount_95d88_39 : decode cJ13_bitCount_95d88 39 = .ok (.ladd, 1) := by decide +kernel
theorem dJ13_bitCount_95d88_40 : decode cJ13_bitCount_95d88 40 = .ok (.lstore_n 0, 1) := by decide +kernel
theorem dJ13_bitCount_95d88_41 : decode cJ13_bitCount_95d88 41 = .ok (.lload_n 0, 1) := by decide +kernel
theorem dJ13_bitCount_95d88_42 : decode cJ13_bitCount_95d88 42 = .ok (.lload_n 0, 1) := by decide +kernel
theorem dJ13_bitCount_95d88_43 : decode cJ13_bitCount_95d88 43 = .ok (.bipush 16, 2) := by decide +kernel
theorem dJ13_bitCount_95d88_45 : decode cJ13_bitCount_95d88 45 = .ok (.lushr, 1) := by decide +kernel
theorem dJ13_bitCount_95d88_46 : decode cJ13_bitCount_95d88 46 = .ok (.ladd, 1) := by decide +kernel
theorem dJ13_bitCount_95d88_47 : decode cJ13_bitCount_95d88 47 = .ok (.lstore_n 0, 1) := by decide +kernel
theorem dJ13_bitCount_95d88_48 : decode cJ13_bitCount_95d88 48 = .ok (.lload_n 0, 1) := by decide +kernel
theorem dJ13_bitCount_95d88_49 : decode cJ13_bitCount_95d88 49 = .ok (.lload_n 0, 1) := by decide +kernel
theorem dJ13_bitCount_95d88_50 : decode cJ13_bitCount_95d88 50 = .ok (.bipush 32, 2) := by decide +kernel
theorem dJ13_bitCount_95d88_52 : decode cJ13_bitCount_95d88 52 = .ok (.lushr, 1) := by decide +kernel
theorem dJ13_bitCount_95d88_53 : decode cJ13_bitCount_95d88 53 = .ok (.ladd, 1) := by decide +kernel
theorem dJ13_bitCount_95d88_54 : decode cJ13_bitCount_95d88 54 = .ok (.lstore_n 0, 1) := by decide +kernel
theorem dJ13_bitCount_95d88_55 : decode cJ13_bitCount_95d88 55 = .ok (.lload_n 0, 1) := by decide +kernel
theorem dJ13_bitCount_95d88_56 : decode cJ13_bitCount_95d88 56 = .ok (.l2i, 1) := by decide +kernel
theorem dJ13_bitCount_95d88_57 : decode cJ13_bitCount_95d88 57 = .ok (.bipush 127, 2) := by decide +kernel
theorem dJ13_bitCount_95d88_59 : decode cJ13_bitCount_95d88 59 = .ok (.iand, 1) := by decide +kernel
theorem dJ13_bitCount_95d88_60 : decode cJ13_bitCount_95d88 60 = .ok (.ireturn, 1) := by decide +kernel
theorem dJ9_floorDiv_f86c9_0 : decode cJ9_floorDiv_f86c9 0 = .ok (.lload_n 0, 1) := by decide +kernel
theorem dJ9_floorDiv_f86c9_1 : decode cJ9_floorDiv_f86c9 1 = .ok (.lload_n 2, 1) := by decide +kernel
theorem dJ9_floorDiv_f86c9_2 : decode cJ9_floorDiv_f86c9 2 = .ok (.ldiv, 1) := by decide +kernel
theorem dJ9_floorDiv_f86c9_3 : decode cJ9_floorDiv_f86c9 3 = .ok (.lstore 4, 2) := by decide +kernel
theorem dJ9_floorDiv_f86c9_5 : decode cJ9_floorDiv_f86c9 5 = .ok (.lload_n 0, 1) := by decide +kernel
theorem dJ9_floorDiv_f86c9_6 : decode cJ9_floorDiv_f86c9 6 = .ok (.lload_n 2, 1) := by decide +kernel
theorem dJ9_floorDiv_f86c9_7 : decode cJ9_floorDiv_f86c9 7 = .ok (.lxor, 1) := by decide +kernel
theorem dJ9_floorDiv_f86c9_8 : decode cJ9_floorDiv_f86c9 8 = .ok (.lconst 0, 1) := by decide +kernel
theorem dJ9_floorDiv_f86c9_9 : decode cJ9_floorDiv_f86c9 9 = .ok (.lcmp, 1) := by decide +kernel
theorem dJ9_floorDiv_f86c9_10 : decode cJ9_floorDiv_f86c9 10 = .ok (.ifCond .ge 17, 3) := by decide +kernel
theorem dJ9_floorDiv_f86c9_13 : decode cJ9_floorDiv_f86c9 13 = .ok (.lload 4, 2) := by decide +kernel
theorem dJ9_floorDiv_f86c9_15 : decode cJ9_floorDiv_f86c9 15 = .ok (.lload_n 2, 1) := by decide +kernel
theorem dJ9_floorDiv_f86c9_16 : decode cJ9_floorDiv_f86c9 16 = .ok (.lmul, 1) := by decide +kernel
theorem dJ9_floorDiv_f86c9_17 : decode cJ9_floorDiv_f86c9 17 = .ok (.lload_n 0, 1) := by decide +kernel
theorem dJ9_floorDiv_f86c9_18 : decode cJ9_floorDiv_f86c9 18 = .ok (.lcmp, 1) := by decide +kernel
theorem dJ9_floorDiv_f86c9_19 : decode cJ9_floorDiv_f86c9 19 = .ok (.ifCond .eq 8, 3) := by decide +kernel
theorem dJ9_floorDiv_f86c9_22 : decode cJ9_floorDiv_f86c9 22 = .ok (.lload 4, 2) := by decide +kernel
theorem dJ9_floorDiv_f86c9_24 : decode cJ9_floorDiv_f86c9 24 = .ok (.lconst 1, 1) := by decide +kernel
theorem dJ9_floorDiv_f86c9_25 : decode cJ9_floorDiv_f86c9 25 = .ok (.lsub, 1) := by decide +kernel
theorem dJ9_floorDiv_f86c9_26 : decode cJ9_floorDiv_f86c9 26 = .ok (.lreturn, 1) := by decide +kernel
theorem dJ9_floorDiv_f86c9_27 : decode cJ9_floorDiv_f86c9 27 = .ok (.lload 4, 2) := by decide +kernel
theorem dJ9_floorDiv_f86c9_29 : decode cJ9_floorDiv_f86c9 29 = .ok (.lreturn, 1) := by decide +kernel
theorem dJ9_abs_067f4_0 : decode cJ9_abs_067f4 0 = .ok (.lload_n 0, 1) := by decide +kernel
theorem dJ9_abs_067f4_1 : decode cJ9_abs_067f4 1 = .ok (.lconst 0, 1) := by decide +kernel
theorem dJ9_abs_067f4_2 : decode cJ9_abs_067f4 2 = .ok (.lcmp, 1) := by decide +kernel
theorem dJ9_abs_067f4_3 : decode cJ9_abs_067f4 3 = .ok (.ifCond .ge 8, 3) := by decide +kernel
theorem dJ9_abs_067f4_6 : decode cJ9_abs_067f4 6 = .ok (.lload_n 0, 1) := by decide +kernel
theorem dJ9_abs_067f4_7 : decode cJ9_abs_067f4 7 = .ok (.lneg, 1) := by decide +kernel
theorem dJ9_abs_067f4_8 : decode cJ9_abs_067f4 8 = .ok (.goto 4, 3) := by decide +kernel
theorem dJ9_abs_067f4_11 : decode cJ9_abs_067f4 11 = .ok (.lload_n 0, 1) := by decide +kernel
theorem dJ9_abs_067f4_12 : decode cJ9_abs_067f4 12 = .ok (.lreturn, 1) := by decide +kernel
theorem dJ9_max_7cf53_0 : decode cJ9_max_7cf53 0 = .ok (.iload_n 0, 1) := by decide +kernel
theorem dJ9_max_7cf53_1 : decode cJ9_max_7cf53 1 = .ok (.iload_n 1, 1) := by decide +kernel
theorem dJ9_max_7cf53_2 : decode cJ9_max_7cf53 2 = .ok (.if_icmp .lt 7, 3) := by decide +kernel
theorem dJ9_max_7cf53_5 : decode cJ9_max_7cf53 5 = .ok (.iload_n 0, 1) := by decide +kernel
theorem dJ9_max_7cf53_6 : decode cJ9_max_7cf53 6 = .ok (.goto 4, 3) := by decide +kernel
theorem dJ9_max_7cf53_9 : decode cJ9_max_7cf53 9 = .ok (.iload_n 1, 1) := by decide +kernel
theorem dJ9_max_7cf53_10 : decode cJ9_max_7cf53 10 = .ok (.ireturn, 1) := by decide +kernel
theorem dJ9_max_f86c9_0 : decode cJ9_max_f86c9 0 = .ok (.lload_n 0, 1) := by decide +kernel
theorem dJ9_max_f86c9_1 : decode cJ9_max_f86c9 1 = .ok (.lload_n 2, 1) := by decide +kernel
theorem dJ9_max_f86c9_2 : decode cJ9_max_f86c9 2 = .ok (.lcmp, 1) := by decide +kernel
theorem dJ9_max_f86c9_3 : decode cJ9_max_f86c9 3 = .ok (.ifCond .lt 7, 3) := by decide +kernel
theorem dJ9_max_f86c9_6 : decode cJ9_max_f86c9 6 = .ok (.lload_n 0, 1) := by decide +kernel
theorem dJ9_max_f86c9_7 : decode cJ9_max_f86c9 7 = .ok (.goto 4, 3) := by decide +kernel
theorem dJ9_max_f86c9_10 : decode cJ9_max_f86c9 10 = .ok (.lload_n 2, 1) := by decide +kernel
theorem dJ9_max_f86c9_11 : decode cJ9_max_f86c9 11 = .ok (.lreturn, 1) := by decide +kernel
theorem dJ7_fill_53178_0 : decode cJ7_fill_53178 0 = .ok (.iconst 0, 1) := by decide +kernel
theorem dJ7_fill_53178_1 : decode cJ7_fill_53178 1 = .ok (.istore_n 2, 1) := by decide +kernel
theorem dJ7_fill_53178_2 : decode cJ7_fill_53178 2 = .ok (.aload_n 0, 1) := by decide +kernel
theorem dJ7_fill_53178_3 : decode cJ7_fill_53178 3 = .ok (.arraylength, 1) := by decide +kernel
theorem dJ7_fill_53178_4 : decode cJ7_fill_53178 4 = .ok (.istore_n 3, 1) := by decide +kernel
theorem dJ7_fill_53178_5 : decode cJ7_fill_53178 5 = .ok (.iload_n 2, 1) := by decide +kernel
theorem dJ7_fill_53178_6 : decode cJ7_fill_53178 6 = .ok (.iload_n 3, 1) := by decide +kernel
theorem dJ7_fill_53178_7 : decode cJ7_fill_53178 7 = .ok (.if_icmp .ge 13, 3) := by decide +kernel
theorem dJ7_fill_53178_10 : decode cJ7_fill_53178 10 = .ok (.aload_n 0, 1) := by decide +kernel
theorem dJ7_fill_53178_11 : decode cJ7_fill_53178 11 = .ok (.iload_n 2, 1) := by decide +kernel
theorem dJ7_fill_53178_12 : decode cJ7_fill_53178 12 = .ok (.iload_n 1, 1) := by decide +kernel
theorem dJ7_fill_53178_13 : decode cJ7_fill_53178 13 = .ok (.iastore, 1) := by decide +kernel
theorem dJ7_fill_53178_14 : decode cJ7_fill_53178 14 = .ok (.iinc 2 1, 3) := by decide +kernel
theorem dJ7_fill_53178_17 : decode cJ7_fill_53178 17 = .ok (.goto (-12), 3) := by decide +kernel
theorem dJ7_fill_53178_20 : decode cJ7_fill_53178 20 = .ok (.return_, 1) := by decide +kernel
theorem dL_law_0 : decode cL_law 0 = .ok (.new 7, 3) := by decide +kernel
theorem dL_law_3 : decode cL_law 3 = .ok (.dup, 1) := by decide +kernel
theorem dL_law_4 : decode cL_law 4 = .ok (.invokespecial 9, 3) := by decide +kernel
theorem dL_law_7 : decode cL_law 7 = .ok (.astore_n 1, 1) := by decide +kernel
theorem dL_law_8 : decode cL_law 8 = .ok (.new 10, 3) := by decide +kernel
theorem dL_law_11 : decode cL_law 11 = .ok (.dup, 1) := by decide +kernel
theorem dL_law_12 : decode cL_law 12 = .ok (.invokespecial 12, 3) := by decide +kernel
theorem dL_law_15 : decode cL_law 15 = .ok (.astore_n 2, 1) := by decide +kernel
theorem dL_law_16 : decode cL_law 16 = .ok (.iconst 0, 1) := by decide +kernel
theorem dL_law_17 : decode cL_law 17 = .ok (.istore_n 3, 1) := by decide +kernel
theorem dL_law_18 : decode cL_law 18 = .ok (.iload_n 3, 1) := by decide +kernel
theorem dL_law_19 : decode cL_law 19 = .ok (.aload_n 0, 1) := by decide +kernel
theorem dL_law_20 : decode cL_law 20 = .ok (.arraylength, 1) := by decide +kernel
theorem dL_law_21 : decode cL_law 21 = .ok (.iconst 5, 1) := by decide +kernel
theorem dL_law_22 : decode cL_law 22 = .ok (.isub, 1) := by decide +kernel
theorem dL_law_23 : decode cL_law 23 = .ok (.if_icmp .gt 1313, 3) := by decide +kernel
theorem dL_law_26 : decode cL_law 26 = .ok (.aload_n 0, 1) := by decide +kernel
theorem dL_law_27 : decode cL_law 27 = .ok (.iload_n 3, 1) := by decide +kernel
theorem dL_law_28 : decode cL_law 28 = .ok (.iaload, 1) := by decide +kernel
theorem dL_law_29 : decode cL_law 29 = .ok (.bipush 31, 2) := by decide +kernel
theorem dL_law_31 : decode cL_law 31 = .ok (.iand, 1) := by decide +kernel
theorem dL_law_32 : decode cL_law 32 = .ok (.tableswitch 1298 0 28 #[132, 166, 200, 254, 308, 352, 386, 400, 434, 468, 512, 556, 590, 644, 698, 752, 786, 810, 834, 868, 912, 956, 1030, 1094, 1148, 1182, 1196, 1240, 1274], 132) := by decide +kernel
theorem dL_law_164 : decode cL_law 164 = .ok (.aload_n 1, 1) := by decide +kernel
theorem dL_law_165 : decode cL_law 165 = .ok (.aload_n 0, 1) := by decide +kernel
theorem dL_law_166 : decode cL_law 166 = .ok (.iload_n 3, 1) := by decide +kernel
theorem dL_law_167 : decode cL_law 167 = .ok (.iconst 1, 1) := by decide +kernel
theorem dL_law_168 : decode cL_law 168 = .ok (.iadd, 1) := by decide +kernel
theorem dL_law_169 : decode cL_law 169 = .ok (.iaload, 1) := by decide +kernel
theorem dL_law_170 : decode cL_law 170 = .ok (.aload_n 0, 1) := by decide +kernel
theorem dL_law_171 : decode cL_law 171 = .ok (.iload_n 3, 1) := by decide +kernel
theorem dL_law_172 : decode cL_law 172 = .ok (.iconst 2, 1) := by decide +kernel
theorem dL_law_173 : decode cL_law 173 = .ok (.iadd, 1) := by decide +kernel
theorem dL_law_174 : decode cL_law 174 = .ok (.iaload, 1) := by decide +kernel
theorem dL_law_175 : decode cL_law 175 = .ok (.invokevirtual 13, 3) := by decide +kernel
theorem dL_law_178 : decode cL_law 178 = .ok (.aload_n 2, 1) := by decide +kernel
theorem dL_law_179 : decode cL_law 179 = .ok (.aload_n 0, 1) := by decide +kernel
theorem dL_law_180 : decode cL_law 180 = .ok (.iload_n 3, 1) := by decide +kernel
theorem dL_law_181 : decode cL_law 181 = .ok (.iconst 1, 1) := by decide +kernel
theorem dL_law_182 : decode cL_law 182 = .ok (.iadd, 1) := by decide +kernel
theorem dL_law_183 : decode cL_law 183 = .ok (.iaload, 1) := by decide +kernel
theorem dL_law_184 : decode cL_law 184 = .ok (.aload_n 0, 1) := by decide +kernel
theorem dL_law_185 : decode cL_law 185 = .ok (.iload_n 3, 1) := by decide +kernel
theorem dL_law_186 : decode cL_law 186 = .ok (.iconst 2, 1) := by decide +kernel
theorem dL_law_187 : decode cL_law 187 = .ok (.iadd, 1) := by decide +kernel
theorem dL_law_188 : decode cL_law 188 = .ok (.iaload, 1) := by decide +kernel
theorem dL_law_189 : decode cL_law 189 = .ok (.invokevirtual 17, 3) := by decide +kernel
theorem dL_law_192 : decode cL_law 192 = .ok (.lcmp, 1) := by decide +kernel
theorem dL_law_193 : decode cL_law 193 = .ok (.ifCond .eq 1137, 3) := by decide +kernel
theorem dL_law_196 : decode cL_law 196 = .ok (.iconst 0, 1) := by decide +kernel
theorem dL_law_197 : decode cL_law 197 = .ok (.ireturn, 1) := by decide +kernel
theorem dL_law_198 : decode cL_law 198 = .ok (.aload_n 1, 1) := by decide +kernel
theorem dL_law_199 : decode cL_law 199 = .ok (.aload_n 0, 1) := by decide +kernel
theorem dL_law_200 : decode cL_law 200 = .ok (.iload_n 3, 1) := by decide +kernel
theorem dL_law_201 : decode cL_law 201 = .ok (.iconst 1, 1) := by decide +kernel
theorem dL_law_202 : decode cL_law 202 = .ok (.iadd, 1) := by decide +kernel
theorem dL_law_203 : decode cL_law 203 = .ok (.iaload, 1) := by decide +kernel
theorem dL_law_204 : decode cL_law 204 = .ok (.aload_n 0, 1) := by decide +kernel
theorem dL_law_205 : decode cL_law 205 = .ok (.iload_n 3, 1) := by decide +kernel
theorem dL_law_206 : decode cL_law 206 = .ok (.iconst 2, 1) := by decide +kernel
theorem dL_law_207 : decode cL_law 207 = .ok (.iadd, 1) := by decide +kernel
theorem dL_law_208 : decode cL_law 208 = .ok (.iaload, 1) := by decide +kernel
theorem dL_law_209 : decode cL_law 209 = .ok (.invokevirtual 18, 3) := by decide +kernel
theorem dL_law_212 : decode cL_law 212 = .ok (.aload_n 2, 1) := by decide +kernel
theorem dL_law_213 : decode cL_law 213 = .ok (.aload_n 0, 1) := by decide +kernel
theorem dL_law_214 : decode cL_law 214 = .ok (.iload_n 3, 1) := by decide +kernel
theorem dL_law_215 : decode cL_law 215 = .ok (.iconst 1, 1) := by decide +kernel
theorem dL_law_216 : decode cL_law 216 = .ok (.iadd, 1) := by decide +kernel
theorem dL_law_217 : decode cL_law 217 = .ok (.iaload, 1) := by decide +kernel
theorem dL_law_218 : decode cL_law 218 = .ok (.aload_n 0, 1) := by decide +kernel
theorem dL_law_219 : decode cL_law 219 = .ok (.iload_n 3, 1) := by decide +kernel
theorem dL_law_220 : decode cL_law 220 = .ok (.iconst 2, 1) := by decide +kernel
theorem dL_law_221 : decode cL_law 221 = .ok (.iadd, 1) := by decide +kernel
theorem dL_law_222 : decode cL_law 222 = .ok (.iaload, 1) := by decide +kernel
theorem dL_law_223 : decode cL_law 223 = .ok (.invokevirtual 21, 3) := by decide +kernel
theorem dL_law_226 : decode cL_law 226 = .ok (.lcmp, 1) := by decide +kernel
theorem dL_law_227 : decode cL_law 227 = .ok (.ifCond .eq 1103, 3) := by decide +kernel
theorem dL_law_230 : decode cL_law 230 = .ok (.iconst 0, 1) := by decide +kernel
theorem dL_law_231 : decode cL_law 231 = .ok (.ireturn, 1) := by decide +kernel
theorem dL_law_232 : decode cL_law 232 = .ok (.aload_n 1, 1) := by decide +kernel
theorem dL_law_233 : decode cL_law 233 = .ok (.aload_n 0, 1) := by decide +kernel
theorem dL_law_234 : decode cL_law 234 = .ok (.iload_n 3, 1) := by decide +kernel
theorem dL_law_235 : decode cL_law 235 = .ok (.iconst 1, 1) := by decide +kernel
theorem dL_law_236 : decode cL_law 236 = .ok (.iadd, 1) := by decide +kernel
theorem dL_law_237 : decode cL_law 237 = .ok (.iaload, 1) := by decide +kernel
theorem dL_law_238 : decode cL_law 238 = .ok (.aload_n 0, 1) := by decide +kernel
theorem dL_law_239 : decode cL_law 239 = .ok (.iload_n 3, 1) := by decide +kernel
theorem dL_law_240 : decode cL_law 240 = .ok (.iconst 2, 1) := by decide +kernel
theorem dL_law_241 : decode cL_law 241 = .ok (.iadd, 1) := by decide +kernel
theorem dL_law_242 : decode cL_law 242 = .ok (.iaload, 1) := by decide +kernel
theorem dL_law_243 : decode cL_law 243 = .ok (.aload_n 0, 1) := by decide +kernel
theorem dL_law_244 : decode cL_law 244 = .ok (.iload_n 3, 1) := by decide +kernel
theorem dL_law_245 : decode cL_law 245 = .ok (.iconst 3, 1) := by decide +kernel
theorem dL_law_246 : decode cL_law 246 = .ok (.iadd, 1) := by decide +kernel
theorem dL_law_247 : decode cL_law 247 = .ok (.iaload, 1) := by decide +kernel
theorem dL_law_248 : decode cL_law 248 = .ok (.aload_n 0, 1) := by decide +kernel
theorem dL_law_249 : decode cL_law 249 = .ok (.iload_n 3, 1) := by decide +kernel
theorem dL_law_250 : decode cL_law 250 = .ok (.iconst 4, 1) := by decide +kernel
theorem dL_law_251 : decode cL_law 251 = .ok (.iadd, 1) := by decide +kernel
theorem dL_law_252 : decode cL_law 252 = .ok (.iaload, 1) := by decide +kernel
theorem dL_law_253 : decode cL_law 253 = .ok (.invokevirtual 22, 3) := by decide +kernel
theorem dL_law_256 : decode cL_law 256 = .ok (.aload_n 2, 1) := by decide +kernel
theorem dL_law_257 : decode cL_law 257 = .ok (.aload_n 0, 1) := by decide +kernel
theorem dL_law_258 : decode cL_law 258 = .ok (.iload_n 3, 1) := by decide +kernel
theorem dL_law_259 : decode cL_law 259 = .ok (.iconst 1, 1) := by decide +kernel
theorem dL_law_260 : decode cL_law 260 = .ok (.iadd, 1) := by decide +kernel
theorem dL_law_261 : decode cL_law 261 = .ok (.iaload, 1) := by decide +kernel
theorem dL_law_262 : decode cL_law 262 = .ok (.aload_n 0, 1) := by decide +kernel
theorem dL_law_263 : decode cL_law 263 = .ok (.iload_n 3, 1) := by decide +kernel
theorem dL_law_264 : decode cL_law 264 = .ok (.iconst 2, 1) := by decide +kernel
theorem dL_law_265 : decode cL_law 265 = .ok (.iadd, 1) := by decide +kernel
theorem dL_law_266 : decode cL_law 266 = .ok (.iaload, 1) := by decide +kernel
theorem dL_law_267 : decode cL_law 267 = .ok (.aload_n 0, 1) := by decide +kernel
theorem dL_law_268 : decode cL_law 268 = .ok (.iload_n 3, 1) := by decide +kernel
theorem dL_law_269 : decode cL_law 269 = .ok (.iconst 3, 1) := by decide +kernel
theorem dL_law_270 : decode cL_law 270 = .ok (.iadd, 1) := by decide +kernel
theorem dL_law_271 : decode cL_law 271 = .ok (.iaload, 1) := by decide +kernel
theorem dL_law_272 : decode cL_law 272 = .ok (.aload_n 0, 1) := by decide +kernel
theorem dL_law_273 : decode cL_law 273 = .ok (.iload_n 3, 1) := by decide +kernel
theorem dL_law_274 : decode cL_law 274 = .ok (.iconst 4, 1) := by decide +kernel
theorem dL_law_275 : decode cL_law 275 = .ok (.iadd, 1) := by decide +kernel
theorem dL_law_276 : decode cL_law 276 = .ok (.iaload, 1) := by decide +kernel
theorem dL_law_277 : decode cL_law 277 = .ok (.invokevirtual 26, 3) := by decide +kernel
theorem dL_law_280 : decode cL_law 280 = .ok (.lcmp, 1) := by decide +kernel
theorem dL_law_281 : decode cL_law 281 = .ok (.ifCond .eq 1049, 3) := by decide +kernel
theorem dL_law_284 : decode cL_law 284 = .ok (.iconst 0, 1) := by decide +kernel
theorem dL_law_285 : decode cL_law 285 = .ok (.ireturn, 1) := by decide +kernel
theorem dL_law_286 : decode cL_law 286 = .ok (.aload_n 1, 1) := by decide +kernel
theorem dL_law_287 : decode cL_law 287 = .ok (.aload_n 0, 1) := by decide +kernel
theorem dL_law_288 : decode cL_law 288 = .ok (.iload_n 3, 1) := by decide +kernel
