theorem dX11_spell_12 : decode cX11_spell 12 = .ok (.aload_n 0, 1) := by decide +kernel
theorem dX11_spell_13 : decode cX11_spell 13 = .ok (.getfield 65, 3) := by decide +kernel
theorem dX11_spell_16 : decode cX11_spell 16 = .ok (.iload 7, 2) := by decide +kernel
theorem dX11_spell_18 : decode cX11_spell 18 = .ok (.lload 5, 2) := by decide +kernel
theorem dX11_spell_20 : decode cX11_spell 20 = .ok (.ldc2_w 124, 3) := by decide +kernel
theorem dX11_spell_23 : decode cX11_spell 23 = .ok (.lrem, 1) := by decide +kernel
theorem dX11_spell_24 : decode cX11_spell 24 = .ok (.lastore, 1) := by decide +kernel
theorem dX11_spell_25 : decode cX11_spell 25 = .ok (.lload 5, 2) := by decide +kernel
theorem dX11_spell_27 : decode cX11_spell 27 = .ok (.ldc2_w 124, 3) := by decide +kernel
theorem dX11_spell_30 : decode cX11_spell 30 = .ok (.ldiv, 1) := by decide +kernel
theorem dX11_spell_31 : decode cX11_spell 31 = .ok (.lstore 5, 2) := by decide +kernel
theorem dX11_spell_33 : decode cX11_spell 33 = .ok (.iinc 7 1, 3) := by decide +kernel
theorem dX11_spell_36 : decode cX11_spell 36 = .ok (.goto (-30), 3) := by decide +kernel
theorem dX11_spell_39 : decode cX11_spell 39 = .ok (.lload_n 1, 1) := by decide +kernel
theorem dX11_spell_40 : decode cX11_spell 40 = .ok (.lstore 5, 2) := by decide +kernel
theorem dX11_spell_42 : decode cX11_spell 42 = .ok (.iconst 5, 1) := by decide +kernel
theorem dX11_spell_43 : decode cX11_spell 43 = .ok (.istore 7, 2) := by decide +kernel
theorem dX11_spell_45 : decode cX11_spell 45 = .ok (.iload 7, 2) := by decide +kernel
theorem dX11_spell_47 : decode cX11_spell 47 = .ok (.bipush 12, 2) := by decide +kernel
theorem dX11_spell_49 : decode cX11_spell 49 = .ok (.if_icmp .ge 30, 3) := by decide +kernel
theorem dX11_spell_52 : decode cX11_spell 52 = .ok (.aload_n 0, 1) := by decide +kernel
theorem dX11_spell_53 : decode cX11_spell 53 = .ok (.getfield 65, 3) := by decide +kernel
theorem dX11_spell_56 : decode cX11_spell 56 = .ok (.iload 7, 2) := by decide +kernel
theorem dX11_spell_58 : decode cX11_spell 58 = .ok (.lload 5, 2) := by decide +kernel
theorem dX11_spell_60 : decode cX11_spell 60 = .ok (.ldc2_w 124, 3) := by decide +kernel
theorem dX11_spell_63 : decode cX11_spell 63 = .ok (.lrem, 1) := by decide +kernel
theorem dX11_spell_64 : decode cX11_spell 64 = .ok (.lastore, 1) := by decide +kernel
theorem dX11_spell_65 : decode cX11_spell 65 = .ok (.lload 5, 2) := by decide +kernel
theorem dX11_spell_67 : decode cX11_spell 67 = .ok (.ldc2_w 124, 3) := by decide +kernel
theorem dX11_spell_70 : decode cX11_spell 70 = .ok (.ldiv, 1) := by decide +kernel
theorem dX11_spell_71 : decode cX11_spell 71 = .ok (.lstore 5, 2) := by decide +kernel
theorem dX11_spell_73 : decode cX11_spell 73 = .ok (.iinc 7 1, 3) := by decide +kernel
theorem dX11_spell_76 : decode cX11_spell 76 = .ok (.goto (-31), 3) := by decide +kernel
theorem dX11_spell_79 : decode cX11_spell 79 = .ok (.return_, 1) := by decide +kernel
theorem dX11_restBy_0 : decode cX11_restBy 0 = .ok (.lconst 0, 1) := by decide +kernel
theorem dX11_restBy_1 : decode cX11_restBy 1 = .ok (.lstore_n 3, 1) := by decide +kernel
theorem dX11_restBy_2 : decode cX11_restBy 2 = .ok (.bipush 11, 2) := by decide +kernel
theorem dX11_restBy_4 : decode cX11_restBy 4 = .ok (.istore 5, 2) := by decide +kernel
theorem dX11_restBy_6 : decode cX11_restBy 6 = .ok (.iload 5, 2) := by decide +kernel
theorem dX11_restBy_8 : decode cX11_restBy 8 = .ok (.ifCond .lt 25, 3) := by decide +kernel
theorem dX11_restBy_11 : decode cX11_restBy 11 = .ok (.lload_n 3, 1) := by decide +kernel
theorem dX11_restBy_12 : decode cX11_restBy 12 = .ok (.ldc2_w 124, 3) := by decide +kernel
theorem dX11_restBy_15 : decode cX11_restBy 15 = .ok (.lmul, 1) := by decide +kernel
theorem dX11_restBy_16 : decode cX11_restBy 16 = .ok (.aload_n 0, 1) := by decide +kernel
theorem dX11_restBy_17 : decode cX11_restBy 17 = .ok (.getfield 65, 3) := by decide +kernel
theorem dX11_restBy_20 : decode cX11_restBy 20 = .ok (.iload 5, 2) := by decide +kernel
theorem dX11_restBy_22 : decode cX11_restBy 22 = .ok (.laload, 1) := by decide +kernel
theorem dX11_restBy_23 : decode cX11_restBy 23 = .ok (.ladd, 1) := by decide +kernel
theorem dX11_restBy_24 : decode cX11_restBy 24 = .ok (.lload_n 1, 1) := by decide +kernel
theorem dX11_restBy_25 : decode cX11_restBy 25 = .ok (.lrem, 1) := by decide +kernel
theorem dX11_restBy_26 : decode cX11_restBy 26 = .ok (.lstore_n 3, 1) := by decide +kernel
theorem dX11_restBy_27 : decode cX11_restBy 27 = .ok (.iinc 5 (-1), 3) := by decide +kernel
theorem dX11_restBy_30 : decode cX11_restBy 30 = .ok (.goto (-24), 3) := by decide +kernel
theorem dX11_restBy_33 : decode cX11_restBy 33 = .ok (.lload_n 3, 1) := by decide +kernel
theorem dX11_restBy_34 : decode cX11_restBy 34 = .ok (.lreturn, 1) := by decide +kernel
theorem dX11_divided_0 : decode cX11_divided 0 = .ok (.lconst 0, 1) := by decide +kernel
theorem dX11_divided_1 : decode cX11_divided 1 = .ok (.lstore_n 3, 1) := by decide +kernel
theorem dX11_divided_2 : decode cX11_divided 2 = .ok (.lconst 0, 1) := by decide +kernel
theorem dX11_divided_3 : decode cX11_divided 3 = .ok (.lstore 5, 2) := by decide +kernel
theorem dX11_divided_5 : decode cX11_divided 5 = .ok (.bipush 11, 2) := by decide +kernel
theorem dX11_divided_7 : decode cX11_divided 7 = .ok (.istore 7, 2) := by decide +kernel
theorem dX11_divided_9 : decode cX11_divided 9 = .ok (.iload 7, 2) := by decide +kernel
theorem dX11_divided_11 : decode cX11_divided 11 = .ok (.ifCond .lt 55, 3) := by decide +kernel
theorem dX11_divided_14 : decode cX11_divided 14 = .ok (.lload_n 3, 1) := by decide +kernel
theorem dX11_divided_15 : decode cX11_divided 15 = .ok (.ldc2_w 124, 3) := by decide +kernel
theorem dX11_divided_18 : decode cX11_divided 18 = .ok (.lmul, 1) := by decide +kernel
theorem dX11_divided_19 : decode cX11_divided 19 = .ok (.aload_n 0, 1) := by decide +kernel
theorem dX11_divided_20 : decode cX11_divided 20 = .ok (.getfield 65, 3) := by decide +kernel
theorem dX11_divided_23 : decode cX11_divided 23 = .ok (.iload 7, 2) := by decide +kernel
theorem dX11_divided_25 : decode cX11_divided 25 = .ok (.laload, 1) := by decide +kernel
theorem dX11_divided_26 : decode cX11_divided 26 = .ok (.ladd, 1) := by decide +kernel
theorem dX11_divided_27 : decode cX11_divided 27 = .ok (.lstore_n 3, 1) := by decide +kernel
theorem dX11_divided_28 : decode cX11_divided 28 = .ok (.lload 5, 2) := by decide +kernel
theorem dX11_divided_30 : decode cX11_divided 30 = .ok (.ldc2_w 124, 3) := by decide +kernel
theorem dX11_divided_33 : decode cX11_divided 33 = .ok (.lmul, 1) := by decide +kernel
theorem dX11_divided_34 : decode cX11_divided 34 = .ok (.lload_n 3, 1) := by decide +kernel
theorem dX11_divided_35 : decode cX11_divided 35 = .ok (.lload_n 1, 1) := by decide +kernel
theorem dX11_divided_36 : decode cX11_divided 36 = .ok (.ldiv, 1) := by decide +kernel
theorem dX11_divided_37 : decode cX11_divided 37 = .ok (.ladd, 1) := by decide +kernel
theorem dX11_divided_38 : decode cX11_divided 38 = .ok (.lstore 5, 2) := by decide +kernel
theorem dX11_divided_40 : decode cX11_divided 40 = .ok (.lload_n 3, 1) := by decide +kernel
theorem dX11_divided_41 : decode cX11_divided 41 = .ok (.lload_n 1, 1) := by decide +kernel
theorem dX11_divided_42 : decode cX11_divided 42 = .ok (.lrem, 1) := by decide +kernel
theorem dX11_divided_43 : decode cX11_divided 43 = .ok (.lstore_n 3, 1) := by decide +kernel
theorem dX11_divided_44 : decode cX11_divided 44 = .ok (.lload 5, 2) := by decide +kernel
theorem dX11_divided_46 : decode cX11_divided 46 = .ok (.ldc2_w 116, 3) := by decide +kernel
theorem dX11_divided_49 : decode cX11_divided 49 = .ok (.lcmp, 1) := by decide +kernel
theorem dX11_divided_50 : decode cX11_divided 50 = .ok (.ifCond .lt 10, 3) := by decide +kernel
theorem dX11_divided_53 : decode cX11_divided 53 = .ok (.aload_n 0, 1) := by decide +kernel
theorem dX11_divided_54 : decode cX11_divided 54 = .ok (.iconst 1, 1) := by decide +kernel
theorem dX11_divided_55 : decode cX11_divided 55 = .ok (.putfield 103, 3) := by decide +kernel
theorem dX11_divided_58 : decode cX11_divided 58 = .ok (.lconst 1, 1) := by decide +kernel
theorem dX11_divided_59 : decode cX11_divided 59 = .ok (.lreturn, 1) := by decide +kernel
theorem dX11_divided_60 : decode cX11_divided 60 = .ok (.iinc 7 (-1), 3) := by decide +kernel
theorem dX11_divided_63 : decode cX11_divided 63 = .ok (.goto (-54), 3) := by decide +kernel
theorem dX11_divided_66 : decode cX11_divided 66 = .ok (.lload 5, 2) := by decide +kernel
theorem dX11_divided_68 : decode cX11_divided 68 = .ok (.lreturn, 1) := by decide +kernel
theorem dX11_bound_0 : decode cX11_bound 0 = .ok (.aload_n 0, 1) := by decide +kernel
theorem dX11_bound_1 : decode cX11_bound 1 = .ok (.aload_n 0, 1) := by decide +kernel
theorem dX11_bound_2 : decode cX11_bound 2 = .ok (.getfield 103, 3) := by decide +kernel
theorem dX11_bound_5 : decode cX11_bound 5 = .ok (.ifCond .ne 14, 3) := by decide +kernel
theorem dX11_bound_8 : decode cX11_bound 8 = .ok (.aload_n 0, 1) := by decide +kernel
theorem dX11_bound_9 : decode cX11_bound 9 = .ok (.getfield 118, 3) := by decide +kernel
theorem dX11_bound_12 : decode cX11_bound 12 = .ok (.ldc2_w 124, 3) := by decide +kernel
theorem dX11_bound_15 : decode cX11_bound 15 = .ok (.lcmp, 1) := by decide +kernel
theorem dX11_bound_16 : decode cX11_bound 16 = .ok (.ifCond .lt 7, 3) := by decide +kernel
theorem dX11_bound_19 : decode cX11_bound 19 = .ok (.iconst 1, 1) := by decide +kernel
theorem dX11_bound_20 : decode cX11_bound 20 = .ok (.goto 4, 3) := by decide +kernel
theorem dX11_bound_23 : decode cX11_bound 23 = .ok (.iconst 0, 1) := by decide +kernel
theorem dX11_bound_24 : decode cX11_bound 24 = .ok (.putfield 103, 3) := by decide +kernel
theorem dX11_bound_27 : decode cX11_bound 27 = .ok (.return_, 1) := by decide +kernel
theorem dX11_plus_0 : decode cX11_plus 0 = .ok (.aload_n 0, 1) := by decide +kernel
theorem dX11_plus_1 : decode cX11_plus 1 = .ok (.getfield 98, 3) := by decide +kernel
theorem dX11_plus_4 : decode cX11_plus 4 = .ok (.lload_n 3, 1) := by decide +kernel
theorem dX11_plus_5 : decode cX11_plus 5 = .ok (.invokestatic 90, 3) := by decide +kernel
theorem dX11_plus_8 : decode cX11_plus 8 = .ok (.lstore 5, 2) := by decide +kernel
theorem dX11_plus_10 : decode cX11_plus 10 = .ok (.aload_n 0, 1) := by decide +kernel
theorem dX11_plus_11 : decode cX11_plus 11 = .ok (.getfield 98, 3) := by decide +kernel
theorem dX11_plus_14 : decode cX11_plus 14 = .ok (.lload 5, 2) := by decide +kernel
theorem dX11_plus_16 : decode cX11_plus 16 = .ok (.ldiv, 1) := by decide +kernel
theorem dX11_plus_17 : decode cX11_plus 17 = .ok (.lstore 7, 2) := by decide +kernel
theorem dX11_plus_19 : decode cX11_plus 19 = .ok (.lload_n 3, 1) := by decide +kernel
theorem dX11_plus_20 : decode cX11_plus 20 = .ok (.lload 5, 2) := by decide +kernel
theorem dX11_plus_22 : decode cX11_plus 22 = .ok (.ldiv, 1) := by decide +kernel
theorem dX11_plus_23 : decode cX11_plus 23 = .ok (.lstore 9, 2) := by decide +kernel
theorem dX11_plus_25 : decode cX11_plus 25 = .ok (.aload_n 0, 1) := by decide +kernel
theorem dX11_plus_26 : decode cX11_plus 26 = .ok (.getfield 94, 3) := by decide +kernel
theorem dX11_plus_29 : decode cX11_plus 29 = .ok (.lconst 0, 1) := by decide +kernel
theorem dX11_plus_30 : decode cX11_plus 30 = .ok (.lcmp, 1) := by decide +kernel
theorem dX11_plus_31 : decode cX11_plus 31 = .ok (.ifCond .ge 7, 3) := by decide +kernel
theorem dX11_plus_34 : decode cX11_plus 34 = .ok (.iconst 1, 1) := by decide +kernel
theorem dX11_plus_35 : decode cX11_plus 35 = .ok (.goto 4, 3) := by decide +kernel
theorem dX11_plus_38 : decode cX11_plus 38 = .ok (.iconst 0, 1) := by decide +kernel
theorem dX11_plus_39 : decode cX11_plus 39 = .ok (.istore 11, 2) := by decide +kernel
theorem dX11_plus_41 : decode cX11_plus 41 = .ok (.aload_n 0, 1) := by decide +kernel
theorem dX11_plus_42 : decode cX11_plus 42 = .ok (.aload_n 0, 1) := by decide +kernel
theorem dX11_plus_43 : decode cX11_plus 43 = .ok (.getfield 98, 3) := by decide +kernel
theorem dX11_plus_46 : decode cX11_plus 46 = .ok (.lload 9, 2) := by decide +kernel
theorem dX11_plus_48 : decode cX11_plus 48 = .ok (.invokevirtual 126, 3) := by decide +kernel
theorem dX11_plus_51 : decode cX11_plus 51 = .ok (.aload_n 0, 1) := by decide +kernel
theorem dX11_plus_52 : decode cX11_plus 52 = .ok (.invokevirtual 130, 3) := by decide +kernel
theorem dX11_plus_55 : decode cX11_plus 55 = .ok (.aload_n 0, 1) := by decide +kernel
theorem dX11_plus_56 : decode cX11_plus 56 = .ok (.iload 11, 2) := by decide +kernel
theorem dX11_plus_58 : decode cX11_plus 58 = .ok (.ifCond .eq 11, 3) := by decide +kernel
theorem dX11_plus_61 : decode cX11_plus 61 = .ok (.aload_n 0, 1) := by decide +kernel
theorem dX11_plus_62 : decode cX11_plus 62 = .ok (.getfield 94, 3) := by decide +kernel
theorem dX11_plus_65 : decode cX11_plus 65 = .ok (.lneg, 1) := by decide +kernel
theorem dX11_plus_66 : decode cX11_plus 66 = .ok (.goto 7, 3) := by decide +kernel
theorem dX11_plus_69 : decode cX11_plus 69 = .ok (.aload_n 0, 1) := by decide +kernel
theorem dX11_plus_70 : decode cX11_plus 70 = .ok (.getfield 94, 3) := by decide +kernel
theorem dX11_plus_73 : decode cX11_plus 73 = .ok (.lload 9, 2) := by decide +kernel
theorem dX11_plus_75 : decode cX11_plus 75 = .ok (.invokevirtual 126, 3) := by decide +kernel
theorem dX11_plus_78 : decode cX11_plus 78 = .ok (.aload_n 0, 1) := by decide +kernel
theorem dX11_plus_79 : decode cX11_plus 79 = .ok (.invokevirtual 130, 3) := by decide +kernel
theorem dX11_plus_82 : decode cX11_plus 82 = .ok (.aload_n 0, 1) := by decide +kernel
theorem dX11_plus_83 : decode cX11_plus 83 = .ok (.getfield 118, 3) := by decide +kernel
theorem dX11_plus_86 : decode cX11_plus 86 = .ok (.lstore 12, 2) := by decide +kernel
theorem dX11_plus_88 : decode cX11_plus 88 = .ok (.aload_n 0, 1) := by decide +kernel
theorem dX11_plus_89 : decode cX11_plus 89 = .ok (.getfield 121, 3) := by decide +kernel
theorem dX11_plus_92 : decode cX11_plus 92 = .ok (.lstore 14, 2) := by decide +kernel
theorem dX11_plus_94 : decode cX11_plus 94 = .ok (.lload_n 1, 1) := by decide +kernel
theorem dX11_plus_95 : decode cX11_plus 95 = .ok (.lconst 0, 1) := by decide +kernel
theorem dX11_plus_96 : decode cX11_plus 96 = .ok (.lcmp, 1) := by decide +kernel
theorem dX11_plus_97 : decode cX11_plus 97 = .ok (.ifCond .ge 7, 3) := by decide +kernel
theorem dX11_plus_100 : decode cX11_plus 100 = .ok (.iconst 1, 1) := by decide +kernel
theorem dX11_plus_101 : decode cX11_plus 101 = .ok (.goto 4, 3) := by decide +kernel
theorem dX11_plus_104 : decode cX11_plus 104 = .ok (.iconst 0, 1) := by decide +kernel
theorem dX11_plus_105 : decode cX11_plus 105 = .ok (.istore 16, 2) := by decide +kernel
theorem dX11_plus_107 : decode cX11_plus 107 = .ok (.aload_n 0, 1) := by decide +kernel
theorem dX11_plus_108 : decode cX11_plus 108 = .ok (.iload 16, 2) := by decide +kernel
theorem dX11_plus_110 : decode cX11_plus 110 = .ok (.ifCond .eq 8, 3) := by decide +kernel
theorem dX11_plus_113 : decode cX11_plus 113 = .ok (.lload_n 1, 1) := by decide +kernel
theorem dX11_plus_114 : decode cX11_plus 114 = .ok (.lneg, 1) := by decide +kernel
theorem dX11_plus_115 : decode cX11_plus 115 = .ok (.goto 4, 3) := by decide +kernel
theorem dX11_plus_118 : decode cX11_plus 118 = .ok (.lload_n 1, 1) := by decide +kernel
theorem dX11_plus_119 : decode cX11_plus 119 = .ok (.lload 7, 2) := by decide +kernel
theorem dX11_plus_121 : decode cX11_plus 121 = .ok (.invokevirtual 126, 3) := by decide +kernel
theorem dX11_plus_124 : decode cX11_plus 124 = .ok (.aload_n 0, 1) := by decide +kernel
theorem dX11_plus_125 : decode cX11_plus 125 = .ok (.invokevirtual 130, 3) := by decide +kernel
theorem dX11_plus_128 : decode cX11_plus 128 = .ok (.iload 11, 2) := by decide +kernel
theorem dX11_plus_130 : decode cX11_plus 130 = .ok (.iload 16, 2) := by decide +kernel
theorem dX11_plus_132 : decode cX11_plus 132 = .ok (.if_icmp .ne 47, 3) := by decide +kernel
theorem dX11_plus_135 : decode cX11_plus 135 = .ok (.lload 12, 2) := by decide +kernel
theorem dX11_plus_137 : decode cX11_plus 137 = .ok (.aload_n 0, 1) := by decide +kernel
theorem dX11_plus_138 : decode cX11_plus 138 = .ok (.getfield 118, 3) := by decide +kernel
theorem dX11_plus_141 : decode cX11_plus 141 = .ok (.ladd, 1) := by decide +kernel
theorem dX11_plus_142 : decode cX11_plus 142 = .ok (.lstore 12, 2) := by decide +kernel
theorem dX11_plus_144 : decode cX11_plus 144 = .ok (.lload 14, 2) := by decide +kernel
theorem dX11_plus_146 : decode cX11_plus 146 = .ok (.aload_n 0, 1) := by decide +kernel
theorem dX11_plus_147 : decode cX11_plus 147 = .ok (.getfield 121, 3) := by decide +kernel
theorem dX11_plus_150 : decode cX11_plus 150 = .ok (.ladd, 1) := by decide +kernel
theorem dX11_plus_151 : decode cX11_plus 151 = .ok (.lstore 14, 2) := by decide +kernel
theorem dX11_plus_153 : decode cX11_plus 153 = .ok (.lload 14, 2) := by decide +kernel
theorem dX11_plus_155 : decode cX11_plus 155 = .ok (.ldc2_w 116, 3) := by decide +kernel
theorem dX11_plus_158 : decode cX11_plus 158 = .ok (.lcmp, 1) := by decide +kernel
theorem dX11_plus_159 : decode cX11_plus 159 = .ok (.ifCond .lt 148, 3) := by decide +kernel
theorem dX11_plus_162 : decode cX11_plus 162 = .ok (.lload 14, 2) := by decide +kernel
theorem dX11_plus_164 : decode cX11_plus 164 = .ok (.ldc2_w 116, 3) := by decide +kernel
theorem dX11_plus_167 : decode cX11_plus 167 = .ok (.lsub, 1) := by decide +kernel
theorem dX11_plus_168 : decode cX11_plus 168 = .ok (.lstore 14, 2) := by decide +kernel
theorem dX11_plus_170 : decode cX11_plus 170 = .ok (.lload 12, 2) := by decide +kernel
theorem dX11_plus_172 : decode cX11_plus 172 = .ok (.lconst 1, 1) := by decide +kernel
theorem dX11_plus_173 : decode cX11_plus 173 = .ok (.ladd, 1) := by decide +kernel
theorem dX11_plus_174 : decode cX11_plus 174 = .ok (.lstore 12, 2) := by decide +kernel
theorem dX11_plus_176 : decode cX11_plus 176 = .ok (.goto 131, 3) := by decide +kernel
theorem dX11_plus_179 : decode cX11_plus 179 = .ok (.lload 12, 2) := by decide +kernel
theorem dX11_plus_181 : decode cX11_plus 181 = .ok (.aload_n 0, 1) := by decide +kernel
theorem dX11_plus_182 : decode cX11_plus 182 = .ok (.getfield 118, 3) := by decide +kernel
theorem dX11_plus_185 : decode cX11_plus 185 = .ok (.lcmp, 1) := by decide +kernel
theorem dX11_plus_186 : decode cX11_plus 186 = .ok (.ifCond .lt 23, 3) := by decide +kernel
theorem dX11_plus_189 : decode cX11_plus 189 = .ok (.lload 12, 2) := by decide +kernel
theorem dX11_plus_191 : decode cX11_plus 191 = .ok (.aload_n 0, 1) := by decide +kernel
theorem dX11_plus_192 : decode cX11_plus 192 = .ok (.getfield 118, 3) := by decide +kernel
theorem dX11_plus_195 : decode cX11_plus 195 = .ok (.lcmp, 1) := by decide +kernel
theorem dX11_plus_196 : decode cX11_plus 196 = .ok (.ifCond .ne 17, 3) := by decide +kernel
theorem dX11_plus_199 : decode cX11_plus 199 = .ok (.lload 14, 2) := by decide +kernel
theorem dX11_plus_201 : decode cX11_plus 201 = .ok (.aload_n 0, 1) := by decide +kernel
theorem dX11_plus_202 : decode cX11_plus 202 = .ok (.getfield 121, 3) := by decide +kernel
theorem dX11_plus_205 : decode cX11_plus 205 = .ok (.lcmp, 1) := by decide +kernel
theorem dX11_plus_206 : decode cX11_plus 206 = .ok (.ifCond .ge 7, 3) := by decide +kernel
theorem dX11_plus_209 : decode cX11_plus 209 = .ok (.iconst 1, 1) := by decide +kernel
theorem dX11_plus_210 : decode cX11_plus 210 = .ok (.goto 4, 3) := by decide +kernel
theorem dX11_plus_213 : decode cX11_plus 213 = .ok (.iconst 0, 1) := by decide +kernel
theorem dX11_plus_214 : decode cX11_plus 214 = .ok (.istore 17, 2) := by decide +kernel
theorem dX11_plus_216 : decode cX11_plus 216 = .ok (.iload 17, 2) := by decide +kernel
theorem dX11_plus_218 : decode cX11_plus 218 = .ok (.ifCond .eq 13, 3) := by decide +kernel
theorem dX11_plus_221 : decode cX11_plus 221 = .ok (.aload_n 0, 1) := by decide +kernel
theorem dX11_plus_222 : decode cX11_plus 222 = .ok (.getfield 118, 3) := by decide +kernel
theorem dX11_plus_225 : decode cX11_plus 225 = .ok (.lload 12, 2) := by decide +kernel
theorem dX11_plus_227 : decode cX11_plus 227 = .ok (.lsub, 1) := by decide +kernel
theorem dX11_plus_228 : decode cX11_plus 228 = .ok (.goto 10, 3) := by decide +kernel
theorem dX11_plus_231 : decode cX11_plus 231 = .ok (.lload 12, 2) := by decide +kernel
theorem dX11_plus_233 : decode cX11_plus 233 = .ok (.aload_n 0, 1) := by decide +kernel
theorem dX11_plus_234 : decode cX11_plus 234 = .ok (.getfield 118, 3) := by decide +kernel
theorem dX11_plus_237 : decode cX11_plus 237 = .ok (.lsub, 1) := by decide +kernel
theorem dX11_plus_238 : decode cX11_plus 238 = .ok (.lstore 18, 2) := by decide +kernel
theorem dX11_plus_240 : decode cX11_plus 240 = .ok (.iload 17, 2) := by decide +kernel
theorem dX11_plus_242 : decode cX11_plus 242 = .ok (.ifCond .eq 13, 3) := by decide +kernel
theorem dX11_plus_245 : decode cX11_plus 245 = .ok (.aload_n 0, 1) := by decide +kernel
theorem dX11_plus_246 : decode cX11_plus 246 = .ok (.getfield 121, 3) := by decide +kernel
theorem dX11_plus_249 : decode cX11_plus 249 = .ok (.lload 14, 2) := by decide +kernel
theorem dX11_plus_251 : decode cX11_plus 251 = .ok (.lsub, 1) := by decide +kernel
theorem dX11_plus_252 : decode cX11_plus 252 = .ok (.goto 10, 3) := by decide +kernel
theorem dX11_plus_255 : decode cX11_plus 255 = .ok (.lload 14, 2) := by decide +kernel
theorem dX11_plus_257 : decode cX11_plus 257 = .ok (.aload_n 0, 1) := by decide +kernel
theorem dX11_plus_258 : decode cX11_plus 258 = .ok (.getfield 121, 3) := by decide +kernel
theorem dX11_plus_261 : decode cX11_plus 261 = .ok (.lsub, 1) := by decide +kernel
theorem dX11_plus_262 : decode cX11_plus 262 = .ok (.lstore 20, 2) := by decide +kernel
theorem dX11_plus_264 : decode cX11_plus 264 = .ok (.iload 17, 2) := by decide +kernel
theorem dX11_plus_266 : decode cX11_plus 266 = .ok (.ifCond .eq 8, 3) := by decide +kernel
theorem dX11_plus_269 : decode cX11_plus 269 = .ok (.iload 16, 2) := by decide +kernel
theorem dX11_plus_271 : decode cX11_plus 271 = .ok (.goto 5, 3) := by decide +kernel
theorem dX11_plus_274 : decode cX11_plus 274 = .ok (.iload 11, 2) := by decide +kernel
theorem dX11_plus_276 : decode cX11_plus 276 = .ok (.istore 11, 2) := by decide +kernel
theorem dX11_plus_278 : decode cX11_plus 278 = .ok (.lload 20, 2) := by decide +kernel
theorem dX11_plus_280 : decode cX11_plus 280 = .ok (.lconst 0, 1) := by decide +kernel
theorem dX11_plus_281 : decode cX11_plus 281 = .ok (.lcmp, 1) := by decide +kernel
theorem dX11_plus_282 : decode cX11_plus 282 = .ok (.ifCond .ge 17, 3) := by decide +kernel
theorem dX11_plus_285 : decode cX11_plus 285 = .ok (.lload 20, 2) := by decide +kernel
theorem dX11_plus_287 : decode cX11_plus 287 = .ok (.ldc2_w 116, 3) := by decide +kernel
theorem dX11_plus_290 : decode cX11_plus 290 = .ok (.ladd, 1) := by decide +kernel
theorem dX11_plus_291 : decode cX11_plus 291 = .ok (.lstore 20, 2) := by decide +kernel
theorem dX11_plus_293 : decode cX11_plus 293 = .ok (.lload 18, 2) := by decide +kernel
theorem dX11_plus_295 : decode cX11_plus 295 = .ok (.lconst 1, 1) := by decide +kernel
theorem dX11_plus_296 : decode cX11_plus 296 = .ok (.lsub, 1) := by decide +kernel
theorem dX11_plus_297 : decode cX11_plus 297 = .ok (.lstore 18, 2) := by decide +kernel
theorem dX11_plus_299 : decode cX11_plus 299 = .ok (.lload 18, 2) := by decide +kernel
theorem dX11_plus_301 : decode cX11_plus 301 = .ok (.lstore 12, 2) := by decide +kernel
theorem dX11_plus_303 : decode cX11_plus 303 = .ok (.lload 20, 2) := by decide +kernel
theorem dX11_plus_305 : decode cX11_plus 305 = .ok (.lstore 14, 2) := by decide +kernel
theorem dX11_plus_307 : decode cX11_plus 307 = .ok (.aload_n 0, 1) := by decide +kernel
theorem dX11_plus_308 : decode cX11_plus 308 = .ok (.lload 12, 2) := by decide +kernel
theorem dX11_plus_310 : decode cX11_plus 310 = .ok (.lload 14, 2) := by decide +kernel
theorem dX11_plus_312 : decode cX11_plus 312 = .ok (.invokevirtual 133, 3) := by decide +kernel
theorem dX11_plus_315 : decode cX11_plus 315 = .ok (.lload 5, 2) := by decide +kernel
theorem dX11_plus_317 : decode cX11_plus 317 = .ok (.aload_n 0, 1) := by decide +kernel
theorem dX11_plus_318 : decode cX11_plus 318 = .ok (.lload 5, 2) := by decide +kernel
theorem dX11_plus_320 : decode cX11_plus 320 = .ok (.invokevirtual 136, 3) := by decide +kernel
theorem dX11_plus_323 : decode cX11_plus 323 = .ok (.invokestatic 90, 3) := by decide +kernel
theorem dX11_plus_326 : decode cX11_plus 326 = .ok (.lstore 17, 2) := by decide +kernel
theorem dX11_plus_328 : decode cX11_plus 328 = .ok (.aload_n 0, 1) := by decide +kernel
theorem dX11_plus_329 : decode cX11_plus 329 = .ok (.lload 17, 2) := by decide +kernel
theorem dX11_plus_331 : decode cX11_plus 331 = .ok (.invokevirtual 140, 3) := by decide +kernel
theorem dX11_plus_334 : decode cX11_plus 334 = .ok (.lstore 19, 2) := by decide +kernel
theorem dX11_plus_336 : decode cX11_plus 336 = .ok (.aload_n 0, 1) := by decide +kernel
theorem dX11_plus_337 : decode cX11_plus 337 = .ok (.aload_n 0, 1) := by decide +kernel
theorem dX11_plus_338 : decode cX11_plus 338 = .ok (.lload 7, 2) := by decide +kernel
theorem dX11_plus_340 : decode cX11_plus 340 = .ok (.lload 9, 2) := by decide +kernel
theorem dX11_plus_342 : decode cX11_plus 342 = .ok (.invokevirtual 107, 3) := by decide +kernel
theorem dX11_plus_345 : decode cX11_plus 345 = .ok (.lload 5, 2) := by decide +kernel
theorem dX11_plus_347 : decode cX11_plus 347 = .ok (.lload 17, 2) := by decide +kernel
theorem dX11_plus_349 : decode cX11_plus 349 = .ok (.ldiv, 1) := by decide +kernel
theorem dX11_plus_350 : decode cX11_plus 350 = .ok (.invokevirtual 107, 3) := by decide +kernel
theorem dX11_plus_353 : decode cX11_plus 353 = .ok (.lstore 21, 2) := by decide +kernel
theorem dX11_plus_355 : decode cX11_plus 355 = .ok (.aload_n 0, 1) := by decide +kernel
theorem dX11_plus_356 : decode cX11_plus 356 = .ok (.iload 11, 2) := by decide +kernel
theorem dX11_plus_358 : decode cX11_plus 358 = .ok (.ifCond .eq 9, 3) := by decide +kernel
theorem dX11_plus_361 : decode cX11_plus 361 = .ok (.lload 19, 2) := by decide +kernel
theorem dX11_plus_363 : decode cX11_plus 363 = .ok (.lneg, 1) := by decide +kernel
theorem dX11_plus_364 : decode cX11_plus 364 = .ok (.goto 5, 3) := by decide +kernel
theorem dX11_plus_367 : decode cX11_plus 367 = .ok (.lload 19, 2) := by decide +kernel
theorem dX11_plus_369 : decode cX11_plus 369 = .ok (.putfield 94, 3) := by decide +kernel
theorem dX11_plus_372 : decode cX11_plus 372 = .ok (.aload_n 0, 1) := by decide +kernel
theorem dX11_plus_373 : decode cX11_plus 373 = .ok (.lload 21, 2) := by decide +kernel
theorem dX11_plus_375 : decode cX11_plus 375 = .ok (.putfield 98, 3) := by decide +kernel
theorem dX11_plus_378 : decode cX11_plus 378 = .ok (.return_, 1) := by decide +kernel
theorem dX11_isLess_0 : decode cX11_isLess 0 = .ok (.lload_n 1, 1) := by decide +kernel
theorem dX11_isLess_1 : decode cX11_isLess 1 = .ok (.lconst 0, 1) := by decide +kernel
theorem dX11_isLess_2 : decode cX11_isLess 2 = .ok (.lcmp, 1) := by decide +kernel
theorem dX11_isLess_3 : decode cX11_isLess 3 = .ok (.ifCond .ge 7, 3) := by decide +kernel
theorem dX11_isLess_6 : decode cX11_isLess 6 = .ok (.iconst 1, 1) := by decide +kernel
theorem dX11_isLess_7 : decode cX11_isLess 7 = .ok (.goto 4, 3) := by decide +kernel
theorem dX11_isLess_10 : decode cX11_isLess 10 = .ok (.iconst 0, 1) := by decide +kernel
theorem dX11_isLess_11 : decode cX11_isLess 11 = .ok (.lload 5, 2) := by decide +kernel
theorem dX11_isLess_13 : decode cX11_isLess 13 = .ok (.lconst 0, 1) := by decide +kernel
theorem dX11_isLess_14 : decode cX11_isLess 14 = .ok (.lcmp, 1) := by decide +kernel
theorem dX11_isLess_15 : decode cX11_isLess 15 = .ok (.ifCond .ge 7, 3) := by decide +kernel
theorem dX11_isLess_18 : decode cX11_isLess 18 = .ok (.iconst 1, 1) := by decide +kernel
theorem dX11_isLess_19 : decode cX11_isLess 19 = .ok (.goto 4, 3) := by decide +kernel
theorem dX11_isLess_22 : decode cX11_isLess 22 = .ok (.iconst 0, 1) := by decide +kernel
theorem dX11_isLess_23 : decode cX11_isLess 23 = .ok (.if_icmp .eq 15, 3) := by decide +kernel
theorem dX11_isLess_26 : decode cX11_isLess 26 = .ok (.lload_n 1, 1) := by decide +kernel
theorem dX11_isLess_27 : decode cX11_isLess 27 = .ok (.lconst 0, 1) := by decide +kernel
theorem dX11_isLess_28 : decode cX11_isLess 28 = .ok (.lcmp, 1) := by decide +kernel
theorem dX11_isLess_29 : decode cX11_isLess 29 = .ok (.ifCond .ge 7, 3) := by decide +kernel
theorem dX11_isLess_32 : decode cX11_isLess 32 = .ok (.iconst 1, 1) := by decide +kernel
theorem dX11_isLess_33 : decode cX11_isLess 33 = .ok (.goto 4, 3) := by decide +kernel
theorem dX11_isLess_36 : decode cX11_isLess 36 = .ok (.iconst 0, 1) := by decide +kernel
theorem dX11_isLess_37 : decode cX11_isLess 37 = .ok (.ireturn, 1) := by decide +kernel
theorem dX11_isLess_38 : decode cX11_isLess 38 = .ok (.lload_n 1, 1) := by decide +kernel
theorem dX11_isLess_39 : decode cX11_isLess 39 = .ok (.lconst 0, 1) := by decide +kernel
theorem dX11_isLess_40 : decode cX11_isLess 40 = .ok (.lcmp, 1) := by decide +kernel
theorem dX11_isLess_41 : decode cX11_isLess 41 = .ok (.ifCond .ge 7, 3) := by decide +kernel
theorem dX11_isLess_44 : decode cX11_isLess 44 = .ok (.iconst 1, 1) := by decide +kernel
theorem dX11_isLess_45 : decode cX11_isLess 45 = .ok (.goto 4, 3) := by decide +kernel
theorem dX11_isLess_48 : decode cX11_isLess 48 = .ok (.iconst 0, 1) := by decide +kernel
theorem dX11_isLess_49 : decode cX11_isLess 49 = .ok (.istore 9, 2) := by decide +kernel
theorem dX11_isLess_51 : decode cX11_isLess 51 = .ok (.aload_n 0, 1) := by decide +kernel
theorem dX11_isLess_52 : decode cX11_isLess 52 = .ok (.iload 9, 2) := by decide +kernel
theorem dX11_isLess_54 : decode cX11_isLess 54 = .ok (.ifCond .eq 8, 3) := by decide +kernel
theorem dX11_isLess_57 : decode cX11_isLess 57 = .ok (.lload_n 1, 1) := by decide +kernel
theorem dX11_isLess_58 : decode cX11_isLess 58 = .ok (.lneg, 1) := by decide +kernel
theorem dX11_isLess_59 : decode cX11_isLess 59 = .ok (.goto 4, 3) := by decide +kernel
theorem dX11_isLess_62 : decode cX11_isLess 62 = .ok (.lload_n 1, 1) := by decide +kernel
theorem dX11_isLess_63 : decode cX11_isLess 63 = .ok (.lload 7, 2) := by decide +kernel
theorem dX11_isLess_65 : decode cX11_isLess 65 = .ok (.invokevirtual 126, 3) := by decide +kernel
theorem dX11_isLess_68 : decode cX11_isLess 68 = .ok (.aload_n 0, 1) := by decide +kernel
theorem dX11_isLess_69 : decode cX11_isLess 69 = .ok (.getfield 118, 3) := by decide +kernel
theorem dX11_isLess_72 : decode cX11_isLess 72 = .ok (.lstore 10, 2) := by decide +kernel
theorem dX11_isLess_74 : decode cX11_isLess 74 = .ok (.aload_n 0, 1) := by decide +kernel
theorem dX11_isLess_75 : decode cX11_isLess 75 = .ok (.getfield 121, 3) := by decide +kernel
theorem dX11_isLess_78 : decode cX11_isLess 78 = .ok (.lstore 12, 2) := by decide +kernel
theorem dX11_isLess_80 : decode cX11_isLess 80 = .ok (.aload_n 0, 1) := by decide +kernel
theorem dX11_isLess_81 : decode cX11_isLess 81 = .ok (.iload 9, 2) := by decide +kernel
theorem dX11_isLess_83 : decode cX11_isLess 83 = .ok (.ifCond .eq 9, 3) := by decide +kernel
theorem dX11_isLess_86 : decode cX11_isLess 86 = .ok (.lload 5, 2) := by decide +kernel
theorem dX11_isLess_88 : decode cX11_isLess 88 = .ok (.lneg, 1) := by decide +kernel
theorem dX11_isLess_89 : decode cX11_isLess 89 = .ok (.goto 5, 3) := by decide +kernel
theorem dX11_isLess_92 : decode cX11_isLess 92 = .ok (.lload 5, 2) := by decide +kernel
theorem dX11_isLess_94 : decode cX11_isLess 94 = .ok (.lload_n 3, 1) := by decide +kernel
theorem dX11_isLess_95 : decode cX11_isLess 95 = .ok (.invokevirtual 126, 3) := by decide +kernel
theorem dX11_isLess_98 : decode cX11_isLess 98 = .ok (.lload 10, 2) := by decide +kernel
theorem dX11_isLess_100 : decode cX11_isLess 100 = .ok (.aload_n 0, 1) := by decide +kernel
theorem dX11_isLess_101 : decode cX11_isLess 101 = .ok (.getfield 118, 3) := by decide +kernel
theorem dX11_isLess_104 : decode cX11_isLess 104 = .ok (.lcmp, 1) := by decide +kernel
theorem dX11_isLess_105 : decode cX11_isLess 105 = .ok (.ifCond .lt 23, 3) := by decide +kernel
theorem dX11_isLess_108 : decode cX11_isLess 108 = .ok (.lload 10, 2) := by decide +kernel
theorem dX11_isLess_110 : decode cX11_isLess 110 = .ok (.aload_n 0, 1) := by decide +kernel
theorem dX11_isLess_111 : decode cX11_isLess 111 = .ok (.getfield 118, 3) := by decide +kernel
theorem dX11_isLess_114 : decode cX11_isLess 114 = .ok (.lcmp, 1) := by decide +kernel
theorem dX11_isLess_115 : decode cX11_isLess 115 = .ok (.ifCond .ne 17, 3) := by decide +kernel
theorem dX11_isLess_118 : decode cX11_isLess 118 = .ok (.lload 12, 2) := by decide +kernel
theorem dX11_isLess_120 : decode cX11_isLess 120 = .ok (.aload_n 0, 1) := by decide +kernel
theorem dX11_isLess_121 : decode cX11_isLess 121 = .ok (.getfield 121, 3) := by decide +kernel
theorem dX11_isLess_124 : decode cX11_isLess 124 = .ok (.lcmp, 1) := by decide +kernel
theorem dX11_isLess_125 : decode cX11_isLess 125 = .ok (.ifCond .ge 7, 3) := by decide +kernel
theorem dX11_isLess_128 : decode cX11_isLess 128 = .ok (.iconst 1, 1) := by decide +kernel
theorem dX11_isLess_129 : decode cX11_isLess 129 = .ok (.goto 4, 3) := by decide +kernel
theorem dX11_isLess_132 : decode cX11_isLess 132 = .ok (.iconst 0, 1) := by decide +kernel
theorem dX11_isLess_133 : decode cX11_isLess 133 = .ok (.istore 14, 2) := by decide +kernel
theorem dX11_isLess_135 : decode cX11_isLess 135 = .ok (.lload 10, 2) := by decide +kernel
theorem dX11_isLess_137 : decode cX11_isLess 137 = .ok (.aload_n 0, 1) := by decide +kernel
theorem dX11_isLess_138 : decode cX11_isLess 138 = .ok (.getfield 118, 3) := by decide +kernel
theorem dX11_isLess_141 : decode cX11_isLess 141 = .ok (.lcmp, 1) := by decide +kernel
theorem dX11_isLess_142 : decode cX11_isLess 142 = .ok (.ifCond .gt 23, 3) := by decide +kernel
theorem dX11_isLess_145 : decode cX11_isLess 145 = .ok (.lload 10, 2) := by decide +kernel
theorem dX11_isLess_147 : decode cX11_isLess 147 = .ok (.aload_n 0, 1) := by decide +kernel
theorem dX11_isLess_148 : decode cX11_isLess 148 = .ok (.getfield 118, 3) := by decide +kernel
theorem dX11_isLess_151 : decode cX11_isLess 151 = .ok (.lcmp, 1) := by decide +kernel
theorem dX11_isLess_152 : decode cX11_isLess 152 = .ok (.ifCond .ne 17, 3) := by decide +kernel
theorem dX11_isLess_155 : decode cX11_isLess 155 = .ok (.lload 12, 2) := by decide +kernel
theorem dX11_isLess_157 : decode cX11_isLess 157 = .ok (.aload_n 0, 1) := by decide +kernel
theorem dX11_isLess_158 : decode cX11_isLess 158 = .ok (.getfield 121, 3) := by decide +kernel
theorem dX11_isLess_161 : decode cX11_isLess 161 = .ok (.lcmp, 1) := by decide +kernel
theorem dX11_isLess_162 : decode cX11_isLess 162 = .ok (.ifCond .le 7, 3) := by decide +kernel
theorem dX11_isLess_165 : decode cX11_isLess 165 = .ok (.iconst 1, 1) := by decide +kernel
theorem dX11_isLess_166 : decode cX11_isLess 166 = .ok (.goto 4, 3) := by decide +kernel
theorem dX11_isLess_169 : decode cX11_isLess 169 = .ok (.iconst 0, 1) := by decide +kernel
theorem dX11_isLess_170 : decode cX11_isLess 170 = .ok (.istore 15, 2) := by decide +kernel
theorem dX11_isLess_172 : decode cX11_isLess 172 = .ok (.iload 9, 2) := by decide +kernel
theorem dX11_isLess_174 : decode cX11_isLess 174 = .ok (.ifCond .eq 8, 3) := by decide +kernel
theorem dX11_isLess_177 : decode cX11_isLess 177 = .ok (.iload 15, 2) := by decide +kernel
theorem dX11_isLess_179 : decode cX11_isLess 179 = .ok (.goto 5, 3) := by decide +kernel
theorem dX11_isLess_182 : decode cX11_isLess 182 = .ok (.iload 14, 2) := by decide +kernel
theorem dX11_isLess_184 : decode cX11_isLess 184 = .ok (.ireturn, 1) := by decide +kernel
theorem dX11_lies_0 : decode cX11_lies 0 = .ok (.iload_n 1, 1) := by decide +kernel
theorem dX11_lies_1 : decode cX11_lies 1 = .ok (.i2l, 1) := by decide +kernel
theorem dX11_lies_2 : decode cX11_lies 2 = .ok (.lconst 1, 1) := by decide +kernel
theorem dX11_lies_3 : decode cX11_lies 3 = .ok (.ldc2_w 143, 3) := by decide +kernel
theorem dX11_lies_6 : decode cX11_lies 6 = .ok (.invokestatic 145, 3) := by decide +kernel
theorem dX11_lies_9 : decode cX11_lies 9 = .ok (.ifCond .eq 16, 3) := by decide +kernel
theorem dX11_lies_12 : decode cX11_lies 12 = .ok (.iload_n 2, 1) := by decide +kernel
theorem dX11_lies_13 : decode cX11_lies 13 = .ok (.i2l, 1) := by decide +kernel
theorem dX11_lies_14 : decode cX11_lies 14 = .ok (.lconst 0, 1) := by decide +kernel
theorem dX11_lies_15 : decode cX11_lies 15 = .ok (.iload_n 1, 1) := by decide +kernel
theorem dX11_lies_16 : decode cX11_lies 16 = .ok (.iconst 1, 1) := by decide +kernel
theorem dX11_lies_17 : decode cX11_lies 17 = .ok (.isub, 1) := by decide +kernel
theorem dX11_lies_18 : decode cX11_lies 18 = .ok (.i2l, 1) := by decide +kernel
theorem dX11_lies_19 : decode cX11_lies 19 = .ok (.invokestatic 145, 3) := by decide +kernel
theorem dX11_lies_22 : decode cX11_lies 22 = .ok (.ifCond .ne 7, 3) := by decide +kernel
theorem dX11_lies_25 : decode cX11_lies 25 = .ok (.ldc2_w 149, 3) := by decide +kernel
theorem dX11_lies_28 : decode cX11_lies 28 = .ok (.lreturn, 1) := by decide +kernel
theorem dX11_lies_29 : decode cX11_lies 29 = .ok (.aload_n 0, 1) := by decide +kernel
theorem dX11_lies_30 : decode cX11_lies 30 = .ok (.getfield 7, 3) := by decide +kernel
theorem dX11_lies_33 : decode cX11_lies 33 = .ok (.iload_n 1, 1) := by decide +kernel
theorem dX11_lies_34 : decode cX11_lies 34 = .ok (.iaload, 1) := by decide +kernel
theorem dX11_lies_35 : decode cX11_lies 35 = .ok (.i2l, 1) := by decide +kernel
theorem dX11_lies_36 : decode cX11_lies 36 = .ok (.lstore_n 3, 1) := by decide +kernel
theorem dX11_lies_37 : decode cX11_lies 37 = .ok (.aload_n 0, 1) := by decide +kernel
theorem dX11_lies_38 : decode cX11_lies 38 = .ok (.getfield 7, 3) := by decide +kernel
theorem dX11_lies_41 : decode cX11_lies 41 = .ok (.iload_n 1, 1) := by decide +kernel
theorem dX11_lies_42 : decode cX11_lies 42 = .ok (.iload_n 2, 1) := by decide +kernel
theorem dX11_lies_43 : decode cX11_lies 43 = .ok (.iastore, 1) := by decide +kernel
theorem dX11_lies_44 : decode cX11_lies 44 = .ok (.lload_n 3, 1) := by decide +kernel
theorem dX11_lies_45 : decode cX11_lies 45 = .ok (.lreturn, 1) := by decide +kernel
theorem dX11_isWithin_0 : decode cX11_isWithin 0 = .ok (.iload_n 1, 1) := by decide +kernel
theorem dX11_isWithin_1 : decode cX11_isWithin 1 = .ok (.istore_n 3, 1) := by decide +kernel
theorem dX11_isWithin_2 : decode cX11_isWithin 2 = .ok (.iload_n 3, 1) := by decide +kernel
theorem dX11_isWithin_3 : decode cX11_isWithin 3 = .ok (.iload_n 2, 1) := by decide +kernel
theorem dX11_isWithin_4 : decode cX11_isWithin 4 = .ok (.if_icmp .le 13, 3) := by decide +kernel
theorem dX11_isWithin_7 : decode cX11_isWithin 7 = .ok (.aload_n 0, 1) := by decide +kernel
theorem dX11_isWithin_8 : decode cX11_isWithin 8 = .ok (.getfield 7, 3) := by decide +kernel
theorem dX11_isWithin_11 : decode cX11_isWithin 11 = .ok (.iload_n 3, 1) := by decide +kernel
theorem dX11_isWithin_12 : decode cX11_isWithin 12 = .ok (.iaload, 1) := by decide +kernel
theorem dX11_isWithin_13 : decode cX11_isWithin 13 = .ok (.istore_n 3, 1) := by decide +kernel
theorem dX11_isWithin_14 : decode cX11_isWithin 14 = .ok (.goto (-12), 3) := by decide +kernel
theorem dX11_isWithin_17 : decode cX11_isWithin 17 = .ok (.iload_n 3, 1) := by decide +kernel
theorem dX11_isWithin_18 : decode cX11_isWithin 18 = .ok (.iload_n 2, 1) := by decide +kernel
theorem dX11_isWithin_19 : decode cX11_isWithin 19 = .ok (.if_icmp .ne 7, 3) := by decide +kernel
theorem dX11_isWithin_22 : decode cX11_isWithin 22 = .ok (.iconst 1, 1) := by decide +kernel
theorem dX11_isWithin_23 : decode cX11_isWithin 23 = .ok (.goto 4, 3) := by decide +kernel
theorem dX11_isWithin_26 : decode cX11_isWithin 26 = .ok (.iconst 0, 1) := by decide +kernel
theorem dX11_isWithin_27 : decode cX11_isWithin 27 = .ok (.ireturn, 1) := by decide +kernel
theorem dX11_isPlace_0 : decode cX11_isPlace 0 = .ok (.iload_n 0, 1) := by decide +kernel
theorem dX11_isPlace_1 : decode cX11_isPlace 1 = .ok (.i2l, 1) := by decide +kernel
theorem dX11_isPlace_2 : decode cX11_isPlace 2 = .ok (.lconst 0, 1) := by decide +kernel
theorem dX11_isPlace_3 : decode cX11_isPlace 3 = .ok (.ldc2_w 143, 3) := by decide +kernel
theorem dX11_isPlace_6 : decode cX11_isPlace 6 = .ok (.invokestatic 145, 3) := by decide +kernel
theorem dX11_isPlace_9 : decode cX11_isPlace 9 = .ok (.ireturn, 1) := by decide +kernel
theorem dX11_within_0 : decode cX11_within 0 = .ok (.iload_n 1, 1) := by decide +kernel
theorem dX11_within_1 : decode cX11_within 1 = .ok (.invokestatic 151, 3) := by decide +kernel
theorem dX11_within_4 : decode cX11_within 4 = .ok (.ifCond .eq 10, 3) := by decide +kernel
theorem dX11_within_7 : decode cX11_within 7 = .ok (.iload_n 2, 1) := by decide +kernel
theorem dX11_within_8 : decode cX11_within 8 = .ok (.invokestatic 151, 3) := by decide +kernel
theorem dX11_within_11 : decode cX11_within 11 = .ok (.ifCond .ne 7, 3) := by decide +kernel
theorem dX11_within_14 : decode cX11_within 14 = .ok (.ldc2_w 149, 3) := by decide +kernel
theorem dX11_within_17 : decode cX11_within 17 = .ok (.lreturn, 1) := by decide +kernel
theorem dX11_within_18 : decode cX11_within 18 = .ok (.aload_n 0, 1) := by decide +kernel
theorem dX11_within_19 : decode cX11_within 19 = .ok (.iload_n 1, 1) := by decide +kernel
theorem dX11_within_20 : decode cX11_within 20 = .ok (.iload_n 2, 1) := by decide +kernel
theorem dX11_within_21 : decode cX11_within 21 = .ok (.invokevirtual 155, 3) := by decide +kernel
theorem dX11_within_24 : decode cX11_within 24 = .ok (.ifCond .eq 7, 3) := by decide +kernel
theorem dX11_within_27 : decode cX11_within 27 = .ok (.lconst 1, 1) := by decide +kernel
theorem dX11_within_28 : decode cX11_within 28 = .ok (.goto 4, 3) := by decide +kernel
theorem dX11_within_31 : decode cX11_within 31 = .ok (.lconst 0, 1) := by decide +kernel
theorem dX11_within_32 : decode cX11_within 32 = .ok (.lreturn, 1) := by decide +kernel
theorem dX11_isOne_0 : decode cX11_isOne 0 = .ok (.iload_n 1, 1) := by decide +kernel
theorem dX11_isOne_1 : decode cX11_isOne 1 = .ok (.i2l, 1) := by decide +kernel
theorem dX11_isOne_2 : decode cX11_isOne 2 = .ok (.lconst 0, 1) := by decide +kernel
theorem dX11_isOne_3 : decode cX11_isOne 3 = .ok (.aload_n 0, 1) := by decide +kernel
theorem dX11_isOne_4 : decode cX11_isOne 4 = .ok (.getfield 159, 3) := by decide +kernel
theorem dX11_isOne_7 : decode cX11_isOne 7 = .ok (.iconst 1, 1) := by decide +kernel
theorem dX11_isOne_8 : decode cX11_isOne 8 = .ok (.isub, 1) := by decide +kernel
theorem dX11_isOne_9 : decode cX11_isOne 9 = .ok (.i2l, 1) := by decide +kernel
theorem dX11_isOne_10 : decode cX11_isOne 10 = .ok (.invokestatic 145, 3) := by decide +kernel
theorem dX11_isOne_13 : decode cX11_isOne 13 = .ok (.ireturn, 1) := by decide +kernel
theorem dX11_likeness_0 : decode cX11_likeness 0 = .ok (.iload_n 1, 1) := by decide +kernel
theorem dX11_likeness_1 : decode cX11_likeness 1 = .ok (.i2l, 1) := by decide +kernel
theorem dX11_likeness_2 : decode cX11_likeness 2 = .ok (.lconst 0, 1) := by decide +kernel
theorem dX11_likeness_3 : decode cX11_likeness 3 = .ok (.ldc2_w 163, 3) := by decide +kernel
theorem dX11_likeness_6 : decode cX11_likeness 6 = .ok (.invokestatic 145, 3) := by decide +kernel
theorem dX11_likeness_9 : decode cX11_likeness 9 = .ok (.ifCond .eq 40, 3) := by decide +kernel
theorem dX11_likeness_12 : decode cX11_likeness 12 = .ok (.iload_n 2, 1) := by decide +kernel
theorem dX11_likeness_13 : decode cX11_likeness 13 = .ok (.i2l, 1) := by decide +kernel
theorem dX11_likeness_14 : decode cX11_likeness 14 = .ok (.lconst 0, 1) := by decide +kernel
theorem dX11_likeness_15 : decode cX11_likeness 15 = .ok (.ldc2_w 165, 3) := by decide +kernel
theorem dX11_likeness_18 : decode cX11_likeness 18 = .ok (.invokestatic 145, 3) := by decide +kernel
theorem dX11_likeness_21 : decode cX11_likeness 21 = .ok (.ifCond .eq 28, 3) := by decide +kernel
theorem dX11_likeness_24 : decode cX11_likeness 24 = .ok (.iload_n 3, 1) := by decide +kernel
theorem dX11_likeness_25 : decode cX11_likeness 25 = .ok (.i2l, 1) := by decide +kernel
theorem dX11_likeness_26 : decode cX11_likeness 26 = .ok (.lconst 1, 1) := by decide +kernel
theorem dX11_likeness_27 : decode cX11_likeness 27 = .ok (.ldc2_w 124, 3) := by decide +kernel
theorem dX11_likeness_30 : decode cX11_likeness 30 = .ok (.invokestatic 145, 3) := by decide +kernel
theorem dX11_likeness_33 : decode cX11_likeness 33 = .ok (.ifCond .eq 16, 3) := by decide +kernel
theorem dX11_likeness_36 : decode cX11_likeness 36 = .ok (.iload 4, 2) := by decide +kernel
theorem dX11_likeness_38 : decode cX11_likeness 38 = .ok (.i2l, 1) := by decide +kernel
theorem dX11_likeness_39 : decode cX11_likeness 39 = .ok (.lconst 1, 1) := by decide +kernel
theorem dX11_likeness_40 : decode cX11_likeness 40 = .ok (.ldc2_w 124, 3) := by decide +kernel
theorem dX11_likeness_43 : decode cX11_likeness 43 = .ok (.invokestatic 145, 3) := by decide +kernel
theorem dX11_likeness_46 : decode cX11_likeness 46 = .ok (.ifCond .ne 7, 3) := by decide +kernel
theorem dX11_likeness_49 : decode cX11_likeness 49 = .ok (.ldc2_w 149, 3) := by decide +kernel
theorem dX11_likeness_52 : decode cX11_likeness 52 = .ok (.lreturn, 1) := by decide +kernel
theorem dX11_likeness_53 : decode cX11_likeness 53 = .ok (.aload_n 0, 1) := by decide +kernel
theorem dX11_likeness_54 : decode cX11_likeness 54 = .ok (.getfield 159, 3) := by decide +kernel
theorem dX11_likeness_57 : decode cX11_likeness 57 = .ok (.bipush 24, 2) := by decide +kernel
theorem dX11_likeness_59 : decode cX11_likeness 59 = .ok (.if_icmp .ne 7, 3) := by decide +kernel
theorem dX11_likeness_62 : decode cX11_likeness 62 = .ok (.ldc2_w 167, 3) := by decide +kernel
theorem dX11_likeness_65 : decode cX11_likeness 65 = .ok (.lreturn, 1) := by decide +kernel
theorem dX11_likeness_66 : decode cX11_likeness 66 = .ok (.aload_n 0, 1) := by decide +kernel
theorem dX11_likeness_67 : decode cX11_likeness 67 = .ok (.getfield 13, 3) := by decide +kernel
theorem dX11_likeness_70 : decode cX11_likeness 70 = .ok (.aload_n 0, 1) := by decide +kernel
theorem dX11_likeness_71 : decode cX11_likeness 71 = .ok (.getfield 159, 3) := by decide +kernel
theorem dX11_likeness_74 : decode cX11_likeness 74 = .ok (.iload_n 1, 1) := by decide +kernel
theorem dX11_likeness_75 : decode cX11_likeness 75 = .ok (.iastore, 1) := by decide +kernel
theorem dX11_likeness_76 : decode cX11_likeness 76 = .ok (.aload_n 0, 1) := by decide +kernel
theorem dX11_likeness_77 : decode cX11_likeness 77 = .ok (.getfield 16, 3) := by decide +kernel
theorem dX11_likeness_80 : decode cX11_likeness 80 = .ok (.aload_n 0, 1) := by decide +kernel
theorem dX11_likeness_81 : decode cX11_likeness 81 = .ok (.getfield 159, 3) := by decide +kernel
theorem dX11_likeness_84 : decode cX11_likeness 84 = .ok (.iload_n 2, 1) := by decide +kernel
theorem dX11_likeness_85 : decode cX11_likeness 85 = .ok (.bipush 10, 2) := by decide +kernel
theorem dX11_likeness_87 : decode cX11_likeness 87 = .ok (.idiv, 1) := by decide +kernel
theorem dX11_likeness_88 : decode cX11_likeness 88 = .ok (.iastore, 1) := by decide +kernel
theorem dX11_likeness_89 : decode cX11_likeness 89 = .ok (.aload_n 0, 1) := by decide +kernel
theorem dX11_likeness_90 : decode cX11_likeness 90 = .ok (.getfield 19, 3) := by decide +kernel
theorem dX11_likeness_93 : decode cX11_likeness 93 = .ok (.aload_n 0, 1) := by decide +kernel
theorem dX11_likeness_94 : decode cX11_likeness 94 = .ok (.getfield 159, 3) := by decide +kernel
theorem dX11_likeness_97 : decode cX11_likeness 97 = .ok (.iload_n 2, 1) := by decide +kernel
theorem dX11_likeness_98 : decode cX11_likeness 98 = .ok (.bipush 10, 2) := by decide +kernel
theorem dX11_likeness_100 : decode cX11_likeness 100 = .ok (.irem, 1) := by decide +kernel
theorem dX11_likeness_101 : decode cX11_likeness 101 = .ok (.iastore, 1) := by decide +kernel
theorem dX11_likeness_102 : decode cX11_likeness 102 = .ok (.aload_n 0, 1) := by decide +kernel
theorem dX11_likeness_103 : decode cX11_likeness 103 = .ok (.getfield 22, 3) := by decide +kernel
theorem dX11_likeness_106 : decode cX11_likeness 106 = .ok (.aload_n 0, 1) := by decide +kernel
theorem dX11_likeness_107 : decode cX11_likeness 107 = .ok (.getfield 159, 3) := by decide +kernel
theorem dX11_likeness_110 : decode cX11_likeness 110 = .ok (.iload_n 3, 1) := by decide +kernel
theorem dX11_likeness_111 : decode cX11_likeness 111 = .ok (.iastore, 1) := by decide +kernel
theorem dX11_likeness_112 : decode cX11_likeness 112 = .ok (.aload_n 0, 1) := by decide +kernel
theorem dX11_likeness_113 : decode cX11_likeness 113 = .ok (.getfield 25, 3) := by decide +kernel
theorem dX11_likeness_116 : decode cX11_likeness 116 = .ok (.aload_n 0, 1) := by decide +kernel
theorem dX11_likeness_117 : decode cX11_likeness 117 = .ok (.getfield 159, 3) := by decide +kernel
theorem dX11_likeness_120 : decode cX11_likeness 120 = .ok (.iload 4, 2) := by decide +kernel
theorem dX11_likeness_122 : decode cX11_likeness 122 = .ok (.iastore, 1) := by decide +kernel
theorem dX11_likeness_123 : decode cX11_likeness 123 = .ok (.aload_n 0, 1) := by decide +kernel
theorem dX11_likeness_124 : decode cX11_likeness 124 = .ok (.getfield 28, 3) := by decide +kernel
theorem dX11_likeness_127 : decode cX11_likeness 127 = .ok (.aload_n 0, 1) := by decide +kernel
theorem dX11_likeness_128 : decode cX11_likeness 128 = .ok (.getfield 159, 3) := by decide +kernel
theorem dX11_likeness_131 : decode cX11_likeness 131 = .ok (.iconst 0, 1) := by decide +kernel
theorem dX11_likeness_132 : decode cX11_likeness 132 = .ok (.iastore, 1) := by decide +kernel
theorem dX11_likeness_133 : decode cX11_likeness 133 = .ok (.aload_n 0, 1) := by decide +kernel
theorem dX11_likeness_134 : decode cX11_likeness 134 = .ok (.getfield 31, 3) := by decide +kernel
theorem dX11_likeness_137 : decode cX11_likeness 137 = .ok (.aload_n 0, 1) := by decide +kernel
theorem dX11_likeness_138 : decode cX11_likeness 138 = .ok (.getfield 159, 3) := by decide +kernel
theorem dX11_likeness_141 : decode cX11_likeness 141 = .ok (.iconst 0, 1) := by decide +kernel
theorem dX11_likeness_142 : decode cX11_likeness 142 = .ok (.iastore, 1) := by decide +kernel
theorem dX11_likeness_143 : decode cX11_likeness 143 = .ok (.aload_n 0, 1) := by decide +kernel
theorem dX11_likeness_144 : decode cX11_likeness 144 = .ok (.getfield 34, 3) := by decide +kernel
theorem dX11_likeness_147 : decode cX11_likeness 147 = .ok (.aload_n 0, 1) := by decide +kernel
theorem dX11_likeness_148 : decode cX11_likeness 148 = .ok (.getfield 159, 3) := by decide +kernel
theorem dX11_likeness_151 : decode cX11_likeness 151 = .ok (.sipush 9999, 3) := by decide +kernel
theorem dX11_likeness_154 : decode cX11_likeness 154 = .ok (.iastore, 1) := by decide +kernel
theorem dX11_likeness_155 : decode cX11_likeness 155 = .ok (.aload_n 0, 1) := by decide +kernel
theorem dX11_likeness_156 : decode cX11_likeness 156 = .ok (.getfield 37, 3) := by decide +kernel
theorem dX11_likeness_159 : decode cX11_likeness 159 = .ok (.aload_n 0, 1) := by decide +kernel
theorem dX11_likeness_160 : decode cX11_likeness 160 = .ok (.getfield 159, 3) := by decide +kernel
theorem dX11_likeness_163 : decode cX11_likeness 163 = .ok (.iconst 1, 1) := by decide +kernel
theorem dX11_likeness_164 : decode cX11_likeness 164 = .ok (.iastore, 1) := by decide +kernel
theorem dX11_likeness_165 : decode cX11_likeness 165 = .ok (.aload_n 0, 1) := by decide +kernel
theorem dX11_likeness_166 : decode cX11_likeness 166 = .ok (.getfield 40, 3) := by decide +kernel
theorem dX11_likeness_169 : decode cX11_likeness 169 = .ok (.aload_n 0, 1) := by decide +kernel
theorem dX11_likeness_170 : decode cX11_likeness 170 = .ok (.getfield 159, 3) := by decide +kernel
theorem dX11_likeness_173 : decode cX11_likeness 173 = .ok (.iconst 0, 1) := by decide +kernel
theorem dX11_likeness_174 : decode cX11_likeness 174 = .ok (.iastore, 1) := by decide +kernel
theorem dX11_likeness_175 : decode cX11_likeness 175 = .ok (.aload_n 0, 1) := by decide +kernel
theorem dX11_likeness_176 : decode cX11_likeness 176 = .ok (.getfield 43, 3) := by decide +kernel
theorem dX11_likeness_179 : decode cX11_likeness 179 = .ok (.aload_n 0, 1) := by decide +kernel
theorem dX11_likeness_180 : decode cX11_likeness 180 = .ok (.getfield 159, 3) := by decide +kernel
theorem dX11_likeness_183 : decode cX11_likeness 183 = .ok (.iconst 0, 1) := by decide +kernel
theorem dX11_likeness_184 : decode cX11_likeness 184 = .ok (.bastore, 1) := by decide +kernel
theorem dX11_likeness_185 : decode cX11_likeness 185 = .ok (.aload_n 0, 1) := by decide +kernel
theorem dX11_likeness_186 : decode cX11_likeness 186 = .ok (.dup, 1) := by decide +kernel
theorem dX11_likeness_187 : decode cX11_likeness 187 = .ok (.getfield 159, 3) := by decide +kernel
theorem dX11_likeness_190 : decode cX11_likeness 190 = .ok (.iconst 1, 1) := by decide +kernel
theorem dX11_likeness_191 : decode cX11_likeness 191 = .ok (.iadd, 1) := by decide +kernel
theorem dX11_likeness_192 : decode cX11_likeness 192 = .ok (.putfield 159, 3) := by decide +kernel
theorem dX11_likeness_195 : decode cX11_likeness 195 = .ok (.aload_n 0, 1) := by decide +kernel
theorem dX11_likeness_196 : decode cX11_likeness 196 = .ok (.getfield 159, 3) := by decide +kernel
theorem dX11_likeness_199 : decode cX11_likeness 199 = .ok (.iconst 1, 1) := by decide +kernel
theorem dX11_likeness_200 : decode cX11_likeness 200 = .ok (.isub, 1) := by decide +kernel
theorem dX11_likeness_201 : decode cX11_likeness 201 = .ok (.i2l, 1) := by decide +kernel
theorem dX11_likeness_202 : decode cX11_likeness 202 = .ok (.lreturn, 1) := by decide +kernel
theorem dX11_holds_0 : decode cX11_holds 0 = .ok (.aload_n 0, 1) := by decide +kernel
theorem dX11_holds_1 : decode cX11_holds 1 = .ok (.iload_n 1, 1) := by decide +kernel
theorem dX11_holds_2 : decode cX11_holds 2 = .ok (.invokevirtual 169, 3) := by decide +kernel
theorem dX11_holds_5 : decode cX11_holds 5 = .ok (.ifCond .eq 36, 3) := by decide +kernel
theorem dX11_holds_8 : decode cX11_holds 8 = .ok (.iload_n 2, 1) := by decide +kernel
theorem dX11_holds_9 : decode cX11_holds 9 = .ok (.invokestatic 151, 3) := by decide +kernel
theorem dX11_holds_12 : decode cX11_holds 12 = .ok (.ifCond .eq 29, 3) := by decide +kernel
theorem dX11_holds_15 : decode cX11_holds 15 = .ok (.iload_n 3, 1) := by decide +kernel
theorem dX11_holds_16 : decode cX11_holds 16 = .ok (.i2l, 1) := by decide +kernel
theorem dX11_holds_17 : decode cX11_holds 17 = .ok (.lconst 0, 1) := by decide +kernel
theorem dX11_holds_18 : decode cX11_holds 18 = .ok (.ldc2_w 172, 3) := by decide +kernel
theorem dX11_holds_21 : decode cX11_holds 21 = .ok (.invokestatic 145, 3) := by decide +kernel
theorem dX11_holds_24 : decode cX11_holds 24 = .ok (.ifCond .eq 17, 3) := by decide +kernel
theorem dX11_holds_27 : decode cX11_holds 27 = .ok (.iload 4, 2) := by decide +kernel
theorem dX11_holds_29 : decode cX11_holds 29 = .ok (.i2l, 1) := by decide +kernel
theorem dX11_holds_30 : decode cX11_holds 30 = .ok (.iload_n 3, 1) := by decide +kernel
theorem dX11_holds_31 : decode cX11_holds 31 = .ok (.i2l, 1) := by decide +kernel
theorem dX11_holds_32 : decode cX11_holds 32 = .ok (.ldc2_w 172, 3) := by decide +kernel
theorem dX11_holds_35 : decode cX11_holds 35 = .ok (.invokestatic 145, 3) := by decide +kernel
theorem dX11_holds_38 : decode cX11_holds 38 = .ok (.ifCond .ne 7, 3) := by decide +kernel
theorem dX11_holds_41 : decode cX11_holds 41 = .ok (.ldc2_w 149, 3) := by decide +kernel
theorem dX11_holds_44 : decode cX11_holds 44 = .ok (.lreturn, 1) := by decide +kernel
theorem dX11_holds_45 : decode cX11_holds 45 = .ok (.aload_n 0, 1) := by decide +kernel
theorem dX11_holds_46 : decode cX11_holds 46 = .ok (.getfield 28, 3) := by decide +kernel
theorem dX11_holds_49 : decode cX11_holds 49 = .ok (.iload_n 1, 1) := by decide +kernel
theorem dX11_holds_50 : decode cX11_holds 50 = .ok (.iload_n 2, 1) := by decide +kernel
theorem dX11_holds_51 : decode cX11_holds 51 = .ok (.iastore, 1) := by decide +kernel
theorem dX11_holds_52 : decode cX11_holds 52 = .ok (.aload_n 0, 1) := by decide +kernel
theorem dX11_holds_53 : decode cX11_holds 53 = .ok (.getfield 31, 3) := by decide +kernel
theorem dX11_holds_56 : decode cX11_holds 56 = .ok (.iload_n 1, 1) := by decide +kernel
theorem dX11_holds_57 : decode cX11_holds 57 = .ok (.iload_n 3, 1) := by decide +kernel
theorem dX11_holds_58 : decode cX11_holds 58 = .ok (.iastore, 1) := by decide +kernel
theorem dX11_holds_59 : decode cX11_holds 59 = .ok (.aload_n 0, 1) := by decide +kernel
theorem dX11_holds_60 : decode cX11_holds 60 = .ok (.getfield 34, 3) := by decide +kernel
theorem dX11_holds_63 : decode cX11_holds 63 = .ok (.iload_n 1, 1) := by decide +kernel
theorem dX11_holds_64 : decode cX11_holds 64 = .ok (.iload 4, 2) := by decide +kernel
theorem dX11_holds_66 : decode cX11_holds 66 = .ok (.iastore, 1) := by decide +kernel
theorem dX11_holds_67 : decode cX11_holds 67 = .ok (.lconst 0, 1) := by decide +kernel
theorem dX11_holds_68 : decode cX11_holds 68 = .ok (.lreturn, 1) := by decide +kernel
theorem dX11_doubt_0 : decode cX11_doubt 0 = .ok (.aload_n 0, 1) := by decide +kernel
theorem dX11_doubt_1 : decode cX11_doubt 1 = .ok (.iload_n 1, 1) := by decide +kernel
theorem dX11_doubt_2 : decode cX11_doubt 2 = .ok (.invokevirtual 169, 3) := by decide +kernel
theorem dX11_doubt_5 : decode cX11_doubt 5 = .ok (.ifCond .eq 27, 3) := by decide +kernel
theorem dX11_doubt_8 : decode cX11_doubt 8 = .ok (.iload_n 2, 1) := by decide +kernel
theorem dX11_doubt_9 : decode cX11_doubt 9 = .ok (.i2l, 1) := by decide +kernel
theorem dX11_doubt_10 : decode cX11_doubt 10 = .ok (.lconst 0, 1) := by decide +kernel
theorem dX11_doubt_11 : decode cX11_doubt 11 = .ok (.ldc2_w 174, 3) := by decide +kernel
theorem dX11_doubt_14 : decode cX11_doubt 14 = .ok (.invokestatic 145, 3) := by decide +kernel
theorem dX11_doubt_17 : decode cX11_doubt 17 = .ok (.ifCond .eq 15, 3) := by decide +kernel
theorem dX11_doubt_20 : decode cX11_doubt 20 = .ok (.iload_n 3, 1) := by decide +kernel
theorem dX11_doubt_21 : decode cX11_doubt 21 = .ok (.i2l, 1) := by decide +kernel
theorem dX11_doubt_22 : decode cX11_doubt 22 = .ok (.lconst 0, 1) := by decide +kernel
theorem dX11_doubt_23 : decode cX11_doubt 23 = .ok (.ldc2_w 176, 3) := by decide +kernel
theorem dX11_doubt_26 : decode cX11_doubt 26 = .ok (.invokestatic 145, 3) := by decide +kernel
theorem dX11_doubt_29 : decode cX11_doubt 29 = .ok (.ifCond .ne 7, 3) := by decide +kernel
theorem dX11_doubt_32 : decode cX11_doubt 32 = .ok (.ldc2_w 149, 3) := by decide +kernel
theorem dX11_doubt_35 : decode cX11_doubt 35 = .ok (.lreturn, 1) := by decide +kernel
theorem dX11_doubt_36 : decode cX11_doubt 36 = .ok (.aload_n 0, 1) := by decide +kernel
theorem dX11_doubt_37 : decode cX11_doubt 37 = .ok (.getfield 37, 3) := by decide +kernel
theorem dX11_doubt_40 : decode cX11_doubt 40 = .ok (.iload_n 1, 1) := by decide +kernel
theorem dX11_doubt_41 : decode cX11_doubt 41 = .ok (.iload_n 2, 1) := by decide +kernel
theorem dX11_doubt_42 : decode cX11_doubt 42 = .ok (.iastore, 1) := by decide +kernel
theorem dX11_doubt_43 : decode cX11_doubt 43 = .ok (.aload_n 0, 1) := by decide +kernel
theorem dX11_doubt_44 : decode cX11_doubt 44 = .ok (.getfield 40, 3) := by decide +kernel
theorem dX11_doubt_47 : decode cX11_doubt 47 = .ok (.iload_n 1, 1) := by decide +kernel
theorem dX11_doubt_48 : decode cX11_doubt 48 = .ok (.iload_n 3, 1) := by decide +kernel
theorem dX11_doubt_49 : decode cX11_doubt 49 = .ok (.iastore, 1) := by decide +kernel
theorem dX11_doubt_50 : decode cX11_doubt 50 = .ok (.lconst 0, 1) := by decide +kernel
theorem dX11_doubt_51 : decode cX11_doubt 51 = .ok (.lreturn, 1) := by decide +kernel
theorem dX11_isDoubtful_0 : decode cX11_isDoubtful 0 = .ok (.aload_n 0, 1) := by decide +kernel
theorem dX11_isDoubtful_1 : decode cX11_isDoubtful 1 = .ok (.getfield 13, 3) := by decide +kernel
theorem dX11_isDoubtful_4 : decode cX11_isDoubtful 4 = .ok (.iload_n 1, 1) := by decide +kernel
theorem dX11_isDoubtful_5 : decode cX11_isDoubtful 5 = .ok (.iaload, 1) := by decide +kernel
theorem dX11_isDoubtful_6 : decode cX11_isDoubtful 6 = .ok (.iconst 2, 1) := by decide +kernel
theorem dX11_isDoubtful_7 : decode cX11_isDoubtful 7 = .ok (.if_icmp .eq 13, 3) := by decide +kernel
theorem dX11_isDoubtful_10 : decode cX11_isDoubtful 10 = .ok (.aload_n 0, 1) := by decide +kernel
theorem dX11_isDoubtful_11 : decode cX11_isDoubtful 11 = .ok (.getfield 13, 3) := by decide +kernel
theorem dX11_isDoubtful_14 : decode cX11_isDoubtful 14 = .ok (.iload_n 1, 1) := by decide +kernel
theorem dX11_isDoubtful_15 : decode cX11_isDoubtful 15 = .ok (.iaload, 1) := by decide +kernel
theorem dX11_isDoubtful_16 : decode cX11_isDoubtful 16 = .ok (.iconst 4, 1) := by decide +kernel
theorem dX11_isDoubtful_17 : decode cX11_isDoubtful 17 = .ok (.if_icmp .ne 7, 3) := by decide +kernel
theorem dX11_isDoubtful_20 : decode cX11_isDoubtful 20 = .ok (.iconst 1, 1) := by decide +kernel
theorem dX11_isDoubtful_21 : decode cX11_isDoubtful 21 = .ok (.goto 4, 3) := by decide +kernel
theorem dX11_isDoubtful_24 : decode cX11_isDoubtful 24 = .ok (.iconst 0, 1) := by decide +kernel
theorem dX11_isDoubtful_25 : decode cX11_isDoubtful 25 = .ok (.ireturn, 1) := by decide +kernel
theorem dX11_isHeaped_0 : decode cX11_isHeaped 0 = .ok (.aload_n 0, 1) := by decide +kernel
theorem dX11_isHeaped_1 : decode cX11_isHeaped 1 = .ok (.getfield 13, 3) := by decide +kernel
theorem dX11_isHeaped_4 : decode cX11_isHeaped 4 = .ok (.iload_n 1, 1) := by decide +kernel
theorem dX11_isHeaped_5 : decode cX11_isHeaped 5 = .ok (.iaload, 1) := by decide +kernel
theorem dX11_isHeaped_6 : decode cX11_isHeaped 6 = .ok (.iconst 1, 1) := by decide +kernel
theorem dX11_isHeaped_7 : decode cX11_isHeaped 7 = .ok (.if_icmp .eq 13, 3) := by decide +kernel
theorem dX11_isHeaped_10 : decode cX11_isHeaped 10 = .ok (.aload_n 0, 1) := by decide +kernel
theorem dX11_isHeaped_11 : decode cX11_isHeaped 11 = .ok (.getfield 13, 3) := by decide +kernel
theorem dX11_isHeaped_14 : decode cX11_isHeaped 14 = .ok (.iload_n 1, 1) := by decide +kernel
theorem dX11_isHeaped_15 : decode cX11_isHeaped 15 = .ok (.iaload, 1) := by decide +kernel
theorem dX11_isHeaped_16 : decode cX11_isHeaped 16 = .ok (.iconst 3, 1) := by decide +kernel
theorem dX11_isHeaped_17 : decode cX11_isHeaped 17 = .ok (.if_icmp .ne 7, 3) := by decide +kernel
theorem dX11_isHeaped_20 : decode cX11_isHeaped 20 = .ok (.iconst 1, 1) := by decide +kernel
theorem dX11_isHeaped_21 : decode cX11_isHeaped 21 = .ok (.goto 4, 3) := by decide +kernel
theorem dX11_isHeaped_24 : decode cX11_isHeaped 24 = .ok (.iconst 0, 1) := by decide +kernel
theorem dX11_isHeaped_25 : decode cX11_isHeaped 25 = .ok (.ireturn, 1) := by decide +kernel
theorem dX11_drop_0 : decode cX11_drop 0 = .ok (.aload_n 0, 1) := by decide +kernel
theorem dX11_drop_1 : decode cX11_drop 1 = .ok (.iload_n 1, 1) := by decide +kernel
theorem dX11_drop_2 : decode cX11_drop 2 = .ok (.invokevirtual 169, 3) := by decide +kernel
theorem dX11_drop_5 : decode cX11_drop 5 = .ok (.ifCond .eq 13, 3) := by decide +kernel
theorem dX11_drop_8 : decode cX11_drop 8 = .ok (.iload_n 2, 1) := by decide +kernel
theorem dX11_drop_9 : decode cX11_drop 9 = .ok (.i2l, 1) := by decide +kernel
theorem dX11_drop_10 : decode cX11_drop 10 = .ok (.lconst 0, 1) := by decide +kernel
theorem dX11_drop_11 : decode cX11_drop 11 = .ok (.lconst 1, 1) := by decide +kernel
theorem dX11_drop_12 : decode cX11_drop 12 = .ok (.invokestatic 145, 3) := by decide +kernel
theorem dX11_drop_15 : decode cX11_drop 15 = .ok (.ifCond .ne 7, 3) := by decide +kernel
theorem dX11_drop_18 : decode cX11_drop 18 = .ok (.ldc2_w 149, 3) := by decide +kernel
theorem dX11_drop_21 : decode cX11_drop 21 = .ok (.lreturn, 1) := by decide +kernel
theorem dX11_drop_22 : decode cX11_drop 22 = .ok (.aload_n 0, 1) := by decide +kernel
theorem dX11_drop_23 : decode cX11_drop 23 = .ok (.iload_n 1, 1) := by decide +kernel
theorem dX11_drop_24 : decode cX11_drop 24 = .ok (.invokevirtual 178, 3) := by decide +kernel
theorem dX11_drop_27 : decode cX11_drop 27 = .ok (.ifCond .ne 7, 3) := by decide +kernel
theorem dX11_drop_30 : decode cX11_drop 30 = .ok (.ldc2_w 181, 3) := by decide +kernel
theorem dX11_drop_33 : decode cX11_drop 33 = .ok (.lreturn, 1) := by decide +kernel
theorem dX11_drop_34 : decode cX11_drop 34 = .ok (.aload_n 0, 1) := by decide +kernel
theorem dX11_drop_35 : decode cX11_drop 35 = .ok (.getfield 43, 3) := by decide +kernel
theorem dX11_drop_38 : decode cX11_drop 38 = .ok (.iload_n 1, 1) := by decide +kernel
theorem dX11_drop_39 : decode cX11_drop 39 = .ok (.baload, 1) := by decide +kernel
theorem dX11_drop_40 : decode cX11_drop 40 = .ok (.istore_n 3, 1) := by decide +kernel
theorem dX11_drop_41 : decode cX11_drop 41 = .ok (.aload_n 0, 1) := by decide +kernel
theorem dX11_drop_42 : decode cX11_drop 42 = .ok (.getfield 43, 3) := by decide +kernel
theorem dX11_drop_45 : decode cX11_drop 45 = .ok (.iload_n 1, 1) := by decide +kernel
theorem dX11_drop_46 : decode cX11_drop 46 = .ok (.iload_n 2, 1) := by decide +kernel
theorem dX11_drop_47 : decode cX11_drop 47 = .ok (.iconst 1, 1) := by decide +kernel
theorem dX11_drop_48 : decode cX11_drop 48 = .ok (.if_icmp .ne 7, 3) := by decide +kernel
theorem dX11_drop_51 : decode cX11_drop 51 = .ok (.iconst 1, 1) := by decide +kernel
theorem dX11_drop_52 : decode cX11_drop 52 = .ok (.goto 4, 3) := by decide +kernel
theorem dX11_drop_55 : decode cX11_drop 55 = .ok (.iconst 0, 1) := by decide +kernel
theorem dX11_drop_56 : decode cX11_drop 56 = .ok (.bastore, 1) := by decide +kernel
theorem dX11_drop_57 : decode cX11_drop 57 = .ok (.iload_n 3, 1) := by decide +kernel
theorem dX11_drop_58 : decode cX11_drop 58 = .ok (.ifCond .eq 7, 3) := by decide +kernel
theorem dX11_drop_61 : decode cX11_drop 61 = .ok (.lconst 1, 1) := by decide +kernel
theorem dX11_drop_62 : decode cX11_drop 62 = .ok (.goto 4, 3) := by decide +kernel
theorem dX11_drop_65 : decode cX11_drop 65 = .ok (.lconst 0, 1) := by decide +kernel
theorem dX11_drop_66 : decode cX11_drop 66 = .ok (.lreturn, 1) := by decide +kernel
theorem dX11_forget_0 : decode cX11_forget 0 = .ok (.aload_n 0, 1) := by decide +kernel
theorem dX11_forget_1 : decode cX11_forget 1 = .ok (.getfield 159, 3) := by decide +kernel
theorem dX11_forget_4 : decode cX11_forget 4 = .ok (.ifCond .ne 7, 3) := by decide +kernel
theorem dX11_forget_7 : decode cX11_forget 7 = .ok (.ldc2_w 181, 3) := by decide +kernel
theorem dX11_forget_10 : decode cX11_forget 10 = .ok (.lreturn, 1) := by decide +kernel
theorem dX11_forget_11 : decode cX11_forget 11 = .ok (.aload_n 0, 1) := by decide +kernel
theorem dX11_forget_12 : decode cX11_forget 12 = .ok (.dup, 1) := by decide +kernel
theorem dX11_forget_13 : decode cX11_forget 13 = .ok (.getfield 159, 3) := by decide +kernel
theorem dX11_forget_16 : decode cX11_forget 16 = .ok (.iconst 1, 1) := by decide +kernel
theorem dX11_forget_17 : decode cX11_forget 17 = .ok (.isub, 1) := by decide +kernel
theorem dX11_forget_18 : decode cX11_forget 18 = .ok (.putfield 159, 3) := by decide +kernel
theorem dX11_forget_21 : decode cX11_forget 21 = .ok (.aload_n 0, 1) := by decide +kernel
theorem dX11_forget_22 : decode cX11_forget 22 = .ok (.getfield 159, 3) := by decide +kernel
theorem dX11_forget_25 : decode cX11_forget 25 = .ok (.i2l, 1) := by decide +kernel
theorem dX11_forget_26 : decode cX11_forget 26 = .ok (.lreturn, 1) := by decide +kernel
theorem dX11_told_0 : decode cX11_told 0 = .ok (.aload_n 0, 1) := by decide +kernel
theorem dX11_told_1 : decode cX11_told 1 = .ok (.iload_n 1, 1) := by decide +kernel
theorem dX11_told_2 : decode cX11_told 2 = .ok (.invokevirtual 169, 3) := by decide +kernel
theorem dX11_told_5 : decode cX11_told 5 = .ok (.ifCond .eq 15, 3) := by decide +kernel
theorem dX11_told_8 : decode cX11_told 8 = .ok (.iload_n 2, 1) := by decide +kernel
theorem dX11_told_9 : decode cX11_told 9 = .ok (.i2l, 1) := by decide +kernel
theorem dX11_told_10 : decode cX11_told 10 = .ok (.lconst 0, 1) := by decide +kernel
theorem dX11_told_11 : decode cX11_told 11 = .ok (.ldc2_w 112, 3) := by decide +kernel
theorem dX11_told_14 : decode cX11_told 14 = .ok (.invokestatic 145, 3) := by decide +kernel
theorem dX11_told_17 : decode cX11_told 17 = .ok (.ifCond .ne 7, 3) := by decide +kernel
theorem dX11_told_20 : decode cX11_told 20 = .ok (.ldc2_w 149, 3) := by decide +kernel
theorem dX11_told_23 : decode cX11_told 23 = .ok (.lreturn, 1) := by decide +kernel
theorem dX11_told_24 : decode cX11_told 24 = .ok (.iload_n 2, 1) := by decide +kernel
theorem dX11_told_25 : decode cX11_told 25 = .ok (.tableswitch 135 0 9 #[55, 63, 71, 79, 87, 95, 103, 111, 119, 127], 55) := by decide +kernel
theorem dX11_told_80 : decode cX11_told 80 = .ok (.aload_n 0, 1) := by decide +kernel
theorem dX11_told_81 : decode cX11_told 81 = .ok (.getfield 13, 3) := by decide +kernel
theorem dX11_told_84 : decode cX11_told 84 = .ok (.iload_n 1, 1) := by decide +kernel
theorem dX11_told_85 : decode cX11_told 85 = .ok (.iaload, 1) := by decide +kernel
theorem dX11_told_86 : decode cX11_told 86 = .ok (.i2l, 1) := by decide +kernel
theorem dX11_told_87 : decode cX11_told 87 = .ok (.lreturn, 1) := by decide +kernel
theorem dX11_told_88 : decode cX11_told 88 = .ok (.aload_n 0, 1) := by decide +kernel
theorem dX11_told_89 : decode cX11_told 89 = .ok (.getfield 16, 3) := by decide +kernel
theorem dX11_told_92 : decode cX11_told 92 = .ok (.iload_n 1, 1) := by decide +kernel
theorem dX11_told_93 : decode cX11_told 93 = .ok (.iaload, 1) := by decide +kernel
theorem dX11_told_94 : decode cX11_told 94 = .ok (.i2l, 1) := by decide +kernel
theorem dX11_told_95 : decode cX11_told 95 = .ok (.lreturn, 1) := by decide +kernel
theorem dX11_told_96 : decode cX11_told 96 = .ok (.aload_n 0, 1) := by decide +kernel
theorem dX11_told_97 : decode cX11_told 97 = .ok (.getfield 19, 3) := by decide +kernel
theorem dX11_told_100 : decode cX11_told 100 = .ok (.iload_n 1, 1) := by decide +kernel
theorem dX11_told_101 : decode cX11_told 101 = .ok (.iaload, 1) := by decide +kernel
theorem dX11_told_102 : decode cX11_told 102 = .ok (.i2l, 1) := by decide +kernel
theorem dX11_told_103 : decode cX11_told 103 = .ok (.lreturn, 1) := by decide +kernel
theorem dX11_told_104 : decode cX11_told 104 = .ok (.aload_n 0, 1) := by decide +kernel
theorem dX11_told_105 : decode cX11_told 105 = .ok (.getfield 22, 3) := by decide +kernel
theorem dX11_told_108 : decode cX11_told 108 = .ok (.iload_n 1, 1) := by decide +kernel
theorem dX11_told_109 : decode cX11_told 109 = .ok (.iaload, 1) := by decide +kernel
theorem dX11_told_110 : decode cX11_told 110 = .ok (.i2l, 1) := by decide +kernel
theorem dX11_told_111 : decode cX11_told 111 = .ok (.lreturn, 1) := by decide +kernel
theorem dX11_told_112 : decode cX11_told 112 = .ok (.aload_n 0, 1) := by decide +kernel
theorem dX11_told_113 : decode cX11_told 113 = .ok (.getfield 25, 3) := by decide +kernel
theorem dX11_told_116 : decode cX11_told 116 = .ok (.iload_n 1, 1) := by decide +kernel
theorem dX11_told_117 : decode cX11_told 117 = .ok (.iaload, 1) := by decide +kernel
theorem dX11_told_118 : decode cX11_told 118 = .ok (.i2l, 1) := by decide +kernel
theorem dX11_told_119 : decode cX11_told 119 = .ok (.lreturn, 1) := by decide +kernel
theorem dX11_told_120 : decode cX11_told 120 = .ok (.aload_n 0, 1) := by decide +kernel
theorem dX11_told_121 : decode cX11_told 121 = .ok (.getfield 28, 3) := by decide +kernel
theorem dX11_told_124 : decode cX11_told 124 = .ok (.iload_n 1, 1) := by decide +kernel
theorem dX11_told_125 : decode cX11_told 125 = .ok (.iaload, 1) := by decide +kernel
theorem dX11_told_126 : decode cX11_told 126 = .ok (.i2l, 1) := by decide +kernel
theorem dX11_told_127 : decode cX11_told 127 = .ok (.lreturn, 1) := by decide +kernel
theorem dX11_told_128 : decode cX11_told 128 = .ok (.aload_n 0, 1) := by decide +kernel
theorem dX11_told_129 : decode cX11_told 129 = .ok (.getfield 31, 3) := by decide +kernel
theorem dX11_told_132 : decode cX11_told 132 = .ok (.iload_n 1, 1) := by decide +kernel
theorem dX11_told_133 : decode cX11_told 133 = .ok (.iaload, 1) := by decide +kernel
theorem dX11_told_134 : decode cX11_told 134 = .ok (.i2l, 1) := by decide +kernel
theorem dX11_told_135 : decode cX11_told 135 = .ok (.lreturn, 1) := by decide +kernel
theorem dX11_told_136 : decode cX11_told 136 = .ok (.aload_n 0, 1) := by decide +kernel
theorem dX11_told_137 : decode cX11_told 137 = .ok (.getfield 34, 3) := by decide +kernel
theorem dX11_told_140 : decode cX11_told 140 = .ok (.iload_n 1, 1) := by decide +kernel
theorem dX11_told_141 : decode cX11_told 141 = .ok (.iaload, 1) := by decide +kernel
theorem dX11_told_142 : decode cX11_told 142 = .ok (.i2l, 1) := by decide +kernel
theorem dX11_told_143 : decode cX11_told 143 = .ok (.lreturn, 1) := by decide +kernel
theorem dX11_told_144 : decode cX11_told 144 = .ok (.aload_n 0, 1) := by decide +kernel
theorem dX11_told_145 : decode cX11_told 145 = .ok (.getfield 37, 3) := by decide +kernel
theorem dX11_told_148 : decode cX11_told 148 = .ok (.iload_n 1, 1) := by decide +kernel
theorem dX11_told_149 : decode cX11_told 149 = .ok (.iaload, 1) := by decide +kernel
theorem dX11_told_150 : decode cX11_told 150 = .ok (.i2l, 1) := by decide +kernel
theorem dX11_told_151 : decode cX11_told 151 = .ok (.lreturn, 1) := by decide +kernel
theorem dX11_told_152 : decode cX11_told 152 = .ok (.aload_n 0, 1) := by decide +kernel
theorem dX11_told_153 : decode cX11_told 153 = .ok (.getfield 40, 3) := by decide +kernel
theorem dX11_told_156 : decode cX11_told 156 = .ok (.iload_n 1, 1) := by decide +kernel
theorem dX11_told_157 : decode cX11_told 157 = .ok (.iaload, 1) := by decide +kernel
theorem dX11_told_158 : decode cX11_told 158 = .ok (.i2l, 1) := by decide +kernel
theorem dX11_told_159 : decode cX11_told 159 = .ok (.lreturn, 1) := by decide +kernel
theorem dX11_told_160 : decode cX11_told 160 = .ok (.aload_n 0, 1) := by decide +kernel
theorem dX11_told_161 : decode cX11_told 161 = .ok (.getfield 43, 3) := by decide +kernel
theorem dX11_told_164 : decode cX11_told 164 = .ok (.iload_n 1, 1) := by decide +kernel
theorem dX11_told_165 : decode cX11_told 165 = .ok (.baload, 1) := by decide +kernel
theorem dX11_told_166 : decode cX11_told 166 = .ok (.ifCond .eq 7, 3) := by decide +kernel
theorem dX11_told_169 : decode cX11_told 169 = .ok (.lconst 1, 1) := by decide +kernel
theorem dX11_told_170 : decode cX11_told 170 = .ok (.goto 4, 3) := by decide +kernel
theorem dX11_told_173 : decode cX11_told 173 = .ok (.lconst 0, 1) := by decide +kernel
theorem dX11_told_174 : decode cX11_told 174 = .ok (.lreturn, 1) := by decide +kernel
theorem dX11_isOf_0 : decode cX11_isOf 0 = .ok (.aload_n 0, 1) := by decide +kernel
theorem dX11_isOf_1 : decode cX11_isOf 1 = .ok (.iload_n 1, 1) := by decide +kernel
theorem dX11_isOf_2 : decode cX11_isOf 2 = .ok (.invokevirtual 169, 3) := by decide +kernel
theorem dX11_isOf_5 : decode cX11_isOf 5 = .ok (.ifCond .eq 15, 3) := by decide +kernel
theorem dX11_isOf_8 : decode cX11_isOf 8 = .ok (.iload_n 2, 1) := by decide +kernel
theorem dX11_isOf_9 : decode cX11_isOf 9 = .ok (.i2l, 1) := by decide +kernel
theorem dX11_isOf_10 : decode cX11_isOf 10 = .ok (.lconst 0, 1) := by decide +kernel
theorem dX11_isOf_11 : decode cX11_isOf 11 = .ok (.ldc2_w 163, 3) := by decide +kernel
theorem dX11_isOf_14 : decode cX11_isOf 14 = .ok (.invokestatic 145, 3) := by decide +kernel
theorem dX11_isOf_17 : decode cX11_isOf 17 = .ok (.ifCond .ne 7, 3) := by decide +kernel
theorem dX11_isOf_20 : decode cX11_isOf 20 = .ok (.ldc2_w 149, 3) := by decide +kernel
theorem dX11_isOf_23 : decode cX11_isOf 23 = .ok (.lreturn, 1) := by decide +kernel
theorem dX11_isOf_24 : decode cX11_isOf 24 = .ok (.iload_n 2, 1) := by decide +kernel
theorem dX11_isOf_25 : decode cX11_isOf 25 = .ok (.ifCond .eq 39, 3) := by decide +kernel
theorem dX11_isOf_28 : decode cX11_isOf 28 = .ok (.aload_n 0, 1) := by decide +kernel
theorem dX11_isOf_29 : decode cX11_isOf 29 = .ok (.getfield 13, 3) := by decide +kernel
theorem dX11_isOf_32 : decode cX11_isOf 32 = .ok (.iload_n 1, 1) := by decide +kernel
theorem dX11_isOf_33 : decode cX11_isOf 33 = .ok (.iaload, 1) := by decide +kernel
theorem dX11_isOf_34 : decode cX11_isOf 34 = .ok (.iload_n 2, 1) := by decide +kernel
theorem dX11_isOf_35 : decode cX11_isOf 35 = .ok (.if_icmp .eq 29, 3) := by decide +kernel
theorem dX11_isOf_38 : decode cX11_isOf 38 = .ok (.iload_n 2, 1) := by decide +kernel
theorem dX11_isOf_39 : decode cX11_isOf 39 = .ok (.iconst 1, 1) := by decide +kernel
theorem dX11_isOf_40 : decode cX11_isOf 40 = .ok (.if_icmp .ne 11, 3) := by decide +kernel
theorem dX11_isOf_43 : decode cX11_isOf 43 = .ok (.aload_n 0, 1) := by decide +kernel
theorem dX11_isOf_44 : decode cX11_isOf 44 = .ok (.iload_n 1, 1) := by decide +kernel
theorem dX11_isOf_45 : decode cX11_isOf 45 = .ok (.invokevirtual 183, 3) := by decide +kernel
theorem dX11_isOf_48 : decode cX11_isOf 48 = .ok (.ifCond .ne 16, 3) := by decide +kernel
theorem dX11_isOf_51 : decode cX11_isOf 51 = .ok (.iload_n 2, 1) := by decide +kernel
theorem dX11_isOf_52 : decode cX11_isOf 52 = .ok (.iconst 2, 1) := by decide +kernel
theorem dX11_isOf_53 : decode cX11_isOf 53 = .ok (.if_icmp .ne 15, 3) := by decide +kernel
theorem dX11_isOf_56 : decode cX11_isOf 56 = .ok (.aload_n 0, 1) := by decide +kernel
theorem dX11_isOf_57 : decode cX11_isOf 57 = .ok (.iload_n 1, 1) := by decide +kernel
theorem dX11_isOf_58 : decode cX11_isOf 58 = .ok (.invokevirtual 178, 3) := by decide +kernel
theorem dX11_isOf_61 : decode cX11_isOf 61 = .ok (.ifCond .eq 7, 3) := by decide +kernel
theorem dX11_isOf_64 : decode cX11_isOf 64 = .ok (.lconst 1, 1) := by decide +kernel
theorem dX11_isOf_65 : decode cX11_isOf 65 = .ok (.goto 4, 3) := by decide +kernel
theorem dX11_isOf_68 : decode cX11_isOf 68 = .ok (.lconst 0, 1) := by decide +kernel
theorem dX11_isOf_69 : decode cX11_isOf 69 = .ok (.lreturn, 1) := by decide +kernel
theorem dX11_endOf_0 : decode cX11_endOf 0 = .ok (.aload_n 0, 1) := by decide +kernel
theorem dX11_endOf_1 : decode cX11_endOf 1 = .ok (.aload_n 0, 1) := by decide +kernel
theorem dX11_endOf_2 : decode cX11_endOf 2 = .ok (.getfield 22, 3) := by decide +kernel
theorem dX11_endOf_5 : decode cX11_endOf 5 = .ok (.iload_n 1, 1) := by decide +kernel
theorem dX11_endOf_6 : decode cX11_endOf 6 = .ok (.iaload, 1) := by decide +kernel
theorem dX11_endOf_7 : decode cX11_endOf 7 = .ok (.i2l, 1) := by decide +kernel
theorem dX11_endOf_8 : decode cX11_endOf 8 = .ok (.aload_n 0, 1) := by decide +kernel
theorem dX11_endOf_9 : decode cX11_endOf 9 = .ok (.getfield 25, 3) := by decide +kernel
theorem dX11_endOf_12 : decode cX11_endOf 12 = .ok (.iload_n 1, 1) := by decide +kernel
theorem dX11_endOf_13 : decode cX11_endOf 13 = .ok (.iaload, 1) := by decide +kernel
theorem dX11_endOf_14 : decode cX11_endOf 14 = .ok (.i2l, 1) := by decide +kernel
theorem dX11_endOf_15 : decode cX11_endOf 15 = .ok (.invokevirtual 186, 3) := by decide +kernel
theorem dX11_endOf_18 : decode cX11_endOf 18 = .ok (.aload_n 0, 1) := by decide +kernel
theorem dX11_endOf_19 : decode cX11_endOf 19 = .ok (.iload_n 1, 1) := by decide +kernel
theorem dX11_endOf_20 : decode cX11_endOf 20 = .ok (.invokevirtual 183, 3) := by decide +kernel
theorem dX11_endOf_23 : decode cX11_endOf 23 = .ok (.ifCond .eq 34, 3) := by decide +kernel
theorem dX11_endOf_26 : decode cX11_endOf 26 = .ok (.aload_n 0, 1) := by decide +kernel
theorem dX11_endOf_27 : decode cX11_endOf 27 = .ok (.aload_n 0, 1) := by decide +kernel
theorem dX11_endOf_28 : decode cX11_endOf 28 = .ok (.getfield 94, 3) := by decide +kernel
theorem dX11_endOf_31 : decode cX11_endOf 31 = .ok (.ldc2_w 124, 3) := by decide +kernel
theorem dX11_endOf_34 : decode cX11_endOf 34 = .ok (.aload_n 0, 1) := by decide +kernel
theorem dX11_endOf_35 : decode cX11_endOf 35 = .ok (.getfield 40, 3) := by decide +kernel
theorem dX11_endOf_38 : decode cX11_endOf 38 = .ok (.iload_n 1, 1) := by decide +kernel
theorem dX11_endOf_39 : decode cX11_endOf 39 = .ok (.iaload, 1) := by decide +kernel
