theorem dX11_ring_186 : decode cX11_ring 186 = .ok (.getfield 81, 3) := by decide +kernel
theorem dX11_ring_189 : decode cX11_ring 189 = .ok (.iload 5, 2) := by decide +kernel
theorem dX11_ring_191 : decode cX11_ring 191 = .ok (.iconst 1, 1) := by decide +kernel
theorem dX11_ring_192 : decode cX11_ring 192 = .ok (.bastore, 1) := by decide +kernel
theorem dX11_ring_193 : decode cX11_ring 193 = .ok (.return_, 1) := by decide +kernel
theorem dX11_isAhead_0 : decode cX11_isAhead 0 = .ok (.iconst 0, 1) := by decide +kernel
theorem dX11_isAhead_1 : decode cX11_isAhead 1 = .ok (.istore_n 1, 1) := by decide +kernel
theorem dX11_isAhead_2 : decode cX11_isAhead 2 = .ok (.iload_n 1, 1) := by decide +kernel
theorem dX11_isAhead_3 : decode cX11_isAhead 3 = .ok (.aload_n 0, 1) := by decide +kernel
theorem dX11_isAhead_4 : decode cX11_isAhead 4 = .ok (.getfield 205, 3) := by decide +kernel
theorem dX11_isAhead_7 : decode cX11_isAhead 7 = .ok (.iconst 1, 1) := by decide +kernel
theorem dX11_isAhead_8 : decode cX11_isAhead 8 = .ok (.isub, 1) := by decide +kernel
theorem dX11_isAhead_9 : decode cX11_isAhead 9 = .ok (.if_icmp .ge 30, 3) := by decide +kernel
theorem dX11_isAhead_12 : decode cX11_isAhead 12 = .ok (.aload_n 0, 1) := by decide +kernel
theorem dX11_isAhead_13 : decode cX11_isAhead 13 = .ok (.getfield 75, 3) := by decide +kernel
theorem dX11_isAhead_16 : decode cX11_isAhead 16 = .ok (.iload_n 1, 1) := by decide +kernel
theorem dX11_isAhead_17 : decode cX11_isAhead 17 = .ok (.iaload, 1) := by decide +kernel
theorem dX11_isAhead_18 : decode cX11_isAhead 18 = .ok (.bipush 100, 2) := by decide +kernel
theorem dX11_isAhead_20 : decode cX11_isAhead 20 = .ok (.irem, 1) := by decide +kernel
theorem dX11_isAhead_21 : decode cX11_isAhead 21 = .ok (.aload_n 0, 1) := by decide +kernel
theorem dX11_isAhead_22 : decode cX11_isAhead 22 = .ok (.getfield 78, 3) := by decide +kernel
theorem dX11_isAhead_25 : decode cX11_isAhead 25 = .ok (.iload_n 1, 1) := by decide +kernel
theorem dX11_isAhead_26 : decode cX11_isAhead 26 = .ok (.iaload, 1) := by decide +kernel
theorem dX11_isAhead_27 : decode cX11_isAhead 27 = .ok (.bipush 100, 2) := by decide +kernel
theorem dX11_isAhead_29 : decode cX11_isAhead 29 = .ok (.irem, 1) := by decide +kernel
theorem dX11_isAhead_30 : decode cX11_isAhead 30 = .ok (.if_icmp .ne 9, 3) := by decide +kernel
theorem dX11_isAhead_33 : decode cX11_isAhead 33 = .ok (.iinc 1 1, 3) := by decide +kernel
theorem dX11_isAhead_36 : decode cX11_isAhead 36 = .ok (.goto (-34), 3) := by decide +kernel
theorem dX11_isAhead_39 : decode cX11_isAhead 39 = .ok (.aload_n 0, 1) := by decide +kernel
theorem dX11_isAhead_40 : decode cX11_isAhead 40 = .ok (.getfield 75, 3) := by decide +kernel
theorem dX11_isAhead_43 : decode cX11_isAhead 43 = .ok (.iload_n 1, 1) := by decide +kernel
theorem dX11_isAhead_44 : decode cX11_isAhead 44 = .ok (.iaload, 1) := by decide +kernel
theorem dX11_isAhead_45 : decode cX11_isAhead 45 = .ok (.bipush 100, 2) := by decide +kernel
theorem dX11_isAhead_47 : decode cX11_isAhead 47 = .ok (.irem, 1) := by decide +kernel
theorem dX11_isAhead_48 : decode cX11_isAhead 48 = .ok (.aload_n 0, 1) := by decide +kernel
theorem dX11_isAhead_49 : decode cX11_isAhead 49 = .ok (.getfield 78, 3) := by decide +kernel
theorem dX11_isAhead_52 : decode cX11_isAhead 52 = .ok (.iload_n 1, 1) := by decide +kernel
theorem dX11_isAhead_53 : decode cX11_isAhead 53 = .ok (.iaload, 1) := by decide +kernel
theorem dX11_isAhead_54 : decode cX11_isAhead 54 = .ok (.bipush 100, 2) := by decide +kernel
theorem dX11_isAhead_56 : decode cX11_isAhead 56 = .ok (.irem, 1) := by decide +kernel
theorem dX11_isAhead_57 : decode cX11_isAhead 57 = .ok (.if_icmp .ge 7, 3) := by decide +kernel
theorem dX11_isAhead_60 : decode cX11_isAhead 60 = .ok (.iconst 1, 1) := by decide +kernel
theorem dX11_isAhead_61 : decode cX11_isAhead 61 = .ok (.goto 4, 3) := by decide +kernel
theorem dX11_isAhead_64 : decode cX11_isAhead 64 = .ok (.iconst 0, 1) := by decide +kernel
theorem dX11_isAhead_65 : decode cX11_isAhead 65 = .ok (.ireturn, 1) := by decide +kernel
theorem dX11_round_0 : decode cX11_round 0 = .ok (.aload_n 0, 1) := by decide +kernel
theorem dX11_round_1 : decode cX11_round 1 = .ok (.getfield 103, 3) := by decide +kernel
theorem dX11_round_4 : decode cX11_round 4 = .ok (.ifCond .eq 4, 3) := by decide +kernel
theorem dX11_round_7 : decode cX11_round 7 = .ok (.return_, 1) := by decide +kernel
theorem dX11_round_8 : decode cX11_round 8 = .ok (.iload_n 2, 1) := by decide +kernel
theorem dX11_round_9 : decode cX11_round 9 = .ok (.iconst 1, 1) := by decide +kernel
theorem dX11_round_10 : decode cX11_round 10 = .ok (.iadd, 1) := by decide +kernel
theorem dX11_round_11 : decode cX11_round 11 = .ok (.istore_n 3, 1) := by decide +kernel
theorem dX11_round_12 : decode cX11_round 12 = .ok (.iload_n 3, 1) := by decide +kernel
theorem dX11_round_13 : decode cX11_round 13 = .ok (.aload_n 0, 1) := by decide +kernel
theorem dX11_round_14 : decode cX11_round 14 = .ok (.getfield 159, 3) := by decide +kernel
theorem dX11_round_17 : decode cX11_round 17 = .ok (.if_icmp .ge 191, 3) := by decide +kernel
theorem dX11_round_20 : decode cX11_round 20 = .ok (.aload_n 0, 1) := by decide +kernel
theorem dX11_round_21 : decode cX11_round 21 = .ok (.getfield 69, 3) := by decide +kernel
theorem dX11_round_24 : decode cX11_round 24 = .ok (.iload_n 3, 1) := by decide +kernel
theorem dX11_round_25 : decode cX11_round 25 = .ok (.baload, 1) := by decide +kernel
theorem dX11_round_26 : decode cX11_round 26 = .ok (.ifCond .eq 176, 3) := by decide +kernel
theorem dX11_round_29 : decode cX11_round 29 = .ok (.aload_n 0, 1) := by decide +kernel
theorem dX11_round_30 : decode cX11_round 30 = .ok (.getfield 16, 3) := by decide +kernel
theorem dX11_round_33 : decode cX11_round 33 = .ok (.iload_n 3, 1) := by decide +kernel
theorem dX11_round_34 : decode cX11_round 34 = .ok (.iaload, 1) := by decide +kernel
theorem dX11_round_35 : decode cX11_round 35 = .ok (.aload_n 0, 1) := by decide +kernel
theorem dX11_round_36 : decode cX11_round 36 = .ok (.getfield 19, 3) := by decide +kernel
theorem dX11_round_39 : decode cX11_round 39 = .ok (.iload_n 3, 1) := by decide +kernel
theorem dX11_round_40 : decode cX11_round 40 = .ok (.iaload, 1) := by decide +kernel
theorem dX11_round_41 : decode cX11_round 41 = .ok (.if_icmp .eq 161, 3) := by decide +kernel
theorem dX11_round_44 : decode cX11_round 44 = .ok (.aload_n 0, 1) := by decide +kernel
theorem dX11_round_45 : decode cX11_round 45 = .ok (.getfield 16, 3) := by decide +kernel
theorem dX11_round_48 : decode cX11_round 48 = .ok (.iload_n 3, 1) := by decide +kernel
theorem dX11_round_49 : decode cX11_round 49 = .ok (.iaload, 1) := by decide +kernel
theorem dX11_round_50 : decode cX11_round 50 = .ok (.aload_n 0, 1) := by decide +kernel
theorem dX11_round_51 : decode cX11_round 51 = .ok (.getfield 72, 3) := by decide +kernel
theorem dX11_round_54 : decode cX11_round 54 = .ok (.iload_n 1, 1) := by decide +kernel
theorem dX11_round_55 : decode cX11_round 55 = .ok (.iaload, 1) := by decide +kernel
theorem dX11_round_56 : decode cX11_round 56 = .ok (.if_icmp .eq 18, 3) := by decide +kernel
theorem dX11_round_59 : decode cX11_round 59 = .ok (.aload_n 0, 1) := by decide +kernel
theorem dX11_round_60 : decode cX11_round 60 = .ok (.getfield 19, 3) := by decide +kernel
theorem dX11_round_63 : decode cX11_round 63 = .ok (.iload_n 3, 1) := by decide +kernel
theorem dX11_round_64 : decode cX11_round 64 = .ok (.iaload, 1) := by decide +kernel
theorem dX11_round_65 : decode cX11_round 65 = .ok (.aload_n 0, 1) := by decide +kernel
theorem dX11_round_66 : decode cX11_round 66 = .ok (.getfield 72, 3) := by decide +kernel
theorem dX11_round_69 : decode cX11_round 69 = .ok (.iload_n 1, 1) := by decide +kernel
theorem dX11_round_70 : decode cX11_round 70 = .ok (.iaload, 1) := by decide +kernel
theorem dX11_round_71 : decode cX11_round 71 = .ok (.if_icmp .ne 131, 3) := by decide +kernel
theorem dX11_round_74 : decode cX11_round 74 = .ok (.aload_n 0, 1) := by decide +kernel
theorem dX11_round_75 : decode cX11_round 75 = .ok (.iload_n 1, 1) := by decide +kernel
theorem dX11_round_76 : decode cX11_round 76 = .ok (.iload_n 3, 1) := by decide +kernel
theorem dX11_round_77 : decode cX11_round 77 = .ok (.invokevirtual 292, 3) := by decide +kernel
theorem dX11_round_80 : decode cX11_round 80 = .ok (.ifCond .ne 122, 3) := by decide +kernel
theorem dX11_round_83 : decode cX11_round 83 = .ok (.aload_n 0, 1) := by decide +kernel
theorem dX11_round_84 : decode cX11_round 84 = .ok (.getfield 19, 3) := by decide +kernel
theorem dX11_round_87 : decode cX11_round 87 = .ok (.iload_n 3, 1) := by decide +kernel
theorem dX11_round_88 : decode cX11_round 88 = .ok (.iaload, 1) := by decide +kernel
theorem dX11_round_89 : decode cX11_round 89 = .ok (.aload_n 0, 1) := by decide +kernel
theorem dX11_round_90 : decode cX11_round 90 = .ok (.getfield 72, 3) := by decide +kernel
theorem dX11_round_93 : decode cX11_round 93 = .ok (.iload_n 1, 1) := by decide +kernel
theorem dX11_round_94 : decode cX11_round 94 = .ok (.iaload, 1) := by decide +kernel
theorem dX11_round_95 : decode cX11_round 95 = .ok (.if_icmp .ne 7, 3) := by decide +kernel
theorem dX11_round_98 : decode cX11_round 98 = .ok (.iconst 1, 1) := by decide +kernel
theorem dX11_round_99 : decode cX11_round 99 = .ok (.goto 4, 3) := by decide +kernel
theorem dX11_round_102 : decode cX11_round 102 = .ok (.iconst 0, 1) := by decide +kernel
theorem dX11_round_103 : decode cX11_round 103 = .ok (.istore 4, 2) := by decide +kernel
theorem dX11_round_105 : decode cX11_round 105 = .ok (.iload 4, 2) := by decide +kernel
theorem dX11_round_107 : decode cX11_round 107 = .ok (.ifCond .eq 12, 3) := by decide +kernel
theorem dX11_round_110 : decode cX11_round 110 = .ok (.aload_n 0, 1) := by decide +kernel
theorem dX11_round_111 : decode cX11_round 111 = .ok (.getfield 16, 3) := by decide +kernel
theorem dX11_round_114 : decode cX11_round 114 = .ok (.iload_n 3, 1) := by decide +kernel
theorem dX11_round_115 : decode cX11_round 115 = .ok (.iaload, 1) := by decide +kernel
theorem dX11_round_116 : decode cX11_round 116 = .ok (.goto 9, 3) := by decide +kernel
theorem dX11_round_119 : decode cX11_round 119 = .ok (.aload_n 0, 1) := by decide +kernel
theorem dX11_round_120 : decode cX11_round 120 = .ok (.getfield 19, 3) := by decide +kernel
theorem dX11_round_123 : decode cX11_round 123 = .ok (.iload_n 3, 1) := by decide +kernel
theorem dX11_round_124 : decode cX11_round 124 = .ok (.iaload, 1) := by decide +kernel
theorem dX11_round_125 : decode cX11_round 125 = .ok (.istore 5, 2) := by decide +kernel
theorem dX11_round_127 : decode cX11_round 127 = .ok (.aload_n 0, 1) := by decide +kernel
theorem dX11_round_128 : decode cX11_round 128 = .ok (.getfield 75, 3) := by decide +kernel
theorem dX11_round_131 : decode cX11_round 131 = .ok (.iload_n 1, 1) := by decide +kernel
theorem dX11_round_132 : decode cX11_round 132 = .ok (.iload 4, 2) := by decide +kernel
theorem dX11_round_134 : decode cX11_round 134 = .ok (.ifCond .eq 10, 3) := by decide +kernel
theorem dX11_round_137 : decode cX11_round 137 = .ok (.bipush 100, 2) := by decide +kernel
theorem dX11_round_139 : decode cX11_round 139 = .ok (.iload_n 3, 1) := by decide +kernel
theorem dX11_round_140 : decode cX11_round 140 = .ok (.iadd, 1) := by decide +kernel
theorem dX11_round_141 : decode cX11_round 141 = .ok (.goto 4, 3) := by decide +kernel
theorem dX11_round_144 : decode cX11_round 144 = .ok (.iload_n 3, 1) := by decide +kernel
theorem dX11_round_145 : decode cX11_round 145 = .ok (.iastore, 1) := by decide +kernel
theorem dX11_round_146 : decode cX11_round 146 = .ok (.iload_n 1, 1) := by decide +kernel
theorem dX11_round_147 : decode cX11_round 147 = .ok (.aload_n 0, 1) := by decide +kernel
theorem dX11_round_148 : decode cX11_round 148 = .ok (.getfield 205, 3) := by decide +kernel
theorem dX11_round_151 : decode cX11_round 151 = .ok (.iconst 1, 1) := by decide +kernel
theorem dX11_round_152 : decode cX11_round 152 = .ok (.isub, 1) := by decide +kernel
theorem dX11_round_153 : decode cX11_round 153 = .ok (.if_icmp .ne 21, 3) := by decide +kernel
theorem dX11_round_156 : decode cX11_round 156 = .ok (.iload 5, 2) := by decide +kernel
theorem dX11_round_158 : decode cX11_round 158 = .ok (.aload_n 0, 1) := by decide +kernel
theorem dX11_round_159 : decode cX11_round 159 = .ok (.getfield 72, 3) := by decide +kernel
theorem dX11_round_162 : decode cX11_round 162 = .ok (.iconst 0, 1) := by decide +kernel
theorem dX11_round_163 : decode cX11_round 163 = .ok (.iaload, 1) := by decide +kernel
theorem dX11_round_164 : decode cX11_round 164 = .ok (.if_icmp .ne 38, 3) := by decide +kernel
theorem dX11_round_167 : decode cX11_round 167 = .ok (.aload_n 0, 1) := by decide +kernel
theorem dX11_round_168 : decode cX11_round 168 = .ok (.invokevirtual 295, 3) := by decide +kernel
theorem dX11_round_171 : decode cX11_round 171 = .ok (.goto 31, 3) := by decide +kernel
theorem dX11_round_174 : decode cX11_round 174 = .ok (.aload_n 0, 1) := by decide +kernel
theorem dX11_round_175 : decode cX11_round 175 = .ok (.iload_n 1, 1) := by decide +kernel
theorem dX11_round_176 : decode cX11_round 176 = .ok (.iload 5, 2) := by decide +kernel
theorem dX11_round_178 : decode cX11_round 178 = .ok (.invokevirtual 249, 3) := by decide +kernel
theorem dX11_round_181 : decode cX11_round 181 = .ok (.ifCond .ne 21, 3) := by decide +kernel
theorem dX11_round_184 : decode cX11_round 184 = .ok (.aload_n 0, 1) := by decide +kernel
theorem dX11_round_185 : decode cX11_round 185 = .ok (.getfield 72, 3) := by decide +kernel
theorem dX11_round_188 : decode cX11_round 188 = .ok (.iload_n 1, 1) := by decide +kernel
theorem dX11_round_189 : decode cX11_round 189 = .ok (.iconst 1, 1) := by decide +kernel
theorem dX11_round_190 : decode cX11_round 190 = .ok (.iadd, 1) := by decide +kernel
theorem dX11_round_191 : decode cX11_round 191 = .ok (.iload 5, 2) := by decide +kernel
theorem dX11_round_193 : decode cX11_round 193 = .ok (.iastore, 1) := by decide +kernel
theorem dX11_round_194 : decode cX11_round 194 = .ok (.aload_n 0, 1) := by decide +kernel
theorem dX11_round_195 : decode cX11_round 195 = .ok (.iload_n 1, 1) := by decide +kernel
theorem dX11_round_196 : decode cX11_round 196 = .ok (.iconst 1, 1) := by decide +kernel
theorem dX11_round_197 : decode cX11_round 197 = .ok (.iadd, 1) := by decide +kernel
theorem dX11_round_198 : decode cX11_round 198 = .ok (.iload_n 2, 1) := by decide +kernel
theorem dX11_round_199 : decode cX11_round 199 = .ok (.invokevirtual 298, 3) := by decide +kernel
theorem dX11_round_202 : decode cX11_round 202 = .ok (.iinc 3 1, 3) := by decide +kernel
theorem dX11_round_205 : decode cX11_round 205 = .ok (.goto (-193), 3) := by decide +kernel
theorem dX11_round_208 : decode cX11_round 208 = .ok (.return_, 1) := by decide +kernel
theorem dX11_isUsed_0 : decode cX11_isUsed 0 = .ok (.iconst 0, 1) := by decide +kernel
theorem dX11_isUsed_1 : decode cX11_isUsed 1 = .ok (.istore_n 3, 1) := by decide +kernel
theorem dX11_isUsed_2 : decode cX11_isUsed 2 = .ok (.iload_n 3, 1) := by decide +kernel
theorem dX11_isUsed_3 : decode cX11_isUsed 3 = .ok (.iload_n 1, 1) := by decide +kernel
theorem dX11_isUsed_4 : decode cX11_isUsed 4 = .ok (.if_icmp .ge 24, 3) := by decide +kernel
theorem dX11_isUsed_7 : decode cX11_isUsed 7 = .ok (.aload_n 0, 1) := by decide +kernel
theorem dX11_isUsed_8 : decode cX11_isUsed 8 = .ok (.getfield 75, 3) := by decide +kernel
theorem dX11_isUsed_11 : decode cX11_isUsed 11 = .ok (.iload_n 3, 1) := by decide +kernel
theorem dX11_isUsed_12 : decode cX11_isUsed 12 = .ok (.iaload, 1) := by decide +kernel
theorem dX11_isUsed_13 : decode cX11_isUsed 13 = .ok (.bipush 100, 2) := by decide +kernel
theorem dX11_isUsed_15 : decode cX11_isUsed 15 = .ok (.irem, 1) := by decide +kernel
theorem dX11_isUsed_16 : decode cX11_isUsed 16 = .ok (.iload_n 2, 1) := by decide +kernel
theorem dX11_isUsed_17 : decode cX11_isUsed 17 = .ok (.if_icmp .ne 5, 3) := by decide +kernel
theorem dX11_isUsed_20 : decode cX11_isUsed 20 = .ok (.iconst 1, 1) := by decide +kernel
theorem dX11_isUsed_21 : decode cX11_isUsed 21 = .ok (.ireturn, 1) := by decide +kernel
theorem dX11_isUsed_22 : decode cX11_isUsed 22 = .ok (.iinc 3 1, 3) := by decide +kernel
theorem dX11_isUsed_25 : decode cX11_isUsed 25 = .ok (.goto (-23), 3) := by decide +kernel
theorem dX11_isUsed_28 : decode cX11_isUsed 28 = .ok (.iconst 0, 1) := by decide +kernel
theorem dX11_isUsed_29 : decode cX11_isUsed 29 = .ok (.ireturn, 1) := by decide +kernel
theorem dX11_findRings_0 : decode cX11_findRings 0 = .ok (.aload_n 0, 1) := by decide +kernel
theorem dX11_findRings_1 : decode cX11_findRings 1 = .ok (.iload_n 1, 1) := by decide +kernel
theorem dX11_findRings_2 : decode cX11_findRings 2 = .ok (.iload_n 2, 1) := by decide +kernel
theorem dX11_findRings_3 : decode cX11_findRings 3 = .ok (.invokevirtual 263, 3) := by decide +kernel
theorem dX11_findRings_6 : decode cX11_findRings 6 = .ok (.aload_n 0, 1) := by decide +kernel
theorem dX11_findRings_7 : decode cX11_findRings 7 = .ok (.iconst 0, 1) := by decide +kernel
theorem dX11_findRings_8 : decode cX11_findRings 8 = .ok (.putfield 301, 3) := by decide +kernel
theorem dX11_findRings_11 : decode cX11_findRings 11 = .ok (.iconst 0, 1) := by decide +kernel
theorem dX11_findRings_12 : decode cX11_findRings 12 = .ok (.istore 4, 2) := by decide +kernel
theorem dX11_findRings_14 : decode cX11_findRings 14 = .ok (.iload 4, 2) := by decide +kernel
theorem dX11_findRings_16 : decode cX11_findRings 16 = .ok (.aload_n 0, 1) := by decide +kernel
theorem dX11_findRings_17 : decode cX11_findRings 17 = .ok (.getfield 159, 3) := by decide +kernel
theorem dX11_findRings_20 : decode cX11_findRings 20 = .ok (.if_icmp .ge 74, 3) := by decide +kernel
theorem dX11_findRings_23 : decode cX11_findRings 23 = .ok (.aload_n 0, 1) := by decide +kernel
theorem dX11_findRings_24 : decode cX11_findRings 24 = .ok (.getfield 84, 3) := by decide +kernel
theorem dX11_findRings_27 : decode cX11_findRings 27 = .ok (.iload 4, 2) := by decide +kernel
theorem dX11_findRings_29 : decode cX11_findRings 29 = .ok (.iconst (-1), 1) := by decide +kernel
theorem dX11_findRings_30 : decode cX11_findRings 30 = .ok (.iastore, 1) := by decide +kernel
theorem dX11_findRings_31 : decode cX11_findRings 31 = .ok (.aload_n 0, 1) := by decide +kernel
theorem dX11_findRings_32 : decode cX11_findRings 32 = .ok (.getfield 69, 3) := by decide +kernel
theorem dX11_findRings_35 : decode cX11_findRings 35 = .ok (.iload 4, 2) := by decide +kernel
theorem dX11_findRings_37 : decode cX11_findRings 37 = .ok (.baload, 1) := by decide +kernel
theorem dX11_findRings_38 : decode cX11_findRings 38 = .ok (.ifCond .eq 50, 3) := by decide +kernel
theorem dX11_findRings_41 : decode cX11_findRings 41 = .ok (.aload_n 0, 1) := by decide +kernel
theorem dX11_findRings_42 : decode cX11_findRings 42 = .ok (.iload 4, 2) := by decide +kernel
theorem dX11_findRings_44 : decode cX11_findRings 44 = .ok (.invokevirtual 178, 3) := by decide +kernel
theorem dX11_findRings_47 : decode cX11_findRings 47 = .ok (.ifCond .eq 41, 3) := by decide +kernel
theorem dX11_findRings_50 : decode cX11_findRings 50 = .ok (.aload_n 0, 1) := by decide +kernel
theorem dX11_findRings_51 : decode cX11_findRings 51 = .ok (.getfield 84, 3) := by decide +kernel
theorem dX11_findRings_54 : decode cX11_findRings 54 = .ok (.iload 4, 2) := by decide +kernel
theorem dX11_findRings_56 : decode cX11_findRings 56 = .ok (.iload_n 3, 1) := by decide +kernel
theorem dX11_findRings_57 : decode cX11_findRings 57 = .ok (.ifCond .eq 19, 3) := by decide +kernel
theorem dX11_findRings_60 : decode cX11_findRings 60 = .ok (.aload_n 0, 1) := by decide +kernel
theorem dX11_findRings_61 : decode cX11_findRings 61 = .ok (.getfield 301, 3) := by decide +kernel
theorem dX11_findRings_64 : decode cX11_findRings 64 = .ok (.bipush 10, 2) := by decide +kernel
theorem dX11_findRings_66 : decode cX11_findRings 66 = .ok (.if_icmp .ge 10, 3) := by decide +kernel
theorem dX11_findRings_69 : decode cX11_findRings 69 = .ok (.aload_n 0, 1) := by decide +kernel
theorem dX11_findRings_70 : decode cX11_findRings 70 = .ok (.getfield 301, 3) := by decide +kernel
theorem dX11_findRings_73 : decode cX11_findRings 73 = .ok (.goto 4, 3) := by decide +kernel
theorem dX11_findRings_76 : decode cX11_findRings 76 = .ok (.iconst (-1), 1) := by decide +kernel
theorem dX11_findRings_77 : decode cX11_findRings 77 = .ok (.iastore, 1) := by decide +kernel
theorem dX11_findRings_78 : decode cX11_findRings 78 = .ok (.aload_n 0, 1) := by decide +kernel
theorem dX11_findRings_79 : decode cX11_findRings 79 = .ok (.dup, 1) := by decide +kernel
theorem dX11_findRings_80 : decode cX11_findRings 80 = .ok (.getfield 301, 3) := by decide +kernel
theorem dX11_findRings_83 : decode cX11_findRings 83 = .ok (.iconst 1, 1) := by decide +kernel
theorem dX11_findRings_84 : decode cX11_findRings 84 = .ok (.iadd, 1) := by decide +kernel
theorem dX11_findRings_85 : decode cX11_findRings 85 = .ok (.putfield 301, 3) := by decide +kernel
theorem dX11_findRings_88 : decode cX11_findRings 88 = .ok (.iinc 4 1, 3) := by decide +kernel
theorem dX11_findRings_91 : decode cX11_findRings 91 = .ok (.goto (-77), 3) := by decide +kernel
theorem dX11_findRings_94 : decode cX11_findRings 94 = .ok (.iconst 0, 1) := by decide +kernel
theorem dX11_findRings_95 : decode cX11_findRings 95 = .ok (.istore 4, 2) := by decide +kernel
theorem dX11_findRings_97 : decode cX11_findRings 97 = .ok (.iload 4, 2) := by decide +kernel
theorem dX11_findRings_99 : decode cX11_findRings 99 = .ok (.sipush 1024, 3) := by decide +kernel
theorem dX11_findRings_102 : decode cX11_findRings 102 = .ok (.if_icmp .ge 17, 3) := by decide +kernel
theorem dX11_findRings_105 : decode cX11_findRings 105 = .ok (.aload_n 0, 1) := by decide +kernel
theorem dX11_findRings_106 : decode cX11_findRings 106 = .ok (.getfield 81, 3) := by decide +kernel
theorem dX11_findRings_109 : decode cX11_findRings 109 = .ok (.iload 4, 2) := by decide +kernel
theorem dX11_findRings_111 : decode cX11_findRings 111 = .ok (.iconst 0, 1) := by decide +kernel
theorem dX11_findRings_112 : decode cX11_findRings 112 = .ok (.bastore, 1) := by decide +kernel
theorem dX11_findRings_113 : decode cX11_findRings 113 = .ok (.iinc 4 1, 3) := by decide +kernel
theorem dX11_findRings_116 : decode cX11_findRings 116 = .ok (.goto (-19), 3) := by decide +kernel
theorem dX11_findRings_119 : decode cX11_findRings 119 = .ok (.aload_n 0, 1) := by decide +kernel
theorem dX11_findRings_120 : decode cX11_findRings 120 = .ok (.iconst 0, 1) := by decide +kernel
theorem dX11_findRings_121 : decode cX11_findRings 121 = .ok (.putfield 285, 3) := by decide +kernel
theorem dX11_findRings_124 : decode cX11_findRings 124 = .ok (.aload_n 0, 1) := by decide +kernel
theorem dX11_findRings_125 : decode cX11_findRings 125 = .ok (.iconst 0, 1) := by decide +kernel
theorem dX11_findRings_126 : decode cX11_findRings 126 = .ok (.putfield 103, 3) := by decide +kernel
theorem dX11_findRings_129 : decode cX11_findRings 129 = .ok (.aload_n 0, 1) := by decide +kernel
theorem dX11_findRings_130 : decode cX11_findRings 130 = .ok (.iconst 1, 1) := by decide +kernel
theorem dX11_findRings_131 : decode cX11_findRings 131 = .ok (.putfield 205, 3) := by decide +kernel
theorem dX11_findRings_134 : decode cX11_findRings 134 = .ok (.aload_n 0, 1) := by decide +kernel
theorem dX11_findRings_135 : decode cX11_findRings 135 = .ok (.getfield 205, 3) := by decide +kernel
theorem dX11_findRings_138 : decode cX11_findRings 138 = .ok (.bipush 10, 2) := by decide +kernel
theorem dX11_findRings_140 : decode cX11_findRings 140 = .ok (.if_icmp .gt 65, 3) := by decide +kernel
theorem dX11_findRings_143 : decode cX11_findRings 143 = .ok (.iconst 0, 1) := by decide +kernel
theorem dX11_findRings_144 : decode cX11_findRings 144 = .ok (.istore 4, 2) := by decide +kernel
theorem dX11_findRings_146 : decode cX11_findRings 146 = .ok (.iload 4, 2) := by decide +kernel
theorem dX11_findRings_148 : decode cX11_findRings 148 = .ok (.aload_n 0, 1) := by decide +kernel
theorem dX11_findRings_149 : decode cX11_findRings 149 = .ok (.getfield 159, 3) := by decide +kernel
theorem dX11_findRings_152 : decode cX11_findRings 152 = .ok (.if_icmp .ge 40, 3) := by decide +kernel
theorem dX11_findRings_155 : decode cX11_findRings 155 = .ok (.aload_n 0, 1) := by decide +kernel
theorem dX11_findRings_156 : decode cX11_findRings 156 = .ok (.getfield 103, 3) := by decide +kernel
theorem dX11_findRings_159 : decode cX11_findRings 159 = .ok (.ifCond .ne 33, 3) := by decide +kernel
theorem dX11_findRings_162 : decode cX11_findRings 162 = .ok (.aload_n 0, 1) := by decide +kernel
theorem dX11_findRings_163 : decode cX11_findRings 163 = .ok (.getfield 69, 3) := by decide +kernel
theorem dX11_findRings_166 : decode cX11_findRings 166 = .ok (.iload 4, 2) := by decide +kernel
theorem dX11_findRings_168 : decode cX11_findRings 168 = .ok (.baload, 1) := by decide +kernel
theorem dX11_findRings_169 : decode cX11_findRings 169 = .ok (.ifCond .eq 17, 3) := by decide +kernel
theorem dX11_findRings_172 : decode cX11_findRings 172 = .ok (.aload_n 0, 1) := by decide +kernel
theorem dX11_findRings_173 : decode cX11_findRings 173 = .ok (.iload 4, 2) := by decide +kernel
theorem dX11_findRings_175 : decode cX11_findRings 175 = .ok (.iconst 0, 1) := by decide +kernel
theorem dX11_findRings_176 : decode cX11_findRings 176 = .ok (.invokevirtual 304, 3) := by decide +kernel
theorem dX11_findRings_179 : decode cX11_findRings 179 = .ok (.aload_n 0, 1) := by decide +kernel
theorem dX11_findRings_180 : decode cX11_findRings 180 = .ok (.iload 4, 2) := by decide +kernel
theorem dX11_findRings_182 : decode cX11_findRings 182 = .ok (.iconst 1, 1) := by decide +kernel
theorem dX11_findRings_183 : decode cX11_findRings 183 = .ok (.invokevirtual 304, 3) := by decide +kernel
theorem dX11_findRings_186 : decode cX11_findRings 186 = .ok (.iinc 4 1, 3) := by decide +kernel
theorem dX11_findRings_189 : decode cX11_findRings 189 = .ok (.goto (-43), 3) := by decide +kernel
theorem dX11_findRings_192 : decode cX11_findRings 192 = .ok (.aload_n 0, 1) := by decide +kernel
theorem dX11_findRings_193 : decode cX11_findRings 193 = .ok (.dup, 1) := by decide +kernel
theorem dX11_findRings_194 : decode cX11_findRings 194 = .ok (.getfield 205, 3) := by decide +kernel
theorem dX11_findRings_197 : decode cX11_findRings 197 = .ok (.iconst 1, 1) := by decide +kernel
theorem dX11_findRings_198 : decode cX11_findRings 198 = .ok (.iadd, 1) := by decide +kernel
theorem dX11_findRings_199 : decode cX11_findRings 199 = .ok (.putfield 205, 3) := by decide +kernel
theorem dX11_findRings_202 : decode cX11_findRings 202 = .ok (.goto (-68), 3) := by decide +kernel
theorem dX11_findRings_205 : decode cX11_findRings 205 = .ok (.aload_n 0, 1) := by decide +kernel
theorem dX11_findRings_206 : decode cX11_findRings 206 = .ok (.getfield 103, 3) := by decide +kernel
theorem dX11_findRings_209 : decode cX11_findRings 209 = .ok (.ifCond .ne 20, 3) := by decide +kernel
theorem dX11_findRings_212 : decode cX11_findRings 212 = .ok (.iload_n 3, 1) := by decide +kernel
theorem dX11_findRings_213 : decode cX11_findRings 213 = .ok (.ifCond .eq 12, 3) := by decide +kernel
theorem dX11_findRings_216 : decode cX11_findRings 216 = .ok (.aload_n 0, 1) := by decide +kernel
theorem dX11_findRings_217 : decode cX11_findRings 217 = .ok (.getfield 301, 3) := by decide +kernel
theorem dX11_findRings_220 : decode cX11_findRings 220 = .ok (.bipush 10, 2) := by decide +kernel
theorem dX11_findRings_222 : decode cX11_findRings 222 = .ok (.if_icmp .gt 7, 3) := by decide +kernel
theorem dX11_findRings_225 : decode cX11_findRings 225 = .ok (.iconst 1, 1) := by decide +kernel
theorem dX11_findRings_226 : decode cX11_findRings 226 = .ok (.goto 4, 3) := by decide +kernel
theorem dX11_findRings_229 : decode cX11_findRings 229 = .ok (.iconst 0, 1) := by decide +kernel
theorem dX11_findRings_230 : decode cX11_findRings 230 = .ok (.ireturn, 1) := by decide +kernel
theorem dX11_begin_0 : decode cX11_begin 0 = .ok (.aload_n 0, 1) := by decide +kernel
theorem dX11_begin_1 : decode cX11_begin 1 = .ok (.getfield 75, 3) := by decide +kernel
theorem dX11_begin_4 : decode cX11_begin 4 = .ok (.iconst 0, 1) := by decide +kernel
theorem dX11_begin_5 : decode cX11_begin 5 = .ok (.iload_n 2, 1) := by decide +kernel
theorem dX11_begin_6 : decode cX11_begin 6 = .ok (.ifCond .eq 10, 3) := by decide +kernel
theorem dX11_begin_9 : decode cX11_begin 9 = .ok (.bipush 100, 2) := by decide +kernel
theorem dX11_begin_11 : decode cX11_begin 11 = .ok (.iload_n 1, 1) := by decide +kernel
theorem dX11_begin_12 : decode cX11_begin 12 = .ok (.iadd, 1) := by decide +kernel
theorem dX11_begin_13 : decode cX11_begin 13 = .ok (.goto 4, 3) := by decide +kernel
theorem dX11_begin_16 : decode cX11_begin 16 = .ok (.iload_n 1, 1) := by decide +kernel
theorem dX11_begin_17 : decode cX11_begin 17 = .ok (.iastore, 1) := by decide +kernel
theorem dX11_begin_18 : decode cX11_begin 18 = .ok (.aload_n 0, 1) := by decide +kernel
theorem dX11_begin_19 : decode cX11_begin 19 = .ok (.getfield 16, 3) := by decide +kernel
theorem dX11_begin_22 : decode cX11_begin 22 = .ok (.iload_n 1, 1) := by decide +kernel
theorem dX11_begin_23 : decode cX11_begin 23 = .ok (.iaload, 1) := by decide +kernel
theorem dX11_begin_24 : decode cX11_begin 24 = .ok (.aload_n 0, 1) := by decide +kernel
theorem dX11_begin_25 : decode cX11_begin 25 = .ok (.getfield 19, 3) := by decide +kernel
theorem dX11_begin_28 : decode cX11_begin 28 = .ok (.iload_n 1, 1) := by decide +kernel
theorem dX11_begin_29 : decode cX11_begin 29 = .ok (.iaload, 1) := by decide +kernel
theorem dX11_begin_30 : decode cX11_begin 30 = .ok (.if_icmp .ne 16, 3) := by decide +kernel
theorem dX11_begin_33 : decode cX11_begin 33 = .ok (.aload_n 0, 1) := by decide +kernel
theorem dX11_begin_34 : decode cX11_begin 34 = .ok (.getfield 205, 3) := by decide +kernel
theorem dX11_begin_37 : decode cX11_begin 37 = .ok (.iconst 1, 1) := by decide +kernel
theorem dX11_begin_38 : decode cX11_begin 38 = .ok (.if_icmp .ne 7, 3) := by decide +kernel
theorem dX11_begin_41 : decode cX11_begin 41 = .ok (.aload_n 0, 1) := by decide +kernel
theorem dX11_begin_42 : decode cX11_begin 42 = .ok (.invokevirtual 295, 3) := by decide +kernel
theorem dX11_begin_45 : decode cX11_begin 45 = .ok (.return_, 1) := by decide +kernel
theorem dX11_begin_46 : decode cX11_begin 46 = .ok (.aload_n 0, 1) := by decide +kernel
theorem dX11_begin_47 : decode cX11_begin 47 = .ok (.getfield 72, 3) := by decide +kernel
theorem dX11_begin_50 : decode cX11_begin 50 = .ok (.iconst 0, 1) := by decide +kernel
theorem dX11_begin_51 : decode cX11_begin 51 = .ok (.iload_n 2, 1) := by decide +kernel
theorem dX11_begin_52 : decode cX11_begin 52 = .ok (.ifCond .eq 12, 3) := by decide +kernel
theorem dX11_begin_55 : decode cX11_begin 55 = .ok (.aload_n 0, 1) := by decide +kernel
theorem dX11_begin_56 : decode cX11_begin 56 = .ok (.getfield 19, 3) := by decide +kernel
theorem dX11_begin_59 : decode cX11_begin 59 = .ok (.iload_n 1, 1) := by decide +kernel
theorem dX11_begin_60 : decode cX11_begin 60 = .ok (.iaload, 1) := by decide +kernel
theorem dX11_begin_61 : decode cX11_begin 61 = .ok (.goto 9, 3) := by decide +kernel
theorem dX11_begin_64 : decode cX11_begin 64 = .ok (.aload_n 0, 1) := by decide +kernel
theorem dX11_begin_65 : decode cX11_begin 65 = .ok (.getfield 16, 3) := by decide +kernel
theorem dX11_begin_68 : decode cX11_begin 68 = .ok (.iload_n 1, 1) := by decide +kernel
theorem dX11_begin_69 : decode cX11_begin 69 = .ok (.iaload, 1) := by decide +kernel
theorem dX11_begin_70 : decode cX11_begin 70 = .ok (.iastore, 1) := by decide +kernel
theorem dX11_begin_71 : decode cX11_begin 71 = .ok (.aload_n 0, 1) := by decide +kernel
theorem dX11_begin_72 : decode cX11_begin 72 = .ok (.getfield 72, 3) := by decide +kernel
theorem dX11_begin_75 : decode cX11_begin 75 = .ok (.iconst 1, 1) := by decide +kernel
theorem dX11_begin_76 : decode cX11_begin 76 = .ok (.iload_n 2, 1) := by decide +kernel
theorem dX11_begin_77 : decode cX11_begin 77 = .ok (.ifCond .eq 12, 3) := by decide +kernel
theorem dX11_begin_80 : decode cX11_begin 80 = .ok (.aload_n 0, 1) := by decide +kernel
theorem dX11_begin_81 : decode cX11_begin 81 = .ok (.getfield 16, 3) := by decide +kernel
theorem dX11_begin_84 : decode cX11_begin 84 = .ok (.iload_n 1, 1) := by decide +kernel
theorem dX11_begin_85 : decode cX11_begin 85 = .ok (.iaload, 1) := by decide +kernel
theorem dX11_begin_86 : decode cX11_begin 86 = .ok (.goto 9, 3) := by decide +kernel
theorem dX11_begin_89 : decode cX11_begin 89 = .ok (.aload_n 0, 1) := by decide +kernel
theorem dX11_begin_90 : decode cX11_begin 90 = .ok (.getfield 19, 3) := by decide +kernel
theorem dX11_begin_93 : decode cX11_begin 93 = .ok (.iload_n 1, 1) := by decide +kernel
theorem dX11_begin_94 : decode cX11_begin 94 = .ok (.iaload, 1) := by decide +kernel
theorem dX11_begin_95 : decode cX11_begin 95 = .ok (.iastore, 1) := by decide +kernel
theorem dX11_begin_96 : decode cX11_begin 96 = .ok (.aload_n 0, 1) := by decide +kernel
theorem dX11_begin_97 : decode cX11_begin 97 = .ok (.getfield 205, 3) := by decide +kernel
theorem dX11_begin_100 : decode cX11_begin 100 = .ok (.iconst 1, 1) := by decide +kernel
theorem dX11_begin_101 : decode cX11_begin 101 = .ok (.if_icmp .le 9, 3) := by decide +kernel
theorem dX11_begin_104 : decode cX11_begin 104 = .ok (.aload_n 0, 1) := by decide +kernel
theorem dX11_begin_105 : decode cX11_begin 105 = .ok (.iconst 1, 1) := by decide +kernel
theorem dX11_begin_106 : decode cX11_begin 106 = .ok (.iload_n 1, 1) := by decide +kernel
theorem dX11_begin_107 : decode cX11_begin 107 = .ok (.invokevirtual 298, 3) := by decide +kernel
theorem dX11_begin_110 : decode cX11_begin 110 = .ok (.return_, 1) := by decide +kernel
theorem dX11_quarrel_0 : decode cX11_quarrel 0 = .ok (.iload_n 1, 1) := by decide +kernel
theorem dX11_quarrel_1 : decode cX11_quarrel 1 = .ok (.invokestatic 260, 3) := by decide +kernel
theorem dX11_quarrel_4 : decode cX11_quarrel 4 = .ok (.ifCond .eq 7, 3) := by decide +kernel
theorem dX11_quarrel_7 : decode cX11_quarrel 7 = .ok (.iload_n 2, 1) := by decide +kernel
theorem dX11_quarrel_8 : decode cX11_quarrel 8 = .ok (.ifCond .ge 7, 3) := by decide +kernel
theorem dX11_quarrel_11 : decode cX11_quarrel 11 = .ok (.ldc2_w 149, 3) := by decide +kernel
theorem dX11_quarrel_14 : decode cX11_quarrel 14 = .ok (.lreturn, 1) := by decide +kernel
theorem dX11_quarrel_15 : decode cX11_quarrel 15 = .ok (.aload_n 0, 1) := by decide +kernel
theorem dX11_quarrel_16 : decode cX11_quarrel 16 = .ok (.iload_n 1, 1) := by decide +kernel
theorem dX11_quarrel_17 : decode cX11_quarrel 17 = .ok (.sipush 10000, 3) := by decide +kernel
theorem dX11_quarrel_20 : decode cX11_quarrel 20 = .ok (.idiv, 1) := by decide +kernel
theorem dX11_quarrel_21 : decode cX11_quarrel 21 = .ok (.iload_n 1, 1) := by decide +kernel
theorem dX11_quarrel_22 : decode cX11_quarrel 22 = .ok (.sipush 10000, 3) := by decide +kernel
theorem dX11_quarrel_25 : decode cX11_quarrel 25 = .ok (.irem, 1) := by decide +kernel
theorem dX11_quarrel_26 : decode cX11_quarrel 26 = .ok (.iconst 0, 1) := by decide +kernel
theorem dX11_quarrel_27 : decode cX11_quarrel 27 = .ok (.invokevirtual 308, 3) := by decide +kernel
theorem dX11_quarrel_30 : decode cX11_quarrel 30 = .ok (.ifCond .ne 7, 3) := by decide +kernel
theorem dX11_quarrel_33 : decode cX11_quarrel 33 = .ok (.ldc2_w 272, 3) := by decide +kernel
theorem dX11_quarrel_36 : decode cX11_quarrel 36 = .ok (.lreturn, 1) := by decide +kernel
theorem dX11_quarrel_37 : decode cX11_quarrel 37 = .ok (.aload_n 0, 1) := by decide +kernel
theorem dX11_quarrel_38 : decode cX11_quarrel 38 = .ok (.getfield 285, 3) := by decide +kernel
theorem dX11_quarrel_41 : decode cX11_quarrel 41 = .ok (.ifCond .eq 21, 3) := by decide +kernel
theorem dX11_quarrel_44 : decode cX11_quarrel 44 = .ok (.iload_n 2, 1) := by decide +kernel
theorem dX11_quarrel_45 : decode cX11_quarrel 45 = .ok (.aload_n 0, 1) := by decide +kernel
theorem dX11_quarrel_46 : decode cX11_quarrel 46 = .ok (.getfield 240, 3) := by decide +kernel
theorem dX11_quarrel_49 : decode cX11_quarrel 49 = .ok (.if_icmp .ge 13, 3) := by decide +kernel
theorem dX11_quarrel_52 : decode cX11_quarrel 52 = .ok (.aload_n 0, 1) := by decide +kernel
theorem dX11_quarrel_53 : decode cX11_quarrel 53 = .ok (.getfield 78, 3) := by decide +kernel
theorem dX11_quarrel_56 : decode cX11_quarrel 56 = .ok (.iload_n 2, 1) := by decide +kernel
theorem dX11_quarrel_57 : decode cX11_quarrel 57 = .ok (.iaload, 1) := by decide +kernel
theorem dX11_quarrel_58 : decode cX11_quarrel 58 = .ok (.i2l, 1) := by decide +kernel
theorem dX11_quarrel_59 : decode cX11_quarrel 59 = .ok (.goto 6, 3) := by decide +kernel
theorem dX11_quarrel_62 : decode cX11_quarrel 62 = .ok (.ldc2_w 270, 3) := by decide +kernel
theorem dX11_quarrel_65 : decode cX11_quarrel 65 = .ok (.lreturn, 1) := by decide +kernel
theorem dX11_cureOf_0 : decode cX11_cureOf 0 = .ok (.aload_n 0, 1) := by decide +kernel
theorem dX11_cureOf_1 : decode cX11_cureOf 1 = .ok (.iload_n 1, 1) := by decide +kernel
theorem dX11_cureOf_2 : decode cX11_cureOf 2 = .ok (.iload_n 2, 1) := by decide +kernel
theorem dX11_cureOf_3 : decode cX11_cureOf 3 = .ok (.iconst 1, 1) := by decide +kernel
theorem dX11_cureOf_4 : decode cX11_cureOf 4 = .ok (.invokevirtual 308, 3) := by decide +kernel
theorem dX11_cureOf_7 : decode cX11_cureOf 7 = .ok (.ifCond .ne 7, 3) := by decide +kernel
theorem dX11_cureOf_10 : decode cX11_cureOf 10 = .ok (.ldc2_w 272, 3) := by decide +kernel
theorem dX11_cureOf_13 : decode cX11_cureOf 13 = .ok (.lreturn, 1) := by decide +kernel
theorem dX11_cureOf_14 : decode cX11_cureOf 14 = .ok (.ldc2_w 270, 3) := by decide +kernel
theorem dX11_cureOf_17 : decode cX11_cureOf 17 = .ok (.lstore_n 3, 1) := by decide +kernel
theorem dX11_cureOf_18 : decode cX11_cureOf 18 = .ok (.iconst 0, 1) := by decide +kernel
theorem dX11_cureOf_19 : decode cX11_cureOf 19 = .ok (.istore 5, 2) := by decide +kernel
theorem dX11_cureOf_21 : decode cX11_cureOf 21 = .ok (.iconst 0, 1) := by decide +kernel
theorem dX11_cureOf_22 : decode cX11_cureOf 22 = .ok (.istore 6, 2) := by decide +kernel
theorem dX11_cureOf_24 : decode cX11_cureOf 24 = .ok (.iconst 0, 1) := by decide +kernel
theorem dX11_cureOf_25 : decode cX11_cureOf 25 = .ok (.istore 7, 2) := by decide +kernel
theorem dX11_cureOf_27 : decode cX11_cureOf 27 = .ok (.iload 7, 2) := by decide +kernel
theorem dX11_cureOf_29 : decode cX11_cureOf 29 = .ok (.iconst 1, 1) := by decide +kernel
theorem dX11_cureOf_30 : decode cX11_cureOf 30 = .ok (.aload_n 0, 1) := by decide +kernel
theorem dX11_cureOf_31 : decode cX11_cureOf 31 = .ok (.getfield 301, 3) := by decide +kernel
theorem dX11_cureOf_34 : decode cX11_cureOf 34 = .ok (.ishl, 1) := by decide +kernel
theorem dX11_cureOf_35 : decode cX11_cureOf 35 = .ok (.if_icmp .ge 195, 3) := by decide +kernel
theorem dX11_cureOf_38 : decode cX11_cureOf 38 = .ok (.iconst 1, 1) := by decide +kernel
theorem dX11_cureOf_39 : decode cX11_cureOf 39 = .ok (.istore 8, 2) := by decide +kernel
theorem dX11_cureOf_41 : decode cX11_cureOf 41 = .ok (.iconst 0, 1) := by decide +kernel
theorem dX11_cureOf_42 : decode cX11_cureOf 42 = .ok (.istore 9, 2) := by decide +kernel
theorem dX11_cureOf_44 : decode cX11_cureOf 44 = .ok (.iload 9, 2) := by decide +kernel
theorem dX11_cureOf_46 : decode cX11_cureOf 46 = .ok (.sipush 1024, 3) := by decide +kernel
theorem dX11_cureOf_49 : decode cX11_cureOf 49 = .ok (.if_icmp .ge 39, 3) := by decide +kernel
theorem dX11_cureOf_52 : decode cX11_cureOf 52 = .ok (.iload 8, 2) := by decide +kernel
theorem dX11_cureOf_54 : decode cX11_cureOf 54 = .ok (.ifCond .eq 34, 3) := by decide +kernel
theorem dX11_cureOf_57 : decode cX11_cureOf 57 = .ok (.aload_n 0, 1) := by decide +kernel
theorem dX11_cureOf_58 : decode cX11_cureOf 58 = .ok (.getfield 81, 3) := by decide +kernel
theorem dX11_cureOf_61 : decode cX11_cureOf 61 = .ok (.iload 9, 2) := by decide +kernel
theorem dX11_cureOf_63 : decode cX11_cureOf 63 = .ok (.baload, 1) := by decide +kernel
theorem dX11_cureOf_64 : decode cX11_cureOf 64 = .ok (.ifCond .eq 11, 3) := by decide +kernel
theorem dX11_cureOf_67 : decode cX11_cureOf 67 = .ok (.iload 9, 2) := by decide +kernel
theorem dX11_cureOf_69 : decode cX11_cureOf 69 = .ok (.iload 7, 2) := by decide +kernel
theorem dX11_cureOf_71 : decode cX11_cureOf 71 = .ok (.iand, 1) := by decide +kernel
theorem dX11_cureOf_72 : decode cX11_cureOf 72 = .ok (.ifCond .eq 7, 3) := by decide +kernel
theorem dX11_cureOf_75 : decode cX11_cureOf 75 = .ok (.iconst 1, 1) := by decide +kernel
theorem dX11_cureOf_76 : decode cX11_cureOf 76 = .ok (.goto 4, 3) := by decide +kernel
theorem dX11_cureOf_79 : decode cX11_cureOf 79 = .ok (.iconst 0, 1) := by decide +kernel
theorem dX11_cureOf_80 : decode cX11_cureOf 80 = .ok (.istore 8, 2) := by decide +kernel
theorem dX11_cureOf_82 : decode cX11_cureOf 82 = .ok (.iinc 9 1, 3) := by decide +kernel
theorem dX11_cureOf_85 : decode cX11_cureOf 85 = .ok (.goto (-41), 3) := by decide +kernel
theorem dX11_cureOf_88 : decode cX11_cureOf 88 = .ok (.iload 8, 2) := by decide +kernel
theorem dX11_cureOf_90 : decode cX11_cureOf 90 = .ok (.ifCond .eq 134, 3) := by decide +kernel
theorem dX11_cureOf_93 : decode cX11_cureOf 93 = .ok (.iconst 0, 1) := by decide +kernel
theorem dX11_cureOf_94 : decode cX11_cureOf 94 = .ok (.istore 9, 2) := by decide +kernel
theorem dX11_cureOf_96 : decode cX11_cureOf 96 = .ok (.iconst 0, 1) := by decide +kernel
theorem dX11_cureOf_97 : decode cX11_cureOf 97 = .ok (.istore 10, 2) := by decide +kernel
theorem dX11_cureOf_99 : decode cX11_cureOf 99 = .ok (.lconst 0, 1) := by decide +kernel
theorem dX11_cureOf_100 : decode cX11_cureOf 100 = .ok (.lstore 11, 2) := by decide +kernel
theorem dX11_cureOf_102 : decode cX11_cureOf 102 = .ok (.iconst 0, 1) := by decide +kernel
theorem dX11_cureOf_103 : decode cX11_cureOf 103 = .ok (.istore 13, 2) := by decide +kernel
theorem dX11_cureOf_105 : decode cX11_cureOf 105 = .ok (.iload 13, 2) := by decide +kernel
theorem dX11_cureOf_107 : decode cX11_cureOf 107 = .ok (.aload_n 0, 1) := by decide +kernel
theorem dX11_cureOf_108 : decode cX11_cureOf 108 = .ok (.getfield 159, 3) := by decide +kernel
theorem dX11_cureOf_111 : decode cX11_cureOf 111 = .ok (.if_icmp .ge 59, 3) := by decide +kernel
theorem dX11_cureOf_114 : decode cX11_cureOf 114 = .ok (.aload_n 0, 1) := by decide +kernel
theorem dX11_cureOf_115 : decode cX11_cureOf 115 = .ok (.getfield 84, 3) := by decide +kernel
theorem dX11_cureOf_118 : decode cX11_cureOf 118 = .ok (.iload 13, 2) := by decide +kernel
theorem dX11_cureOf_120 : decode cX11_cureOf 120 = .ok (.iaload, 1) := by decide +kernel
theorem dX11_cureOf_121 : decode cX11_cureOf 121 = .ok (.ifCond .lt 43, 3) := by decide +kernel
theorem dX11_cureOf_124 : decode cX11_cureOf 124 = .ok (.iload 7, 2) := by decide +kernel
theorem dX11_cureOf_126 : decode cX11_cureOf 126 = .ok (.aload_n 0, 1) := by decide +kernel
theorem dX11_cureOf_127 : decode cX11_cureOf 127 = .ok (.getfield 84, 3) := by decide +kernel
theorem dX11_cureOf_130 : decode cX11_cureOf 130 = .ok (.iload 13, 2) := by decide +kernel
theorem dX11_cureOf_132 : decode cX11_cureOf 132 = .ok (.iaload, 1) := by decide +kernel
theorem dX11_cureOf_133 : decode cX11_cureOf 133 = .ok (.ishr, 1) := by decide +kernel
theorem dX11_cureOf_134 : decode cX11_cureOf 134 = .ok (.iconst 1, 1) := by decide +kernel
theorem dX11_cureOf_135 : decode cX11_cureOf 135 = .ok (.iand, 1) := by decide +kernel
theorem dX11_cureOf_136 : decode cX11_cureOf 136 = .ok (.iconst 1, 1) := by decide +kernel
theorem dX11_cureOf_137 : decode cX11_cureOf 137 = .ok (.if_icmp .ne 27, 3) := by decide +kernel
theorem dX11_cureOf_140 : decode cX11_cureOf 140 = .ok (.iload 9, 2) := by decide +kernel
theorem dX11_cureOf_142 : decode cX11_cureOf 142 = .ok (.aload_n 0, 1) := by decide +kernel
theorem dX11_cureOf_143 : decode cX11_cureOf 143 = .ok (.getfield 37, 3) := by decide +kernel
theorem dX11_cureOf_146 : decode cX11_cureOf 146 = .ok (.iload 13, 2) := by decide +kernel
theorem dX11_cureOf_148 : decode cX11_cureOf 148 = .ok (.iaload, 1) := by decide +kernel
theorem dX11_cureOf_149 : decode cX11_cureOf 149 = .ok (.iadd, 1) := by decide +kernel
theorem dX11_cureOf_150 : decode cX11_cureOf 150 = .ok (.istore 9, 2) := by decide +kernel
theorem dX11_cureOf_152 : decode cX11_cureOf 152 = .ok (.iinc 10 1, 3) := by decide +kernel
theorem dX11_cureOf_155 : decode cX11_cureOf 155 = .ok (.lload 11, 2) := by decide +kernel
theorem dX11_cureOf_157 : decode cX11_cureOf 157 = .ok (.lconst 1, 1) := by decide +kernel
theorem dX11_cureOf_158 : decode cX11_cureOf 158 = .ok (.iload 13, 2) := by decide +kernel
theorem dX11_cureOf_160 : decode cX11_cureOf 160 = .ok (.lshl, 1) := by decide +kernel
theorem dX11_cureOf_161 : decode cX11_cureOf 161 = .ok (.lor, 1) := by decide +kernel
theorem dX11_cureOf_162 : decode cX11_cureOf 162 = .ok (.lstore 11, 2) := by decide +kernel
theorem dX11_cureOf_164 : decode cX11_cureOf 164 = .ok (.iinc 13 1, 3) := by decide +kernel
theorem dX11_cureOf_167 : decode cX11_cureOf 167 = .ok (.goto (-62), 3) := by decide +kernel
theorem dX11_cureOf_170 : decode cX11_cureOf 170 = .ok (.lload_n 3, 1) := by decide +kernel
theorem dX11_cureOf_171 : decode cX11_cureOf 171 = .ok (.ldc2_w 270, 3) := by decide +kernel
theorem dX11_cureOf_174 : decode cX11_cureOf 174 = .ok (.lcmp, 1) := by decide +kernel
theorem dX11_cureOf_175 : decode cX11_cureOf 175 = .ok (.ifCond .eq 38, 3) := by decide +kernel
theorem dX11_cureOf_178 : decode cX11_cureOf 178 = .ok (.iload 9, 2) := by decide +kernel
theorem dX11_cureOf_180 : decode cX11_cureOf 180 = .ok (.iload 5, 2) := by decide +kernel
theorem dX11_cureOf_182 : decode cX11_cureOf 182 = .ok (.if_icmp .lt 31, 3) := by decide +kernel
theorem dX11_cureOf_185 : decode cX11_cureOf 185 = .ok (.iload 9, 2) := by decide +kernel
theorem dX11_cureOf_187 : decode cX11_cureOf 187 = .ok (.iload 5, 2) := by decide +kernel
theorem dX11_cureOf_189 : decode cX11_cureOf 189 = .ok (.if_icmp .ne 35, 3) := by decide +kernel
theorem dX11_cureOf_192 : decode cX11_cureOf 192 = .ok (.iload 10, 2) := by decide +kernel
theorem dX11_cureOf_194 : decode cX11_cureOf 194 = .ok (.iload 6, 2) := by decide +kernel
theorem dX11_cureOf_196 : decode cX11_cureOf 196 = .ok (.if_icmp .lt 17, 3) := by decide +kernel
theorem dX11_cureOf_199 : decode cX11_cureOf 199 = .ok (.iload 10, 2) := by decide +kernel
theorem dX11_cureOf_201 : decode cX11_cureOf 201 = .ok (.iload 6, 2) := by decide +kernel
theorem dX11_cureOf_203 : decode cX11_cureOf 203 = .ok (.if_icmp .ne 21, 3) := by decide +kernel
theorem dX11_cureOf_206 : decode cX11_cureOf 206 = .ok (.lload 11, 2) := by decide +kernel
theorem dX11_cureOf_208 : decode cX11_cureOf 208 = .ok (.lload_n 3, 1) := by decide +kernel
theorem dX11_cureOf_209 : decode cX11_cureOf 209 = .ok (.lcmp, 1) := by decide +kernel
theorem dX11_cureOf_210 : decode cX11_cureOf 210 = .ok (.ifCond .ge 14, 3) := by decide +kernel
theorem dX11_cureOf_213 : decode cX11_cureOf 213 = .ok (.lload 11, 2) := by decide +kernel
theorem dX11_cureOf_215 : decode cX11_cureOf 215 = .ok (.lstore_n 3, 1) := by decide +kernel
theorem dX11_cureOf_216 : decode cX11_cureOf 216 = .ok (.iload 9, 2) := by decide +kernel
theorem dX11_cureOf_218 : decode cX11_cureOf 218 = .ok (.istore 5, 2) := by decide +kernel
theorem dX11_cureOf_220 : decode cX11_cureOf 220 = .ok (.iload 10, 2) := by decide +kernel
theorem dX11_cureOf_222 : decode cX11_cureOf 222 = .ok (.istore 6, 2) := by decide +kernel
theorem dX11_cureOf_224 : decode cX11_cureOf 224 = .ok (.iinc 7 1, 3) := by decide +kernel
theorem dX11_cureOf_227 : decode cX11_cureOf 227 = .ok (.goto (-200), 3) := by decide +kernel
theorem dX11_cureOf_230 : decode cX11_cureOf 230 = .ok (.lload_n 3, 1) := by decide +kernel
theorem dX11_cureOf_231 : decode cX11_cureOf 231 = .ok (.lreturn, 1) := by decide +kernel
theorem dX11_cure_0 : decode cX11_cure 0 = .ok (.iload_n 1, 1) := by decide +kernel
theorem dX11_cure_1 : decode cX11_cure 1 = .ok (.invokestatic 260, 3) := by decide +kernel
theorem dX11_cure_4 : decode cX11_cure 4 = .ok (.ifCond .eq 20, 3) := by decide +kernel
theorem dX11_cure_7 : decode cX11_cure 7 = .ok (.aload_n 0, 1) := by decide +kernel
theorem dX11_cure_8 : decode cX11_cure 8 = .ok (.iload_n 1, 1) := by decide +kernel
theorem dX11_cure_9 : decode cX11_cure 9 = .ok (.sipush 10000, 3) := by decide +kernel
theorem dX11_cure_12 : decode cX11_cure 12 = .ok (.idiv, 1) := by decide +kernel
theorem dX11_cure_13 : decode cX11_cure 13 = .ok (.iload_n 1, 1) := by decide +kernel
theorem dX11_cure_14 : decode cX11_cure 14 = .ok (.sipush 10000, 3) := by decide +kernel
theorem dX11_cure_17 : decode cX11_cure 17 = .ok (.irem, 1) := by decide +kernel
theorem dX11_cure_18 : decode cX11_cure 18 = .ok (.invokevirtual 312, 3) := by decide +kernel
theorem dX11_cure_21 : decode cX11_cure 21 = .ok (.goto 6, 3) := by decide +kernel
theorem dX11_cure_24 : decode cX11_cure 24 = .ok (.ldc2_w 149, 3) := by decide +kernel
theorem dX11_cure_27 : decode cX11_cure 27 = .ok (.lreturn, 1) := by decide +kernel
theorem dX11_heal_0 : decode cX11_heal 0 = .ok (.iload_n 1, 1) := by decide +kernel
theorem dX11_heal_1 : decode cX11_heal 1 = .ok (.invokestatic 260, 3) := by decide +kernel
theorem dX11_heal_4 : decode cX11_heal 4 = .ok (.ifCond .ne 7, 3) := by decide +kernel
theorem dX11_heal_7 : decode cX11_heal 7 = .ok (.ldc2_w 149, 3) := by decide +kernel
theorem dX11_heal_10 : decode cX11_heal 10 = .ok (.lreturn, 1) := by decide +kernel
theorem dX11_heal_11 : decode cX11_heal 11 = .ok (.aload_n 0, 1) := by decide +kernel
theorem dX11_heal_12 : decode cX11_heal 12 = .ok (.iload_n 1, 1) := by decide +kernel
theorem dX11_heal_13 : decode cX11_heal 13 = .ok (.sipush 10000, 3) := by decide +kernel
theorem dX11_heal_16 : decode cX11_heal 16 = .ok (.idiv, 1) := by decide +kernel
theorem dX11_heal_17 : decode cX11_heal 17 = .ok (.iload_n 1, 1) := by decide +kernel
theorem dX11_heal_18 : decode cX11_heal 18 = .ok (.sipush 10000, 3) := by decide +kernel
theorem dX11_heal_21 : decode cX11_heal 21 = .ok (.irem, 1) := by decide +kernel
theorem dX11_heal_22 : decode cX11_heal 22 = .ok (.invokevirtual 312, 3) := by decide +kernel
theorem dX11_heal_25 : decode cX11_heal 25 = .ok (.lstore_n 2, 1) := by decide +kernel
theorem dX11_heal_26 : decode cX11_heal 26 = .ok (.lload_n 2, 1) := by decide +kernel
theorem dX11_heal_27 : decode cX11_heal 27 = .ok (.lconst 0, 1) := by decide +kernel
theorem dX11_heal_28 : decode cX11_heal 28 = .ok (.lcmp, 1) := by decide +kernel
theorem dX11_heal_29 : decode cX11_heal 29 = .ok (.ifCond .ge 5, 3) := by decide +kernel
theorem dX11_heal_32 : decode cX11_heal 32 = .ok (.lload_n 2, 1) := by decide +kernel
theorem dX11_heal_33 : decode cX11_heal 33 = .ok (.lreturn, 1) := by decide +kernel
theorem dX11_heal_34 : decode cX11_heal 34 = .ok (.lconst 0, 1) := by decide +kernel
theorem dX11_heal_35 : decode cX11_heal 35 = .ok (.lstore 4, 2) := by decide +kernel
theorem dX11_heal_37 : decode cX11_heal 37 = .ok (.iconst 0, 1) := by decide +kernel
theorem dX11_heal_38 : decode cX11_heal 38 = .ok (.istore 6, 2) := by decide +kernel
theorem dX11_heal_40 : decode cX11_heal 40 = .ok (.iload 6, 2) := by decide +kernel
theorem dX11_heal_42 : decode cX11_heal 42 = .ok (.aload_n 0, 1) := by decide +kernel
theorem dX11_heal_43 : decode cX11_heal 43 = .ok (.getfield 159, 3) := by decide +kernel
theorem dX11_heal_46 : decode cX11_heal 46 = .ok (.if_icmp .ge 34, 3) := by decide +kernel
theorem dX11_heal_49 : decode cX11_heal 49 = .ok (.lload_n 2, 1) := by decide +kernel
theorem dX11_heal_50 : decode cX11_heal 50 = .ok (.iload 6, 2) := by decide +kernel
theorem dX11_heal_52 : decode cX11_heal 52 = .ok (.lshr, 1) := by decide +kernel
theorem dX11_heal_53 : decode cX11_heal 53 = .ok (.lconst 1, 1) := by decide +kernel
theorem dX11_heal_54 : decode cX11_heal 54 = .ok (.land, 1) := by decide +kernel
theorem dX11_heal_55 : decode cX11_heal 55 = .ok (.lconst 1, 1) := by decide +kernel
theorem dX11_heal_56 : decode cX11_heal 56 = .ok (.lcmp, 1) := by decide +kernel
theorem dX11_heal_57 : decode cX11_heal 57 = .ok (.ifCond .ne 17, 3) := by decide +kernel
theorem dX11_heal_60 : decode cX11_heal 60 = .ok (.aload_n 0, 1) := by decide +kernel
theorem dX11_heal_61 : decode cX11_heal 61 = .ok (.getfield 43, 3) := by decide +kernel
theorem dX11_heal_64 : decode cX11_heal 64 = .ok (.iload 6, 2) := by decide +kernel
theorem dX11_heal_66 : decode cX11_heal 66 = .ok (.iconst 1, 1) := by decide +kernel
theorem dX11_heal_67 : decode cX11_heal 67 = .ok (.bastore, 1) := by decide +kernel
theorem dX11_heal_68 : decode cX11_heal 68 = .ok (.lload 4, 2) := by decide +kernel
theorem dX11_heal_70 : decode cX11_heal 70 = .ok (.lconst 1, 1) := by decide +kernel
theorem dX11_heal_71 : decode cX11_heal 71 = .ok (.ladd, 1) := by decide +kernel
theorem dX11_heal_72 : decode cX11_heal 72 = .ok (.lstore 4, 2) := by decide +kernel
theorem dX11_heal_74 : decode cX11_heal 74 = .ok (.iinc 6 1, 3) := by decide +kernel
theorem dX11_heal_77 : decode cX11_heal 77 = .ok (.goto (-37), 3) := by decide +kernel
theorem dX11_heal_80 : decode cX11_heal 80 = .ok (.lload 4, 2) := by decide +kernel
theorem dX11_heal_82 : decode cX11_heal 82 = .ok (.lreturn, 1) := by decide +kernel
theorem dX11_isCustom_0 : decode cX11_isCustom 0 = .ok (.iload_n 0, 1) := by decide +kernel
theorem dX11_isCustom_1 : decode cX11_isCustom 1 = .ok (.i2l, 1) := by decide +kernel
theorem dX11_isCustom_2 : decode cX11_isCustom 2 = .ok (.lconst 0, 1) := by decide +kernel
theorem dX11_isCustom_3 : decode cX11_isCustom 3 = .ok (.ldc2_w 315, 3) := by decide +kernel
theorem dX11_isCustom_6 : decode cX11_isCustom 6 = .ok (.invokestatic 145, 3) := by decide +kernel
theorem dX11_isCustom_9 : decode cX11_isCustom 9 = .ok (.ireturn, 1) := by decide +kernel
theorem dX11_custom_0 : decode cX11_custom 0 = .ok (.iload_n 1, 1) := by decide +kernel
theorem dX11_custom_1 : decode cX11_custom 1 = .ok (.invokestatic 317, 3) := by decide +kernel
theorem dX11_custom_4 : decode cX11_custom 4 = .ok (.ifCond .eq 8, 3) := by decide +kernel
theorem dX11_custom_7 : decode cX11_custom 7 = .ok (.iload_n 2, 1) := by decide +kernel
theorem dX11_custom_8 : decode cX11_custom 8 = .ok (.iconst 5, 1) := by decide +kernel
theorem dX11_custom_9 : decode cX11_custom 9 = .ok (.if_icmp .le 7, 3) := by decide +kernel
theorem dX11_custom_12 : decode cX11_custom 12 = .ok (.ldc2_w 149, 3) := by decide +kernel
theorem dX11_custom_15 : decode cX11_custom 15 = .ok (.lreturn, 1) := by decide +kernel
theorem dX11_custom_16 : decode cX11_custom 16 = .ok (.iload_n 2, 1) := by decide +kernel
theorem dX11_custom_17 : decode cX11_custom 17 = .ok (.ifCond .ge 7, 3) := by decide +kernel
theorem dX11_custom_20 : decode cX11_custom 20 = .ok (.ldc2_w 320, 3) := by decide +kernel
theorem dX11_custom_23 : decode cX11_custom 23 = .ok (.lreturn, 1) := by decide +kernel
theorem dX11_custom_24 : decode cX11_custom 24 = .ok (.aload_n 0, 1) := by decide +kernel
theorem dX11_custom_25 : decode cX11_custom 25 = .ok (.getfield 47, 3) := by decide +kernel
theorem dX11_custom_28 : decode cX11_custom 28 = .ok (.iload_n 1, 1) := by decide +kernel
theorem dX11_custom_29 : decode cX11_custom 29 = .ok (.iload_n 2, 1) := by decide +kernel
theorem dX11_custom_30 : decode cX11_custom 30 = .ok (.iastore, 1) := by decide +kernel
theorem dX11_custom_31 : decode cX11_custom 31 = .ok (.iconst 0, 1) := by decide +kernel
theorem dX11_custom_32 : decode cX11_custom 32 = .ok (.istore_n 3, 1) := by decide +kernel
theorem dX11_custom_33 : decode cX11_custom 33 = .ok (.iload_n 3, 1) := by decide +kernel
theorem dX11_custom_34 : decode cX11_custom 34 = .ok (.iconst 5, 1) := by decide +kernel
theorem dX11_custom_35 : decode cX11_custom 35 = .ok (.if_icmp .ge 20, 3) := by decide +kernel
theorem dX11_custom_38 : decode cX11_custom 38 = .ok (.aload_n 0, 1) := by decide +kernel
theorem dX11_custom_39 : decode cX11_custom 39 = .ok (.getfield 50, 3) := by decide +kernel
theorem dX11_custom_42 : decode cX11_custom 42 = .ok (.iconst 5, 1) := by decide +kernel
theorem dX11_custom_43 : decode cX11_custom 43 = .ok (.iload_n 1, 1) := by decide +kernel
theorem dX11_custom_44 : decode cX11_custom 44 = .ok (.imul, 1) := by decide +kernel
theorem dX11_custom_45 : decode cX11_custom 45 = .ok (.iload_n 3, 1) := by decide +kernel
theorem dX11_custom_46 : decode cX11_custom 46 = .ok (.iadd, 1) := by decide +kernel
theorem dX11_custom_47 : decode cX11_custom 47 = .ok (.iconst 2, 1) := by decide +kernel
theorem dX11_custom_48 : decode cX11_custom 48 = .ok (.iastore, 1) := by decide +kernel
theorem dX11_custom_49 : decode cX11_custom 49 = .ok (.iinc 3 1, 3) := by decide +kernel
theorem dX11_custom_52 : decode cX11_custom 52 = .ok (.goto (-19), 3) := by decide +kernel
theorem dX11_custom_55 : decode cX11_custom 55 = .ok (.iload_n 2, 1) := by decide +kernel
theorem dX11_custom_56 : decode cX11_custom 56 = .ok (.i2l, 1) := by decide +kernel
theorem dX11_custom_57 : decode cX11_custom 57 = .ok (.lreturn, 1) := by decide +kernel
theorem dX11_step_0 : decode cX11_step 0 = .ok (.iload_n 1, 1) := by decide +kernel
theorem dX11_step_1 : decode cX11_step 1 = .ok (.invokestatic 317, 3) := by decide +kernel
theorem dX11_step_4 : decode cX11_step 4 = .ok (.ifCond .ne 7, 3) := by decide +kernel
theorem dX11_step_7 : decode cX11_step 7 = .ok (.ldc2_w 149, 3) := by decide +kernel
theorem dX11_step_10 : decode cX11_step 10 = .ok (.lreturn, 1) := by decide +kernel
theorem dX11_step_11 : decode cX11_step 11 = .ok (.aload_n 0, 1) := by decide +kernel
theorem dX11_step_12 : decode cX11_step 12 = .ok (.getfield 47, 3) := by decide +kernel
theorem dX11_step_15 : decode cX11_step 15 = .ok (.iload_n 1, 1) := by decide +kernel
theorem dX11_step_16 : decode cX11_step 16 = .ok (.iaload, 1) := by decide +kernel
theorem dX11_step_17 : decode cX11_step 17 = .ok (.ifCond .ge 7, 3) := by decide +kernel
theorem dX11_step_20 : decode cX11_step 20 = .ok (.ldc2_w 322, 3) := by decide +kernel
theorem dX11_step_23 : decode cX11_step 23 = .ok (.lreturn, 1) := by decide +kernel
theorem dX11_step_24 : decode cX11_step 24 = .ok (.iload_n 2, 1) := by decide +kernel
theorem dX11_step_25 : decode cX11_step 25 = .ok (.i2l, 1) := by decide +kernel
theorem dX11_step_26 : decode cX11_step 26 = .ok (.lconst 0, 1) := by decide +kernel
theorem dX11_step_27 : decode cX11_step 27 = .ok (.aload_n 0, 1) := by decide +kernel
theorem dX11_step_28 : decode cX11_step 28 = .ok (.getfield 47, 3) := by decide +kernel
theorem dX11_step_31 : decode cX11_step 31 = .ok (.iload_n 1, 1) := by decide +kernel
theorem dX11_step_32 : decode cX11_step 32 = .ok (.iaload, 1) := by decide +kernel
theorem dX11_step_33 : decode cX11_step 33 = .ok (.iconst 1, 1) := by decide +kernel
theorem dX11_step_34 : decode cX11_step 34 = .ok (.isub, 1) := by decide +kernel
theorem dX11_step_35 : decode cX11_step 35 = .ok (.i2l, 1) := by decide +kernel
theorem dX11_step_36 : decode cX11_step 36 = .ok (.invokestatic 145, 3) := by decide +kernel
theorem dX11_step_39 : decode cX11_step 39 = .ok (.ifCond .ne 7, 3) := by decide +kernel
theorem dX11_step_42 : decode cX11_step 42 = .ok (.ldc2_w 324, 3) := by decide +kernel
theorem dX11_step_45 : decode cX11_step 45 = .ok (.lreturn, 1) := by decide +kernel
theorem dX11_step_46 : decode cX11_step 46 = .ok (.iload_n 3, 1) := by decide +kernel
theorem dX11_step_47 : decode cX11_step 47 = .ok (.i2l, 1) := by decide +kernel
theorem dX11_step_48 : decode cX11_step 48 = .ok (.ldc2_w 189, 3) := by decide +kernel
theorem dX11_step_51 : decode cX11_step 51 = .ok (.ldc2_w 124, 3) := by decide +kernel
theorem dX11_step_54 : decode cX11_step 54 = .ok (.invokestatic 145, 3) := by decide +kernel
theorem dX11_step_57 : decode cX11_step 57 = .ok (.ifCond .ne 7, 3) := by decide +kernel
theorem dX11_step_60 : decode cX11_step 60 = .ok (.ldc2_w 149, 3) := by decide +kernel
theorem dX11_step_63 : decode cX11_step 63 = .ok (.lreturn, 1) := by decide +kernel
theorem dX11_step_64 : decode cX11_step 64 = .ok (.aload_n 0, 1) := by decide +kernel
theorem dX11_step_65 : decode cX11_step 65 = .ok (.getfield 50, 3) := by decide +kernel
theorem dX11_step_68 : decode cX11_step 68 = .ok (.iconst 5, 1) := by decide +kernel
theorem dX11_step_69 : decode cX11_step 69 = .ok (.iload_n 1, 1) := by decide +kernel
theorem dX11_step_70 : decode cX11_step 70 = .ok (.imul, 1) := by decide +kernel
theorem dX11_step_71 : decode cX11_step 71 = .ok (.iload_n 2, 1) := by decide +kernel
theorem dX11_step_72 : decode cX11_step 72 = .ok (.iadd, 1) := by decide +kernel
theorem dX11_step_73 : decode cX11_step 73 = .ok (.iaload, 1) := by decide +kernel
theorem dX11_step_74 : decode cX11_step 74 = .ok (.i2l, 1) := by decide +kernel
theorem dX11_step_75 : decode cX11_step 75 = .ok (.lstore 4, 2) := by decide +kernel
theorem dX11_step_77 : decode cX11_step 77 = .ok (.aload_n 0, 1) := by decide +kernel
theorem dX11_step_78 : decode cX11_step 78 = .ok (.getfield 50, 3) := by decide +kernel
theorem dX11_step_81 : decode cX11_step 81 = .ok (.iconst 5, 1) := by decide +kernel
theorem dX11_step_82 : decode cX11_step 82 = .ok (.iload_n 1, 1) := by decide +kernel
theorem dX11_step_83 : decode cX11_step 83 = .ok (.imul, 1) := by decide +kernel
theorem dX11_step_84 : decode cX11_step 84 = .ok (.iload_n 2, 1) := by decide +kernel
theorem dX11_step_85 : decode cX11_step 85 = .ok (.iadd, 1) := by decide +kernel
theorem dX11_step_86 : decode cX11_step 86 = .ok (.iload_n 3, 1) := by decide +kernel
theorem dX11_step_87 : decode cX11_step 87 = .ok (.iastore, 1) := by decide +kernel
theorem dX11_step_88 : decode cX11_step 88 = .ok (.lload 4, 2) := by decide +kernel
theorem dX11_step_90 : decode cX11_step 90 = .ok (.lreturn, 1) := by decide +kernel
theorem dX11_copy_0 : decode cX11_copy 0 = .ok (.iload_n 1, 1) := by decide +kernel
theorem dX11_copy_1 : decode cX11_copy 1 = .ok (.invokestatic 317, 3) := by decide +kernel
theorem dX11_copy_4 : decode cX11_copy 4 = .ok (.ifCond .eq 10, 3) := by decide +kernel
theorem dX11_copy_7 : decode cX11_copy 7 = .ok (.iload_n 2, 1) := by decide +kernel
theorem dX11_copy_8 : decode cX11_copy 8 = .ok (.invokestatic 317, 3) := by decide +kernel
theorem dX11_copy_11 : decode cX11_copy 11 = .ok (.ifCond .ne 7, 3) := by decide +kernel
theorem dX11_copy_14 : decode cX11_copy 14 = .ok (.ldc2_w 149, 3) := by decide +kernel
theorem dX11_copy_17 : decode cX11_copy 17 = .ok (.lreturn, 1) := by decide +kernel
theorem dX11_copy_18 : decode cX11_copy 18 = .ok (.aload_n 0, 1) := by decide +kernel
theorem dX11_copy_19 : decode cX11_copy 19 = .ok (.getfield 47, 3) := by decide +kernel
theorem dX11_copy_22 : decode cX11_copy 22 = .ok (.iload_n 1, 1) := by decide +kernel
theorem dX11_copy_23 : decode cX11_copy 23 = .ok (.iaload, 1) := by decide +kernel
theorem dX11_copy_24 : decode cX11_copy 24 = .ok (.ifCond .lt 12, 3) := by decide +kernel
theorem dX11_copy_27 : decode cX11_copy 27 = .ok (.aload_n 0, 1) := by decide +kernel
theorem dX11_copy_28 : decode cX11_copy 28 = .ok (.getfield 47, 3) := by decide +kernel
theorem dX11_copy_31 : decode cX11_copy 31 = .ok (.iload_n 2, 1) := by decide +kernel
theorem dX11_copy_32 : decode cX11_copy 32 = .ok (.iaload, 1) := by decide +kernel
theorem dX11_copy_33 : decode cX11_copy 33 = .ok (.ifCond .ge 7, 3) := by decide +kernel
theorem dX11_copy_36 : decode cX11_copy 36 = .ok (.ldc2_w 322, 3) := by decide +kernel
theorem dX11_copy_39 : decode cX11_copy 39 = .ok (.lreturn, 1) := by decide +kernel
theorem dX11_copy_40 : decode cX11_copy 40 = .ok (.iload_n 3, 1) := by decide +kernel
theorem dX11_copy_41 : decode cX11_copy 41 = .ok (.ifCond .lt 23, 3) := by decide +kernel
theorem dX11_copy_44 : decode cX11_copy 44 = .ok (.iload_n 3, 1) := by decide +kernel
theorem dX11_copy_45 : decode cX11_copy 45 = .ok (.aload_n 0, 1) := by decide +kernel
theorem dX11_copy_46 : decode cX11_copy 46 = .ok (.getfield 47, 3) := by decide +kernel
theorem dX11_copy_49 : decode cX11_copy 49 = .ok (.iload_n 1, 1) := by decide +kernel
theorem dX11_copy_50 : decode cX11_copy 50 = .ok (.iaload, 1) := by decide +kernel
theorem dX11_copy_51 : decode cX11_copy 51 = .ok (.if_icmp .gt 13, 3) := by decide +kernel
theorem dX11_copy_54 : decode cX11_copy 54 = .ok (.iload_n 3, 1) := by decide +kernel
theorem dX11_copy_55 : decode cX11_copy 55 = .ok (.aload_n 0, 1) := by decide +kernel
theorem dX11_copy_56 : decode cX11_copy 56 = .ok (.getfield 47, 3) := by decide +kernel
theorem dX11_copy_59 : decode cX11_copy 59 = .ok (.iload_n 2, 1) := by decide +kernel
theorem dX11_copy_60 : decode cX11_copy 60 = .ok (.iaload, 1) := by decide +kernel
theorem dX11_copy_61 : decode cX11_copy 61 = .ok (.if_icmp .le 7, 3) := by decide +kernel
theorem dX11_copy_64 : decode cX11_copy 64 = .ok (.ldc2_w 324, 3) := by decide +kernel
theorem dX11_copy_67 : decode cX11_copy 67 = .ok (.lreturn, 1) := by decide +kernel
theorem dX11_copy_68 : decode cX11_copy 68 = .ok (.iconst 0, 1) := by decide +kernel
theorem dX11_copy_69 : decode cX11_copy 69 = .ok (.istore 4, 2) := by decide +kernel
theorem dX11_copy_71 : decode cX11_copy 71 = .ok (.iload 4, 2) := by decide +kernel
theorem dX11_copy_73 : decode cX11_copy 73 = .ok (.iload_n 3, 1) := by decide +kernel
theorem dX11_copy_74 : decode cX11_copy 74 = .ok (.if_icmp .ge 31, 3) := by decide +kernel
theorem dX11_copy_77 : decode cX11_copy 77 = .ok (.aload_n 0, 1) := by decide +kernel
theorem dX11_copy_78 : decode cX11_copy 78 = .ok (.getfield 50, 3) := by decide +kernel
theorem dX11_copy_81 : decode cX11_copy 81 = .ok (.iconst 5, 1) := by decide +kernel
theorem dX11_copy_82 : decode cX11_copy 82 = .ok (.iload_n 2, 1) := by decide +kernel
theorem dX11_copy_83 : decode cX11_copy 83 = .ok (.imul, 1) := by decide +kernel
theorem dX11_copy_84 : decode cX11_copy 84 = .ok (.iload 4, 2) := by decide +kernel
theorem dX11_copy_86 : decode cX11_copy 86 = .ok (.iadd, 1) := by decide +kernel
theorem dX11_copy_87 : decode cX11_copy 87 = .ok (.aload_n 0, 1) := by decide +kernel
theorem dX11_copy_88 : decode cX11_copy 88 = .ok (.getfield 50, 3) := by decide +kernel
theorem dX11_copy_91 : decode cX11_copy 91 = .ok (.iconst 5, 1) := by decide +kernel
theorem dX11_copy_92 : decode cX11_copy 92 = .ok (.iload_n 1, 1) := by decide +kernel
theorem dX11_copy_93 : decode cX11_copy 93 = .ok (.imul, 1) := by decide +kernel
theorem dX11_copy_94 : decode cX11_copy 94 = .ok (.iload 4, 2) := by decide +kernel
theorem dX11_copy_96 : decode cX11_copy 96 = .ok (.iadd, 1) := by decide +kernel
theorem dX11_copy_97 : decode cX11_copy 97 = .ok (.iaload, 1) := by decide +kernel
theorem dX11_copy_98 : decode cX11_copy 98 = .ok (.iastore, 1) := by decide +kernel
theorem dX11_copy_99 : decode cX11_copy 99 = .ok (.iinc 4 1, 3) := by decide +kernel
theorem dX11_copy_102 : decode cX11_copy 102 = .ok (.goto (-31), 3) := by decide +kernel
theorem dX11_copy_105 : decode cX11_copy 105 = .ok (.iload_n 3, 1) := by decide +kernel
theorem dX11_copy_106 : decode cX11_copy 106 = .ok (.i2l, 1) := by decide +kernel
theorem dX11_copy_107 : decode cX11_copy 107 = .ok (.lreturn, 1) := by decide +kernel
theorem dX11_part_0 : decode cX11_part 0 = .ok (.iload_n 1, 1) := by decide +kernel
theorem dX11_part_1 : decode cX11_part 1 = .ok (.invokestatic 317, 3) := by decide +kernel
theorem dX11_part_4 : decode cX11_part 4 = .ok (.ifCond .eq 16, 3) := by decide +kernel
theorem dX11_part_7 : decode cX11_part 7 = .ok (.lload_n 2, 1) := by decide +kernel
theorem dX11_part_8 : decode cX11_part 8 = .ok (.ldc2_w 326, 3) := by decide +kernel
theorem dX11_part_11 : decode cX11_part 11 = .ok (.ldc2_w 116, 3) := by decide +kernel
theorem dX11_part_14 : decode cX11_part 14 = .ok (.invokestatic 145, 3) := by decide +kernel
theorem dX11_part_17 : decode cX11_part 17 = .ok (.ifCond .ne 7, 3) := by decide +kernel
theorem dX11_part_20 : decode cX11_part 20 = .ok (.ldc2_w 149, 3) := by decide +kernel
theorem dX11_part_23 : decode cX11_part 23 = .ok (.lreturn, 1) := by decide +kernel
theorem dX11_part_24 : decode cX11_part 24 = .ok (.aload_n 0, 1) := by decide +kernel
theorem dX11_part_25 : decode cX11_part 25 = .ok (.getfield 47, 3) := by decide +kernel
theorem dX11_part_28 : decode cX11_part 28 = .ok (.iload_n 1, 1) := by decide +kernel
theorem dX11_part_29 : decode cX11_part 29 = .ok (.iaload, 1) := by decide +kernel
theorem dX11_part_30 : decode cX11_part 30 = .ok (.ifCond .ge 7, 3) := by decide +kernel
theorem dX11_part_33 : decode cX11_part 33 = .ok (.ldc2_w 322, 3) := by decide +kernel
theorem dX11_part_36 : decode cX11_part 36 = .ok (.lreturn, 1) := by decide +kernel
theorem dX11_part_37 : decode cX11_part 37 = .ok (.iload 4, 2) := by decide +kernel
theorem dX11_part_39 : decode cX11_part 39 = .ok (.i2l, 1) := by decide +kernel
theorem dX11_part_40 : decode cX11_part 40 = .ok (.lconst 0, 1) := by decide +kernel
theorem dX11_part_41 : decode cX11_part 41 = .ok (.aload_n 0, 1) := by decide +kernel
theorem dX11_part_42 : decode cX11_part 42 = .ok (.getfield 47, 3) := by decide +kernel
theorem dX11_part_45 : decode cX11_part 45 = .ok (.iload_n 1, 1) := by decide +kernel
theorem dX11_part_46 : decode cX11_part 46 = .ok (.iaload, 1) := by decide +kernel
theorem dX11_part_47 : decode cX11_part 47 = .ok (.i2l, 1) := by decide +kernel
theorem dX11_part_48 : decode cX11_part 48 = .ok (.invokestatic 145, 3) := by decide +kernel
theorem dX11_part_51 : decode cX11_part 51 = .ok (.ifCond .ne 7, 3) := by decide +kernel
theorem dX11_part_54 : decode cX11_part 54 = .ok (.ldc2_w 324, 3) := by decide +kernel
theorem dX11_part_57 : decode cX11_part 57 = .ok (.lreturn, 1) := by decide +kernel
theorem dX11_part_58 : decode cX11_part 58 = .ok (.lload_n 2, 1) := by decide +kernel
theorem dX11_part_59 : decode cX11_part 59 = .ok (.lconst 0, 1) := by decide +kernel
theorem dX11_part_60 : decode cX11_part 60 = .ok (.lcmp, 1) := by decide +kernel
theorem dX11_part_61 : decode cX11_part 61 = .ok (.ifCond .ge 8, 3) := by decide +kernel
theorem dX11_part_64 : decode cX11_part 64 = .ok (.lload_n 2, 1) := by decide +kernel
theorem dX11_part_65 : decode cX11_part 65 = .ok (.lneg, 1) := by decide +kernel
theorem dX11_part_66 : decode cX11_part 66 = .ok (.goto 4, 3) := by decide +kernel
theorem dX11_part_69 : decode cX11_part 69 = .ok (.lload_n 2, 1) := by decide +kernel
theorem dX11_part_70 : decode cX11_part 70 = .ok (.lstore 5, 2) := by decide +kernel
theorem dX11_part_72 : decode cX11_part 72 = .ok (.aload_n 0, 1) := by decide +kernel
theorem dX11_part_73 : decode cX11_part 73 = .ok (.getfield 47, 3) := by decide +kernel
theorem dX11_part_76 : decode cX11_part 76 = .ok (.iload_n 1, 1) := by decide +kernel
theorem dX11_part_77 : decode cX11_part 77 = .ok (.iaload, 1) := by decide +kernel
theorem dX11_part_78 : decode cX11_part 78 = .ok (.istore 7, 2) := by decide +kernel
theorem dX11_part_80 : decode cX11_part 80 = .ok (.iload 7, 2) := by decide +kernel
theorem dX11_part_82 : decode cX11_part 82 = .ok (.iload 4, 2) := by decide +kernel
theorem dX11_part_84 : decode cX11_part 84 = .ok (.if_icmp .le 28, 3) := by decide +kernel
theorem dX11_part_87 : decode cX11_part 87 = .ok (.lload 5, 2) := by decide +kernel
theorem dX11_part_89 : decode cX11_part 89 = .ok (.aload_n 0, 1) := by decide +kernel
theorem dX11_part_90 : decode cX11_part 90 = .ok (.getfield 50, 3) := by decide +kernel
theorem dX11_part_93 : decode cX11_part 93 = .ok (.iconst 5, 1) := by decide +kernel
theorem dX11_part_94 : decode cX11_part 94 = .ok (.iload_n 1, 1) := by decide +kernel
theorem dX11_part_95 : decode cX11_part 95 = .ok (.imul, 1) := by decide +kernel
theorem dX11_part_96 : decode cX11_part 96 = .ok (.iload 7, 2) := by decide +kernel
theorem dX11_part_98 : decode cX11_part 98 = .ok (.iadd, 1) := by decide +kernel
theorem dX11_part_99 : decode cX11_part 99 = .ok (.iconst 1, 1) := by decide +kernel
theorem dX11_part_100 : decode cX11_part 100 = .ok (.isub, 1) := by decide +kernel
theorem dX11_part_101 : decode cX11_part 101 = .ok (.iaload, 1) := by decide +kernel
theorem dX11_part_102 : decode cX11_part 102 = .ok (.i2l, 1) := by decide +kernel
theorem dX11_part_103 : decode cX11_part 103 = .ok (.ldiv, 1) := by decide +kernel
theorem dX11_part_104 : decode cX11_part 104 = .ok (.lstore 5, 2) := by decide +kernel
theorem dX11_part_106 : decode cX11_part 106 = .ok (.iinc 7 (-1), 3) := by decide +kernel
theorem dX11_part_109 : decode cX11_part 109 = .ok (.goto (-29), 3) := by decide +kernel
theorem dX11_part_112 : decode cX11_part 112 = .ok (.iload 4, 2) := by decide +kernel
theorem dX11_part_114 : decode cX11_part 114 = .ok (.ifCond .le 23, 3) := by decide +kernel
theorem dX11_part_117 : decode cX11_part 117 = .ok (.lload 5, 2) := by decide +kernel
theorem dX11_part_119 : decode cX11_part 119 = .ok (.aload_n 0, 1) := by decide +kernel
theorem dX11_part_120 : decode cX11_part 120 = .ok (.getfield 50, 3) := by decide +kernel
theorem dX11_part_123 : decode cX11_part 123 = .ok (.iconst 5, 1) := by decide +kernel
theorem dX11_part_124 : decode cX11_part 124 = .ok (.iload_n 1, 1) := by decide +kernel
theorem dX11_part_125 : decode cX11_part 125 = .ok (.imul, 1) := by decide +kernel
theorem dX11_part_126 : decode cX11_part 126 = .ok (.iload 4, 2) := by decide +kernel
theorem dX11_part_128 : decode cX11_part 128 = .ok (.iadd, 1) := by decide +kernel
theorem dX11_part_129 : decode cX11_part 129 = .ok (.iconst 1, 1) := by decide +kernel
theorem dX11_part_130 : decode cX11_part 130 = .ok (.isub, 1) := by decide +kernel
theorem dX11_part_131 : decode cX11_part 131 = .ok (.iaload, 1) := by decide +kernel
theorem dX11_part_132 : decode cX11_part 132 = .ok (.i2l, 1) := by decide +kernel
theorem dX11_part_133 : decode cX11_part 133 = .ok (.lrem, 1) := by decide +kernel
theorem dX11_part_134 : decode cX11_part 134 = .ok (.goto 5, 3) := by decide +kernel
theorem dX11_part_137 : decode cX11_part 137 = .ok (.lload 5, 2) := by decide +kernel
theorem dX11_part_139 : decode cX11_part 139 = .ok (.lstore 7, 2) := by decide +kernel
theorem dX11_part_141 : decode cX11_part 141 = .ok (.lload_n 2, 1) := by decide +kernel
theorem dX11_part_142 : decode cX11_part 142 = .ok (.lconst 0, 1) := by decide +kernel
theorem dX11_part_143 : decode cX11_part 143 = .ok (.lcmp, 1) := by decide +kernel
theorem dX11_part_144 : decode cX11_part 144 = .ok (.ifCond .ge 9, 3) := by decide +kernel
theorem dX11_part_147 : decode cX11_part 147 = .ok (.lload 7, 2) := by decide +kernel
theorem dX11_part_149 : decode cX11_part 149 = .ok (.lneg, 1) := by decide +kernel
theorem dX11_part_150 : decode cX11_part 150 = .ok (.goto 5, 3) := by decide +kernel
theorem dX11_part_153 : decode cX11_part 153 = .ok (.lload 7, 2) := by decide +kernel
theorem dX11_part_155 : decode cX11_part 155 = .ok (.lreturn, 1) := by decide +kernel
theorem dX11_whole_0 : decode cX11_whole 0 = .ok (.iload_n 1, 1) := by decide +kernel
theorem dX11_whole_1 : decode cX11_whole 1 = .ok (.invokestatic 317, 3) := by decide +kernel
theorem dX11_whole_4 : decode cX11_whole 4 = .ok (.ifCond .eq 17, 3) := by decide +kernel
theorem dX11_whole_7 : decode cX11_whole 7 = .ok (.lload_n 2, 1) := by decide +kernel
theorem dX11_whole_8 : decode cX11_whole 8 = .ok (.lconst 0, 1) := by decide +kernel
theorem dX11_whole_9 : decode cX11_whole 9 = .ok (.lcmp, 1) := by decide +kernel
theorem dX11_whole_10 : decode cX11_whole 10 = .ok (.ifCond .lt 11, 3) := by decide +kernel
theorem dX11_whole_13 : decode cX11_whole 13 = .ok (.lload_n 2, 1) := by decide +kernel
theorem dX11_whole_14 : decode cX11_whole 14 = .ok (.ldc2_w 328, 3) := by decide +kernel
theorem dX11_whole_17 : decode cX11_whole 17 = .ok (.lcmp, 1) := by decide +kernel
theorem dX11_whole_18 : decode cX11_whole 18 = .ok (.ifCond .lt 7, 3) := by decide +kernel
theorem dX11_whole_21 : decode cX11_whole 21 = .ok (.ldc2_w 149, 3) := by decide +kernel
theorem dX11_whole_24 : decode cX11_whole 24 = .ok (.lreturn, 1) := by decide +kernel
theorem dX11_whole_25 : decode cX11_whole 25 = .ok (.aload_n 0, 1) := by decide +kernel
theorem dX11_whole_26 : decode cX11_whole 26 = .ok (.getfield 47, 3) := by decide +kernel
theorem dX11_whole_29 : decode cX11_whole 29 = .ok (.iload_n 1, 1) := by decide +kernel
theorem dX11_whole_30 : decode cX11_whole 30 = .ok (.iaload, 1) := by decide +kernel
theorem dX11_whole_31 : decode cX11_whole 31 = .ok (.ifCond .ge 7, 3) := by decide +kernel
theorem dX11_whole_34 : decode cX11_whole 34 = .ok (.ldc2_w 322, 3) := by decide +kernel
theorem dX11_whole_37 : decode cX11_whole 37 = .ok (.lreturn, 1) := by decide +kernel
theorem dX11_whole_38 : decode cX11_whole 38 = .ok (.lload_n 2, 1) := by decide +kernel
theorem dX11_whole_39 : decode cX11_whole 39 = .ok (.lstore 4, 2) := by decide +kernel
theorem dX11_whole_41 : decode cX11_whole 41 = .ok (.lconst 1, 1) := by decide +kernel
theorem dX11_whole_42 : decode cX11_whole 42 = .ok (.lstore 6, 2) := by decide +kernel
theorem dX11_whole_44 : decode cX11_whole 44 = .ok (.lconst 0, 1) := by decide +kernel
theorem dX11_whole_45 : decode cX11_whole 45 = .ok (.lstore 8, 2) := by decide +kernel
theorem dX11_whole_47 : decode cX11_whole 47 = .ok (.aload_n 0, 1) := by decide +kernel
theorem dX11_whole_48 : decode cX11_whole 48 = .ok (.getfield 47, 3) := by decide +kernel
theorem dX11_whole_51 : decode cX11_whole 51 = .ok (.iload_n 1, 1) := by decide +kernel
theorem dX11_whole_52 : decode cX11_whole 52 = .ok (.iaload, 1) := by decide +kernel
theorem dX11_whole_53 : decode cX11_whole 53 = .ok (.istore 10, 2) := by decide +kernel
theorem dX11_whole_55 : decode cX11_whole 55 = .ok (.iload 10, 2) := by decide +kernel
theorem dX11_whole_57 : decode cX11_whole 57 = .ok (.ifCond .lt 59, 3) := by decide +kernel
theorem dX11_whole_60 : decode cX11_whole 60 = .ok (.lload 8, 2) := by decide +kernel
theorem dX11_whole_62 : decode cX11_whole 62 = .ok (.lload 4, 2) := by decide +kernel
theorem dX11_whole_64 : decode cX11_whole 64 = .ok (.ldc2_w 124, 3) := by decide +kernel
theorem dX11_whole_67 : decode cX11_whole 67 = .ok (.lrem, 1) := by decide +kernel
theorem dX11_whole_68 : decode cX11_whole 68 = .ok (.lload 6, 2) := by decide +kernel
theorem dX11_whole_70 : decode cX11_whole 70 = .ok (.lmul, 1) := by decide +kernel
theorem dX11_whole_71 : decode cX11_whole 71 = .ok (.ladd, 1) := by decide +kernel
theorem dX11_whole_72 : decode cX11_whole 72 = .ok (.lstore 8, 2) := by decide +kernel
theorem dX11_whole_74 : decode cX11_whole 74 = .ok (.lload 4, 2) := by decide +kernel
theorem dX11_whole_76 : decode cX11_whole 76 = .ok (.ldc2_w 124, 3) := by decide +kernel
theorem dX11_whole_79 : decode cX11_whole 79 = .ok (.ldiv, 1) := by decide +kernel
theorem dX11_whole_80 : decode cX11_whole 80 = .ok (.lstore 4, 2) := by decide +kernel
theorem dX11_whole_82 : decode cX11_whole 82 = .ok (.lload 6, 2) := by decide +kernel
theorem dX11_whole_84 : decode cX11_whole 84 = .ok (.iload 10, 2) := by decide +kernel
theorem dX11_whole_86 : decode cX11_whole 86 = .ok (.ifCond .le 20, 3) := by decide +kernel
theorem dX11_whole_89 : decode cX11_whole 89 = .ok (.aload_n 0, 1) := by decide +kernel
theorem dX11_whole_90 : decode cX11_whole 90 = .ok (.getfield 50, 3) := by decide +kernel
theorem dX11_whole_93 : decode cX11_whole 93 = .ok (.iconst 5, 1) := by decide +kernel
theorem dX11_whole_94 : decode cX11_whole 94 = .ok (.iload_n 1, 1) := by decide +kernel
theorem dX11_whole_95 : decode cX11_whole 95 = .ok (.imul, 1) := by decide +kernel
theorem dX11_whole_96 : decode cX11_whole 96 = .ok (.iload 10, 2) := by decide +kernel
theorem dX11_whole_98 : decode cX11_whole 98 = .ok (.iadd, 1) := by decide +kernel
theorem dX11_whole_99 : decode cX11_whole 99 = .ok (.iconst 1, 1) := by decide +kernel
theorem dX11_whole_100 : decode cX11_whole 100 = .ok (.isub, 1) := by decide +kernel
theorem dX11_whole_101 : decode cX11_whole 101 = .ok (.iaload, 1) := by decide +kernel
theorem dX11_whole_102 : decode cX11_whole 102 = .ok (.i2l, 1) := by decide +kernel
theorem dX11_whole_103 : decode cX11_whole 103 = .ok (.goto 4, 3) := by decide +kernel
theorem dX11_whole_106 : decode cX11_whole 106 = .ok (.lconst 1, 1) := by decide +kernel
theorem dX11_whole_107 : decode cX11_whole 107 = .ok (.lmul, 1) := by decide +kernel
theorem dX11_whole_108 : decode cX11_whole 108 = .ok (.lstore 6, 2) := by decide +kernel
theorem dX11_whole_110 : decode cX11_whole 110 = .ok (.iinc 10 (-1), 3) := by decide +kernel
theorem dX11_whole_113 : decode cX11_whole 113 = .ok (.goto (-58), 3) := by decide +kernel
