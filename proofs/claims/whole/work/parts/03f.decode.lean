theorem dX6_shouted_48 : decode cX6_shouted 48 = .ok (.iload_n 2, 1) := by decide +kernel
theorem dX6_shouted_49 : decode cX6_shouted 49 = .ok (.ireturn, 1) := by decide +kernel
theorem dX6_calls_0 : decode cX6_calls 0 = .ok (.iload_n 1, 1) := by decide +kernel
theorem dX6_calls_1 : decode cX6_calls 1 = .ok (.invokestatic 96, 3) := by decide +kernel
theorem dX6_calls_4 : decode cX6_calls 4 = .ok (.ifCond .ne 5, 3) := by decide +kernel
theorem dX6_calls_7 : decode cX6_calls 7 = .ok (.iconst (-1), 1) := by decide +kernel
theorem dX6_calls_8 : decode cX6_calls 8 = .ok (.ireturn, 1) := by decide +kernel
theorem dX6_calls_9 : decode cX6_calls 9 = .ok (.aload_n 0, 1) := by decide +kernel
theorem dX6_calls_10 : decode cX6_calls 10 = .ok (.getfield 147, 3) := by decide +kernel
theorem dX6_calls_13 : decode cX6_calls 13 = .ok (.ifCond .ne 6, 3) := by decide +kernel
theorem dX6_calls_16 : decode cX6_calls 16 = .ok (.bipush (-4), 2) := by decide +kernel
theorem dX6_calls_18 : decode cX6_calls 18 = .ok (.ireturn, 1) := by decide +kernel
theorem dX6_calls_19 : decode cX6_calls 19 = .ok (.aload_n 0, 1) := by decide +kernel
theorem dX6_calls_20 : decode cX6_calls 20 = .ok (.getfield 17, 3) := by decide +kernel
theorem dX6_calls_23 : decode cX6_calls 23 = .ok (.iload_n 1, 1) := by decide +kernel
theorem dX6_calls_24 : decode cX6_calls 24 = .ok (.iaload, 1) := by decide +kernel
theorem dX6_calls_25 : decode cX6_calls 25 = .ok (.ifCond .ge 9, 3) := by decide +kernel
theorem dX6_calls_28 : decode cX6_calls 28 = .ok (.aload_n 0, 1) := by decide +kernel
theorem dX6_calls_29 : decode cX6_calls 29 = .ok (.iconst 1, 1) := by decide +kernel
theorem dX6_calls_30 : decode cX6_calls 30 = .ok (.invokevirtual 100, 3) := by decide +kernel
theorem dX6_calls_33 : decode cX6_calls 33 = .ok (.ireturn, 1) := by decide +kernel
theorem dX6_calls_34 : decode cX6_calls 34 = .ok (.aload_n 0, 1) := by decide +kernel
theorem dX6_calls_35 : decode cX6_calls 35 = .ok (.getfield 17, 3) := by decide +kernel
theorem dX6_calls_38 : decode cX6_calls 38 = .ok (.iload_n 1, 1) := by decide +kernel
theorem dX6_calls_39 : decode cX6_calls 39 = .ok (.iaload, 1) := by decide +kernel
theorem dX6_calls_40 : decode cX6_calls 40 = .ok (.iconst 4, 1) := by decide +kernel
theorem dX6_calls_41 : decode cX6_calls 41 = .ok (.if_icmp .le 9, 3) := by decide +kernel
theorem dX6_calls_44 : decode cX6_calls 44 = .ok (.aload_n 0, 1) := by decide +kernel
theorem dX6_calls_45 : decode cX6_calls 45 = .ok (.iconst 5, 1) := by decide +kernel
theorem dX6_calls_46 : decode cX6_calls 46 = .ok (.invokevirtual 100, 3) := by decide +kernel
theorem dX6_calls_49 : decode cX6_calls 49 = .ok (.ireturn, 1) := by decide +kernel
theorem dX6_calls_50 : decode cX6_calls 50 = .ok (.iconst 1, 1) := by decide +kernel
theorem dX6_calls_51 : decode cX6_calls 51 = .ok (.istore_n 2, 1) := by decide +kernel
theorem dX6_calls_52 : decode cX6_calls 52 = .ok (.iconst 0, 1) := by decide +kernel
theorem dX6_calls_53 : decode cX6_calls 53 = .ok (.istore_n 3, 1) := by decide +kernel
theorem dX6_calls_54 : decode cX6_calls 54 = .ok (.iload_n 3, 1) := by decide +kernel
theorem dX6_calls_55 : decode cX6_calls 55 = .ok (.aload_n 0, 1) := by decide +kernel
theorem dX6_calls_56 : decode cX6_calls 56 = .ok (.getfield 17, 3) := by decide +kernel
theorem dX6_calls_59 : decode cX6_calls 59 = .ok (.iload_n 1, 1) := by decide +kernel
theorem dX6_calls_60 : decode cX6_calls 60 = .ok (.iaload, 1) := by decide +kernel
theorem dX6_calls_61 : decode cX6_calls 61 = .ok (.if_icmp .ge 32, 3) := by decide +kernel
theorem dX6_calls_64 : decode cX6_calls 64 = .ok (.iload_n 2, 1) := by decide +kernel
theorem dX6_calls_65 : decode cX6_calls 65 = .ok (.ifCond .eq 20, 3) := by decide +kernel
theorem dX6_calls_68 : decode cX6_calls 68 = .ok (.aload_n 0, 1) := by decide +kernel
theorem dX6_calls_69 : decode cX6_calls 69 = .ok (.aload_n 0, 1) := by decide +kernel
theorem dX6_calls_70 : decode cX6_calls 70 = .ok (.iload_n 1, 1) := by decide +kernel
theorem dX6_calls_71 : decode cX6_calls 71 = .ok (.iload_n 3, 1) := by decide +kernel
theorem dX6_calls_72 : decode cX6_calls 72 = .ok (.invokevirtual 104, 3) := by decide +kernel
theorem dX6_calls_75 : decode cX6_calls 75 = .ok (.invokevirtual 286, 3) := by decide +kernel
theorem dX6_calls_78 : decode cX6_calls 78 = .ok (.ifCond .eq 7, 3) := by decide +kernel
theorem dX6_calls_81 : decode cX6_calls 81 = .ok (.iconst 1, 1) := by decide +kernel
theorem dX6_calls_82 : decode cX6_calls 82 = .ok (.goto 4, 3) := by decide +kernel
theorem dX6_calls_85 : decode cX6_calls 85 = .ok (.iconst 0, 1) := by decide +kernel
theorem dX6_calls_86 : decode cX6_calls 86 = .ok (.istore_n 2, 1) := by decide +kernel
theorem dX6_calls_87 : decode cX6_calls 87 = .ok (.iinc 3 1, 3) := by decide +kernel
theorem dX6_calls_90 : decode cX6_calls 90 = .ok (.goto (-36), 3) := by decide +kernel
theorem dX6_calls_93 : decode cX6_calls 93 = .ok (.iload_n 2, 1) := by decide +kernel
theorem dX6_calls_94 : decode cX6_calls 94 = .ok (.ifCond .ne 9, 3) := by decide +kernel
theorem dX6_calls_97 : decode cX6_calls 97 = .ok (.aload_n 0, 1) := by decide +kernel
theorem dX6_calls_98 : decode cX6_calls 98 = .ok (.iconst 3, 1) := by decide +kernel
theorem dX6_calls_99 : decode cX6_calls 99 = .ok (.invokevirtual 100, 3) := by decide +kernel
theorem dX6_calls_102 : decode cX6_calls 102 = .ok (.ireturn, 1) := by decide +kernel
theorem dX6_calls_103 : decode cX6_calls 103 = .ok (.iconst 0, 1) := by decide +kernel
theorem dX6_calls_104 : decode cX6_calls 104 = .ok (.istore_n 3, 1) := by decide +kernel
theorem dX6_calls_105 : decode cX6_calls 105 = .ok (.iconst 0, 1) := by decide +kernel
theorem dX6_calls_106 : decode cX6_calls 106 = .ok (.istore 4, 2) := by decide +kernel
theorem dX6_calls_108 : decode cX6_calls 108 = .ok (.iload 4, 2) := by decide +kernel
theorem dX6_calls_110 : decode cX6_calls 110 = .ok (.aload_n 0, 1) := by decide +kernel
theorem dX6_calls_111 : decode cX6_calls 111 = .ok (.invokevirtual 232, 3) := by decide +kernel
theorem dX6_calls_114 : decode cX6_calls 114 = .ok (.if_icmp .ge 91, 3) := by decide +kernel
theorem dX6_calls_117 : decode cX6_calls 117 = .ok (.aload_n 0, 1) := by decide +kernel
theorem dX6_calls_118 : decode cX6_calls 118 = .ok (.iload 4, 2) := by decide +kernel
theorem dX6_calls_120 : decode cX6_calls 120 = .ok (.invokevirtual 235, 3) := by decide +kernel
theorem dX6_calls_123 : decode cX6_calls 123 = .ok (.aload_n 0, 1) := by decide +kernel
theorem dX6_calls_124 : decode cX6_calls 124 = .ok (.getfield 51, 3) := by decide +kernel
theorem dX6_calls_127 : decode cX6_calls 127 = .ok (.bipush 13, 2) := by decide +kernel
theorem dX6_calls_129 : decode cX6_calls 129 = .ok (.iconst 0, 1) := by decide +kernel
theorem dX6_calls_130 : decode cX6_calls 130 = .ok (.iastore, 1) := by decide +kernel
theorem dX6_calls_131 : decode cX6_calls 131 = .ok (.iconst 1, 1) := by decide +kernel
theorem dX6_calls_132 : decode cX6_calls 132 = .ok (.istore 5, 2) := by decide +kernel
theorem dX6_calls_134 : decode cX6_calls 134 = .ok (.iconst 0, 1) := by decide +kernel
theorem dX6_calls_135 : decode cX6_calls 135 = .ok (.istore 6, 2) := by decide +kernel
theorem dX6_calls_137 : decode cX6_calls 137 = .ok (.iload 6, 2) := by decide +kernel
theorem dX6_calls_139 : decode cX6_calls 139 = .ok (.aload_n 0, 1) := by decide +kernel
theorem dX6_calls_140 : decode cX6_calls 140 = .ok (.getfield 17, 3) := by decide +kernel
theorem dX6_calls_143 : decode cX6_calls 143 = .ok (.iload_n 1, 1) := by decide +kernel
theorem dX6_calls_144 : decode cX6_calls 144 = .ok (.iaload, 1) := by decide +kernel
theorem dX6_calls_145 : decode cX6_calls 145 = .ok (.if_icmp .ge 41, 3) := by decide +kernel
theorem dX6_calls_148 : decode cX6_calls 148 = .ok (.iload 5, 2) := by decide +kernel
theorem dX6_calls_150 : decode cX6_calls 150 = .ok (.ifCond .eq 27, 3) := by decide +kernel
theorem dX6_calls_153 : decode cX6_calls 153 = .ok (.aload_n 0, 1) := by decide +kernel
theorem dX6_calls_154 : decode cX6_calls 154 = .ok (.aload_n 0, 1) := by decide +kernel
theorem dX6_calls_155 : decode cX6_calls 155 = .ok (.getfield 51, 3) := by decide +kernel
theorem dX6_calls_158 : decode cX6_calls 158 = .ok (.iload 6, 2) := by decide +kernel
theorem dX6_calls_160 : decode cX6_calls 160 = .ok (.invokevirtual 289, 3) := by decide +kernel
theorem dX6_calls_163 : decode cX6_calls 163 = .ok (.aload_n 0, 1) := by decide +kernel
theorem dX6_calls_164 : decode cX6_calls 164 = .ok (.iload_n 1, 1) := by decide +kernel
theorem dX6_calls_165 : decode cX6_calls 165 = .ok (.iload 6, 2) := by decide +kernel
theorem dX6_calls_167 : decode cX6_calls 167 = .ok (.invokevirtual 104, 3) := by decide +kernel
theorem dX6_calls_170 : decode cX6_calls 170 = .ok (.if_icmp .ne 7, 3) := by decide +kernel
theorem dX6_calls_173 : decode cX6_calls 173 = .ok (.iconst 1, 1) := by decide +kernel
theorem dX6_calls_174 : decode cX6_calls 174 = .ok (.goto 4, 3) := by decide +kernel
theorem dX6_calls_177 : decode cX6_calls 177 = .ok (.iconst 0, 1) := by decide +kernel
theorem dX6_calls_178 : decode cX6_calls 178 = .ok (.istore 5, 2) := by decide +kernel
theorem dX6_calls_180 : decode cX6_calls 180 = .ok (.iinc 6 1, 3) := by decide +kernel
theorem dX6_calls_183 : decode cX6_calls 183 = .ok (.goto (-46), 3) := by decide +kernel
theorem dX6_calls_186 : decode cX6_calls 186 = .ok (.iload_n 3, 1) := by decide +kernel
theorem dX6_calls_187 : decode cX6_calls 187 = .ok (.iload 5, 2) := by decide +kernel
theorem dX6_calls_189 : decode cX6_calls 189 = .ok (.ifCond .eq 7, 3) := by decide +kernel
theorem dX6_calls_192 : decode cX6_calls 192 = .ok (.iconst 1, 1) := by decide +kernel
theorem dX6_calls_193 : decode cX6_calls 193 = .ok (.goto 4, 3) := by decide +kernel
theorem dX6_calls_196 : decode cX6_calls 196 = .ok (.iconst 0, 1) := by decide +kernel
theorem dX6_calls_197 : decode cX6_calls 197 = .ok (.iadd, 1) := by decide +kernel
theorem dX6_calls_198 : decode cX6_calls 198 = .ok (.istore_n 3, 1) := by decide +kernel
theorem dX6_calls_199 : decode cX6_calls 199 = .ok (.iinc 4 1, 3) := by decide +kernel
theorem dX6_calls_202 : decode cX6_calls 202 = .ok (.goto (-94), 3) := by decide +kernel
theorem dX6_calls_205 : decode cX6_calls 205 = .ok (.aload_n 0, 1) := by decide +kernel
theorem dX6_calls_206 : decode cX6_calls 206 = .ok (.iload_n 3, 1) := by decide +kernel
theorem dX6_calls_207 : decode cX6_calls 207 = .ok (.iconst 1, 1) := by decide +kernel
theorem dX6_calls_208 : decode cX6_calls 208 = .ok (.invokevirtual 264, 3) := by decide +kernel
theorem dX6_calls_211 : decode cX6_calls 211 = .ok (.ireturn, 1) := by decide +kernel
theorem dX6_lots_0 : decode cX6_lots 0 = .ok (.iload_n 1, 1) := by decide +kernel
theorem dX6_lots_1 : decode cX6_lots 1 = .ok (.iconst 1, 1) := by decide +kernel
theorem dX6_lots_2 : decode cX6_lots 2 = .ok (.bipush 20, 2) := by decide +kernel
theorem dX6_lots_4 : decode cX6_lots 4 = .ok (.invokestatic 86, 3) := by decide +kernel
theorem dX6_lots_7 : decode cX6_lots 7 = .ok (.ifCond .eq 14, 3) := by decide +kernel
theorem dX6_lots_10 : decode cX6_lots 10 = .ok (.iload_n 2, 1) := by decide +kernel
theorem dX6_lots_11 : decode cX6_lots 11 = .ok (.iconst 1, 1) := by decide +kernel
theorem dX6_lots_12 : decode cX6_lots 12 = .ok (.ldc_w 292, 3) := by decide +kernel
theorem dX6_lots_15 : decode cX6_lots 15 = .ok (.invokestatic 86, 3) := by decide +kernel
theorem dX6_lots_18 : decode cX6_lots 18 = .ok (.ifCond .ne 5, 3) := by decide +kernel
theorem dX6_lots_21 : decode cX6_lots 21 = .ok (.iconst (-1), 1) := by decide +kernel
theorem dX6_lots_22 : decode cX6_lots 22 = .ok (.ireturn, 1) := by decide +kernel
theorem dX6_lots_23 : decode cX6_lots 23 = .ok (.aload_n 0, 1) := by decide +kernel
theorem dX6_lots_24 : decode cX6_lots 24 = .ok (.getfield 147, 3) := by decide +kernel
theorem dX6_lots_27 : decode cX6_lots 27 = .ok (.iconst 2, 1) := by decide +kernel
theorem dX6_lots_28 : decode cX6_lots 28 = .ok (.if_icmp .ge 6, 3) := by decide +kernel
theorem dX6_lots_31 : decode cX6_lots 31 = .ok (.bipush (-4), 2) := by decide +kernel
theorem dX6_lots_33 : decode cX6_lots 33 = .ok (.ireturn, 1) := by decide +kernel
theorem dX6_lots_34 : decode cX6_lots 34 = .ok (.aload_n 0, 1) := by decide +kernel
theorem dX6_lots_35 : decode cX6_lots 35 = .ok (.getfield 150, 3) := by decide +kernel
theorem dX6_lots_38 : decode cX6_lots 38 = .ok (.iload_n 1, 1) := by decide +kernel
theorem dX6_lots_39 : decode cX6_lots 39 = .ok (.iadd, 1) := by decide +kernel
theorem dX6_lots_40 : decode cX6_lots 40 = .ok (.bipush 40, 2) := by decide +kernel
theorem dX6_lots_42 : decode cX6_lots 42 = .ok (.if_icmp .le 6, 3) := by decide +kernel
theorem dX6_lots_45 : decode cX6_lots 45 = .ok (.bipush (-2), 2) := by decide +kernel
theorem dX6_lots_47 : decode cX6_lots 47 = .ok (.ireturn, 1) := by decide +kernel
theorem dX6_lots_48 : decode cX6_lots 48 = .ok (.iload_n 2, 1) := by decide +kernel
theorem dX6_lots_49 : decode cX6_lots 49 = .ok (.i2l, 1) := by decide +kernel
theorem dX6_lots_50 : decode cX6_lots 50 = .ok (.lstore_n 3, 1) := by decide +kernel
theorem dX6_lots_51 : decode cX6_lots 51 = .ok (.iconst 0, 1) := by decide +kernel
theorem dX6_lots_52 : decode cX6_lots 52 = .ok (.istore 5, 2) := by decide +kernel
theorem dX6_lots_54 : decode cX6_lots 54 = .ok (.iconst 0, 1) := by decide +kernel
theorem dX6_lots_55 : decode cX6_lots 55 = .ok (.istore 6, 2) := by decide +kernel
theorem dX6_lots_57 : decode cX6_lots 57 = .ok (.iload 6, 2) := by decide +kernel
theorem dX6_lots_59 : decode cX6_lots 59 = .ok (.iload_n 1, 1) := by decide +kernel
theorem dX6_lots_60 : decode cX6_lots 60 = .ok (.if_icmp .ge 151, 3) := by decide +kernel
theorem dX6_lots_63 : decode cX6_lots 63 = .ok (.aload_n 0, 1) := by decide +kernel
theorem dX6_lots_64 : decode cX6_lots 64 = .ok (.invokevirtual 196, 3) := by decide +kernel
theorem dX6_lots_67 : decode cX6_lots 67 = .ok (.iconst 0, 1) := by decide +kernel
theorem dX6_lots_68 : decode cX6_lots 68 = .ok (.istore 7, 2) := by decide +kernel
theorem dX6_lots_70 : decode cX6_lots 70 = .ok (.iload 7, 2) := by decide +kernel
theorem dX6_lots_72 : decode cX6_lots 72 = .ok (.aload_n 0, 1) := by decide +kernel
theorem dX6_lots_73 : decode cX6_lots 73 = .ok (.getfield 147, 3) := by decide +kernel
theorem dX6_lots_76 : decode cX6_lots 76 = .ok (.if_icmp .ge 71, 3) := by decide +kernel
theorem dX6_lots_79 : decode cX6_lots 79 = .ok (.aload_n 0, 1) := by decide +kernel
theorem dX6_lots_80 : decode cX6_lots 80 = .ok (.iload 7, 2) := by decide +kernel
theorem dX6_lots_82 : decode cX6_lots 82 = .ok (.invokevirtual 226, 3) := by decide +kernel
theorem dX6_lots_85 : decode cX6_lots 85 = .ok (.ifCond .eq 29, 3) := by decide +kernel
theorem dX6_lots_88 : decode cX6_lots 88 = .ok (.aload_n 0, 1) := by decide +kernel
theorem dX6_lots_89 : decode cX6_lots 89 = .ok (.getfield 48, 3) := by decide +kernel
theorem dX6_lots_92 : decode cX6_lots 92 = .ok (.iload 7, 2) := by decide +kernel
theorem dX6_lots_94 : decode cX6_lots 94 = .ok (.aload_n 0, 1) := by decide +kernel
theorem dX6_lots_95 : decode cX6_lots 95 = .ok (.getfield 48, 3) := by decide +kernel
theorem dX6_lots_98 : decode cX6_lots 98 = .ok (.aload_n 0, 1) := by decide +kernel
theorem dX6_lots_99 : decode cX6_lots 99 = .ok (.aload_n 0, 1) := by decide +kernel
theorem dX6_lots_100 : decode cX6_lots 100 = .ok (.getfield 36, 3) := by decide +kernel
theorem dX6_lots_103 : decode cX6_lots 103 = .ok (.iload 7, 2) := by decide +kernel
theorem dX6_lots_105 : decode cX6_lots 105 = .ok (.iaload, 1) := by decide +kernel
theorem dX6_lots_106 : decode cX6_lots 106 = .ok (.invokevirtual 229, 3) := by decide +kernel
theorem dX6_lots_109 : decode cX6_lots 109 = .ok (.iaload, 1) := by decide +kernel
theorem dX6_lots_110 : decode cX6_lots 110 = .ok (.iastore, 1) := by decide +kernel
theorem dX6_lots_111 : decode cX6_lots 111 = .ok (.goto 30, 3) := by decide +kernel
theorem dX6_lots_114 : decode cX6_lots 114 = .ok (.ldc2_w 293, 3) := by decide +kernel
theorem dX6_lots_117 : decode cX6_lots 117 = .ok (.lload_n 3, 1) := by decide +kernel
theorem dX6_lots_118 : decode cX6_lots 118 = .ok (.lmul, 1) := by decide +kernel
theorem dX6_lots_119 : decode cX6_lots 119 = .ok (.ldc2_w 295, 3) := by decide +kernel
theorem dX6_lots_122 : decode cX6_lots 122 = .ok (.lrem, 1) := by decide +kernel
theorem dX6_lots_123 : decode cX6_lots 123 = .ok (.lstore_n 3, 1) := by decide +kernel
theorem dX6_lots_124 : decode cX6_lots 124 = .ok (.aload_n 0, 1) := by decide +kernel
theorem dX6_lots_125 : decode cX6_lots 125 = .ok (.getfield 48, 3) := by decide +kernel
theorem dX6_lots_128 : decode cX6_lots 128 = .ok (.iload 7, 2) := by decide +kernel
theorem dX6_lots_130 : decode cX6_lots 130 = .ok (.lload_n 3, 1) := by decide +kernel
theorem dX6_lots_131 : decode cX6_lots 131 = .ok (.ldc2_w 297, 3) := by decide +kernel
theorem dX6_lots_134 : decode cX6_lots 134 = .ok (.ldiv, 1) := by decide +kernel
theorem dX6_lots_135 : decode cX6_lots 135 = .ok (.ldc2_w 299, 3) := by decide +kernel
theorem dX6_lots_138 : decode cX6_lots 138 = .ok (.lrem, 1) := by decide +kernel
theorem dX6_lots_139 : decode cX6_lots 139 = .ok (.l2i, 1) := by decide +kernel
theorem dX6_lots_140 : decode cX6_lots 140 = .ok (.iastore, 1) := by decide +kernel
theorem dX6_lots_141 : decode cX6_lots 141 = .ok (.iinc 7 1, 3) := by decide +kernel
theorem dX6_lots_144 : decode cX6_lots 144 = .ok (.goto (-74), 3) := by decide +kernel
theorem dX6_lots_147 : decode cX6_lots 147 = .ok (.aload_n 0, 1) := by decide +kernel
theorem dX6_lots_148 : decode cX6_lots 148 = .ok (.getfield 48, 3) := by decide +kernel
theorem dX6_lots_151 : decode cX6_lots 151 = .ok (.bipush 12, 2) := by decide +kernel
theorem dX6_lots_153 : decode cX6_lots 153 = .ok (.dup2, 1) := by decide +kernel
theorem dX6_lots_154 : decode cX6_lots 154 = .ok (.iaload, 1) := by decide +kernel
theorem dX6_lots_155 : decode cX6_lots 155 = .ok (.iconst 1, 1) := by decide +kernel
theorem dX6_lots_156 : decode cX6_lots 156 = .ok (.iadd, 1) := by decide +kernel
theorem dX6_lots_157 : decode cX6_lots 157 = .ok (.iastore, 1) := by decide +kernel
theorem dX6_lots_158 : decode cX6_lots 158 = .ok (.aload_n 0, 1) := by decide +kernel
theorem dX6_lots_159 : decode cX6_lots 159 = .ok (.getfield 48, 3) := by decide +kernel
theorem dX6_lots_162 : decode cX6_lots 162 = .ok (.bipush 13, 2) := by decide +kernel
theorem dX6_lots_164 : decode cX6_lots 164 = .ok (.iconst 0, 1) := by decide +kernel
theorem dX6_lots_165 : decode cX6_lots 165 = .ok (.iastore, 1) := by decide +kernel
theorem dX6_lots_166 : decode cX6_lots 166 = .ok (.aload_n 0, 1) := by decide +kernel
theorem dX6_lots_167 : decode cX6_lots 167 = .ok (.aload_n 0, 1) := by decide +kernel
theorem dX6_lots_168 : decode cX6_lots 168 = .ok (.getfield 48, 3) := by decide +kernel
theorem dX6_lots_171 : decode cX6_lots 171 = .ok (.invokevirtual 206, 3) := by decide +kernel
theorem dX6_lots_174 : decode cX6_lots 174 = .ok (.iload 5, 2) := by decide +kernel
theorem dX6_lots_176 : decode cX6_lots 176 = .ok (.aload_n 0, 1) := by decide +kernel
theorem dX6_lots_177 : decode cX6_lots 177 = .ok (.iconst 0, 1) := by decide +kernel
theorem dX6_lots_178 : decode cX6_lots 178 = .ok (.aload_n 0, 1) := by decide +kernel
theorem dX6_lots_179 : decode cX6_lots 179 = .ok (.invokevirtual 217, 3) := by decide +kernel
theorem dX6_lots_182 : decode cX6_lots 182 = .ok (.invokevirtual 220, 3) := by decide +kernel
theorem dX6_lots_185 : decode cX6_lots 185 = .ok (.aload_n 0, 1) := by decide +kernel
theorem dX6_lots_186 : decode cX6_lots 186 = .ok (.getfield 147, 3) := by decide +kernel
theorem dX6_lots_189 : decode cX6_lots 189 = .ok (.iconst 1, 1) := by decide +kernel
theorem dX6_lots_190 : decode cX6_lots 190 = .ok (.isub, 1) := by decide +kernel
theorem dX6_lots_191 : decode cX6_lots 191 = .ok (.invokestatic 123, 3) := by decide +kernel
theorem dX6_lots_194 : decode cX6_lots 194 = .ok (.ifCond .eq 7, 3) := by decide +kernel
theorem dX6_lots_197 : decode cX6_lots 197 = .ok (.iconst 1, 1) := by decide +kernel
theorem dX6_lots_198 : decode cX6_lots 198 = .ok (.goto 4, 3) := by decide +kernel
theorem dX6_lots_201 : decode cX6_lots 201 = .ok (.iconst 0, 1) := by decide +kernel
theorem dX6_lots_202 : decode cX6_lots 202 = .ok (.iadd, 1) := by decide +kernel
theorem dX6_lots_203 : decode cX6_lots 203 = .ok (.istore 5, 2) := by decide +kernel
theorem dX6_lots_205 : decode cX6_lots 205 = .ok (.iinc 6 1, 3) := by decide +kernel
theorem dX6_lots_208 : decode cX6_lots 208 = .ok (.goto (-151), 3) := by decide +kernel
theorem dX6_lots_211 : decode cX6_lots 211 = .ok (.iload 5, 2) := by decide +kernel
theorem dX6_lots_213 : decode cX6_lots 213 = .ok (.ireturn, 1) := by decide +kernel
theorem dX6_counted_0 : decode cX6_counted 0 = .ok (.iconst 0, 1) := by decide +kernel
theorem dX6_counted_1 : decode cX6_counted 1 = .ok (.istore_n 2, 1) := by decide +kernel
theorem dX6_counted_2 : decode cX6_counted 2 = .ok (.iconst 0, 1) := by decide +kernel
theorem dX6_counted_3 : decode cX6_counted 3 = .ok (.istore_n 3, 1) := by decide +kernel
theorem dX6_counted_4 : decode cX6_counted 4 = .ok (.iload_n 3, 1) := by decide +kernel
theorem dX6_counted_5 : decode cX6_counted 5 = .ok (.aload_n 0, 1) := by decide +kernel
theorem dX6_counted_6 : decode cX6_counted 6 = .ok (.getfield 147, 3) := by decide +kernel
theorem dX6_counted_9 : decode cX6_counted 9 = .ok (.if_icmp .ge 34, 3) := by decide +kernel
theorem dX6_counted_12 : decode cX6_counted 12 = .ok (.iload_n 2, 1) := by decide +kernel
theorem dX6_counted_13 : decode cX6_counted 13 = .ok (.iload_n 1, 1) := by decide +kernel
theorem dX6_counted_14 : decode cX6_counted 14 = .ok (.iconst 5, 1) := by decide +kernel
theorem dX6_counted_15 : decode cX6_counted 15 = .ok (.if_icmp .ne 19, 3) := by decide +kernel
theorem dX6_counted_18 : decode cX6_counted 18 = .ok (.aload_n 0, 1) := by decide +kernel
theorem dX6_counted_19 : decode cX6_counted 19 = .ok (.getfield 33, 3) := by decide +kernel
theorem dX6_counted_22 : decode cX6_counted 22 = .ok (.iload_n 3, 1) := by decide +kernel
theorem dX6_counted_23 : decode cX6_counted 23 = .ok (.iaload, 1) := by decide +kernel
theorem dX6_counted_24 : decode cX6_counted 24 = .ok (.invokestatic 153, 3) := by decide +kernel
theorem dX6_counted_27 : decode cX6_counted 27 = .ok (.ifCond .eq 7, 3) := by decide +kernel
theorem dX6_counted_30 : decode cX6_counted 30 = .ok (.iconst 1, 1) := by decide +kernel
theorem dX6_counted_31 : decode cX6_counted 31 = .ok (.goto 4, 3) := by decide +kernel
theorem dX6_counted_34 : decode cX6_counted 34 = .ok (.iconst 0, 1) := by decide +kernel
theorem dX6_counted_35 : decode cX6_counted 35 = .ok (.iadd, 1) := by decide +kernel
theorem dX6_counted_36 : decode cX6_counted 36 = .ok (.istore_n 2, 1) := by decide +kernel
theorem dX6_counted_37 : decode cX6_counted 37 = .ok (.iinc 3 1, 3) := by decide +kernel
theorem dX6_counted_40 : decode cX6_counted 40 = .ok (.goto (-36), 3) := by decide +kernel
theorem dX6_counted_43 : decode cX6_counted 43 = .ok (.iconst 0, 1) := by decide +kernel
theorem dX6_counted_44 : decode cX6_counted 44 = .ok (.istore_n 3, 1) := by decide +kernel
theorem dX6_counted_45 : decode cX6_counted 45 = .ok (.iload_n 3, 1) := by decide +kernel
theorem dX6_counted_46 : decode cX6_counted 46 = .ok (.bipush 6, 2) := by decide +kernel
theorem dX6_counted_48 : decode cX6_counted 48 = .ok (.if_icmp .ge 32, 3) := by decide +kernel
theorem dX6_counted_51 : decode cX6_counted 51 = .ok (.iload_n 2, 1) := by decide +kernel
theorem dX6_counted_52 : decode cX6_counted 52 = .ok (.iload_n 1, 1) := by decide +kernel
theorem dX6_counted_53 : decode cX6_counted 53 = .ok (.bipush 6, 2) := by decide +kernel
theorem dX6_counted_55 : decode cX6_counted 55 = .ok (.if_icmp .ne 16, 3) := by decide +kernel
theorem dX6_counted_58 : decode cX6_counted 58 = .ok (.aload_n 0, 1) := by decide +kernel
theorem dX6_counted_59 : decode cX6_counted 59 = .ok (.getfield 17, 3) := by decide +kernel
theorem dX6_counted_62 : decode cX6_counted 62 = .ok (.iload_n 3, 1) := by decide +kernel
theorem dX6_counted_63 : decode cX6_counted 63 = .ok (.iaload, 1) := by decide +kernel
theorem dX6_counted_64 : decode cX6_counted 64 = .ok (.ifCond .lt 7, 3) := by decide +kernel
theorem dX6_counted_67 : decode cX6_counted 67 = .ok (.iconst 1, 1) := by decide +kernel
theorem dX6_counted_68 : decode cX6_counted 68 = .ok (.goto 4, 3) := by decide +kernel
theorem dX6_counted_71 : decode cX6_counted 71 = .ok (.iconst 0, 1) := by decide +kernel
theorem dX6_counted_72 : decode cX6_counted 72 = .ok (.iadd, 1) := by decide +kernel
theorem dX6_counted_73 : decode cX6_counted 73 = .ok (.istore_n 2, 1) := by decide +kernel
theorem dX6_counted_74 : decode cX6_counted 74 = .ok (.iinc 3 1, 3) := by decide +kernel
theorem dX6_counted_77 : decode cX6_counted 77 = .ok (.goto (-32), 3) := by decide +kernel
theorem dX6_counted_80 : decode cX6_counted 80 = .ok (.iconst 0, 1) := by decide +kernel
theorem dX6_counted_81 : decode cX6_counted 81 = .ok (.istore_n 3, 1) := by decide +kernel
theorem dX6_counted_82 : decode cX6_counted 82 = .ok (.iload_n 3, 1) := by decide +kernel
theorem dX6_counted_83 : decode cX6_counted 83 = .ok (.iconst 4, 1) := by decide +kernel
theorem dX6_counted_84 : decode cX6_counted 84 = .ok (.if_icmp .ge 32, 3) := by decide +kernel
theorem dX6_counted_87 : decode cX6_counted 87 = .ok (.iload_n 2, 1) := by decide +kernel
theorem dX6_counted_88 : decode cX6_counted 88 = .ok (.iload_n 1, 1) := by decide +kernel
theorem dX6_counted_89 : decode cX6_counted 89 = .ok (.bipush 7, 2) := by decide +kernel
theorem dX6_counted_91 : decode cX6_counted 91 = .ok (.if_icmp .ne 16, 3) := by decide +kernel
theorem dX6_counted_94 : decode cX6_counted 94 = .ok (.aload_n 0, 1) := by decide +kernel
theorem dX6_counted_95 : decode cX6_counted 95 = .ok (.getfield 26, 3) := by decide +kernel
theorem dX6_counted_98 : decode cX6_counted 98 = .ok (.iload_n 3, 1) := by decide +kernel
theorem dX6_counted_99 : decode cX6_counted 99 = .ok (.iaload, 1) := by decide +kernel
theorem dX6_counted_100 : decode cX6_counted 100 = .ok (.ifCond .lt 7, 3) := by decide +kernel
theorem dX6_counted_103 : decode cX6_counted 103 = .ok (.iconst 1, 1) := by decide +kernel
theorem dX6_counted_104 : decode cX6_counted 104 = .ok (.goto 4, 3) := by decide +kernel
theorem dX6_counted_107 : decode cX6_counted 107 = .ok (.iconst 0, 1) := by decide +kernel
theorem dX6_counted_108 : decode cX6_counted 108 = .ok (.iadd, 1) := by decide +kernel
theorem dX6_counted_109 : decode cX6_counted 109 = .ok (.istore_n 2, 1) := by decide +kernel
theorem dX6_counted_110 : decode cX6_counted 110 = .ok (.iinc 3 1, 3) := by decide +kernel
theorem dX6_counted_113 : decode cX6_counted 113 = .ok (.goto (-31), 3) := by decide +kernel
theorem dX6_counted_116 : decode cX6_counted 116 = .ok (.iconst 0, 1) := by decide +kernel
theorem dX6_counted_117 : decode cX6_counted 117 = .ok (.istore_n 3, 1) := by decide +kernel
theorem dX6_counted_118 : decode cX6_counted 118 = .ok (.iload_n 3, 1) := by decide +kernel
theorem dX6_counted_119 : decode cX6_counted 119 = .ok (.iconst 3, 1) := by decide +kernel
theorem dX6_counted_120 : decode cX6_counted 120 = .ok (.if_icmp .ge 32, 3) := by decide +kernel
theorem dX6_counted_123 : decode cX6_counted 123 = .ok (.iload_n 2, 1) := by decide +kernel
theorem dX6_counted_124 : decode cX6_counted 124 = .ok (.iload_n 1, 1) := by decide +kernel
theorem dX6_counted_125 : decode cX6_counted 125 = .ok (.bipush 8, 2) := by decide +kernel
theorem dX6_counted_127 : decode cX6_counted 127 = .ok (.if_icmp .ne 16, 3) := by decide +kernel
theorem dX6_counted_130 : decode cX6_counted 130 = .ok (.aload_n 0, 1) := by decide +kernel
theorem dX6_counted_131 : decode cX6_counted 131 = .ok (.getfield 60, 3) := by decide +kernel
theorem dX6_counted_134 : decode cX6_counted 134 = .ok (.iload_n 3, 1) := by decide +kernel
theorem dX6_counted_135 : decode cX6_counted 135 = .ok (.baload, 1) := by decide +kernel
theorem dX6_counted_136 : decode cX6_counted 136 = .ok (.ifCond .eq 7, 3) := by decide +kernel
theorem dX6_counted_139 : decode cX6_counted 139 = .ok (.iconst 1, 1) := by decide +kernel
theorem dX6_counted_140 : decode cX6_counted 140 = .ok (.goto 4, 3) := by decide +kernel
theorem dX6_counted_143 : decode cX6_counted 143 = .ok (.iconst 0, 1) := by decide +kernel
theorem dX6_counted_144 : decode cX6_counted 144 = .ok (.iadd, 1) := by decide +kernel
theorem dX6_counted_145 : decode cX6_counted 145 = .ok (.istore_n 2, 1) := by decide +kernel
theorem dX6_counted_146 : decode cX6_counted 146 = .ok (.iinc 3 1, 3) := by decide +kernel
theorem dX6_counted_149 : decode cX6_counted 149 = .ok (.goto (-31), 3) := by decide +kernel
theorem dX6_counted_152 : decode cX6_counted 152 = .ok (.iload_n 1, 1) := by decide +kernel
theorem dX6_counted_153 : decode cX6_counted 153 = .ok (.tableswitch 66 0 4 #[35, 40, 48, 56, 61], 35) := by decide +kernel
theorem dX6_counted_188 : decode cX6_counted 188 = .ok (.aload_n 0, 1) := by decide +kernel
theorem dX6_counted_189 : decode cX6_counted 189 = .ok (.getfield 147, 3) := by decide +kernel
theorem dX6_counted_192 : decode cX6_counted 192 = .ok (.ireturn, 1) := by decide +kernel
theorem dX6_counted_193 : decode cX6_counted 193 = .ok (.aload_n 0, 1) := by decide +kernel
theorem dX6_counted_194 : decode cX6_counted 194 = .ok (.getfield 48, 3) := by decide +kernel
theorem dX6_counted_197 : decode cX6_counted 197 = .ok (.bipush 12, 2) := by decide +kernel
theorem dX6_counted_199 : decode cX6_counted 199 = .ok (.iaload, 1) := by decide +kernel
theorem dX6_counted_200 : decode cX6_counted 200 = .ok (.ireturn, 1) := by decide +kernel
theorem dX6_counted_201 : decode cX6_counted 201 = .ok (.aload_n 0, 1) := by decide +kernel
theorem dX6_counted_202 : decode cX6_counted 202 = .ok (.getfield 48, 3) := by decide +kernel
theorem dX6_counted_205 : decode cX6_counted 205 = .ok (.bipush 13, 2) := by decide +kernel
theorem dX6_counted_207 : decode cX6_counted 207 = .ok (.iaload, 1) := by decide +kernel
theorem dX6_counted_208 : decode cX6_counted 208 = .ok (.ireturn, 1) := by decide +kernel
theorem dX6_counted_209 : decode cX6_counted 209 = .ok (.aload_n 0, 1) := by decide +kernel
theorem dX6_counted_210 : decode cX6_counted 210 = .ok (.invokevirtual 202, 3) := by decide +kernel
theorem dX6_counted_213 : decode cX6_counted 213 = .ok (.ireturn, 1) := by decide +kernel
theorem dX6_counted_214 : decode cX6_counted 214 = .ok (.aload_n 0, 1) := by decide +kernel
theorem dX6_counted_215 : decode cX6_counted 215 = .ok (.getfield 150, 3) := by decide +kernel
theorem dX6_counted_218 : decode cX6_counted 218 = .ok (.ireturn, 1) := by decide +kernel
theorem dX6_counted_219 : decode cX6_counted 219 = .ok (.iload_n 2, 1) := by decide +kernel
theorem dX6_counted_220 : decode cX6_counted 220 = .ok (.ireturn, 1) := by decide +kernel
theorem dX6_count_0 : decode cX6_count 0 = .ok (.iload_n 1, 1) := by decide +kernel
theorem dX6_count_1 : decode cX6_count 1 = .ok (.iconst 0, 1) := by decide +kernel
theorem dX6_count_2 : decode cX6_count 2 = .ok (.bipush 8, 2) := by decide +kernel
theorem dX6_count_4 : decode cX6_count 4 = .ok (.invokestatic 86, 3) := by decide +kernel
theorem dX6_count_7 : decode cX6_count 7 = .ok (.ifCond .eq 11, 3) := by decide +kernel
theorem dX6_count_10 : decode cX6_count 10 = .ok (.aload_n 0, 1) := by decide +kernel
theorem dX6_count_11 : decode cX6_count 11 = .ok (.iload_n 1, 1) := by decide +kernel
theorem dX6_count_12 : decode cX6_count 12 = .ok (.invokevirtual 301, 3) := by decide +kernel
theorem dX6_count_15 : decode cX6_count 15 = .ok (.goto 4, 3) := by decide +kernel
theorem dX6_count_18 : decode cX6_count 18 = .ok (.iconst (-1), 1) := by decide +kernel
theorem dX6_count_19 : decode cX6_count 19 = .ok (.ireturn, 1) := by decide +kernel
theorem dX6_mix_0 : decode cX6_mix 0 = .ok (.aload_n 0, 1) := by decide +kernel
theorem dX6_mix_1 : decode cX6_mix 1 = .ok (.ldc2_w 304, 3) := by decide +kernel
theorem dX6_mix_4 : decode cX6_mix 4 = .ok (.aload_n 0, 1) := by decide +kernel
theorem dX6_mix_5 : decode cX6_mix 5 = .ok (.getfield 306, 3) := by decide +kernel
theorem dX6_mix_8 : decode cX6_mix 8 = .ok (.lmul, 1) := by decide +kernel
theorem dX6_mix_9 : decode cX6_mix 9 = .ok (.lload_n 1, 1) := by decide +kernel
theorem dX6_mix_10 : decode cX6_mix 10 = .ok (.ladd, 1) := by decide +kernel
theorem dX6_mix_11 : decode cX6_mix 11 = .ok (.putfield 306, 3) := by decide +kernel
theorem dX6_mix_14 : decode cX6_mix 14 = .ok (.return_, 1) := by decide +kernel
theorem dX6_mixTown_0 : decode cX6_mixTown 0 = .ok (.iconst 0, 1) := by decide +kernel
theorem dX6_mixTown_1 : decode cX6_mixTown 1 = .ok (.istore_n 1, 1) := by decide +kernel
theorem dX6_mixTown_2 : decode cX6_mixTown 2 = .ok (.iload_n 1, 1) := by decide +kernel
theorem dX6_mixTown_3 : decode cX6_mixTown 3 = .ok (.aload_n 0, 1) := by decide +kernel
theorem dX6_mixTown_4 : decode cX6_mixTown 4 = .ok (.getfield 147, 3) := by decide +kernel
theorem dX6_mixTown_7 : decode cX6_mixTown 7 = .ok (.if_icmp .ge 33, 3) := by decide +kernel
theorem dX6_mixTown_10 : decode cX6_mixTown 10 = .ok (.iconst 0, 1) := by decide +kernel
theorem dX6_mixTown_11 : decode cX6_mixTown 11 = .ok (.istore_n 2, 1) := by decide +kernel
theorem dX6_mixTown_12 : decode cX6_mixTown 12 = .ok (.iload_n 2, 1) := by decide +kernel
theorem dX6_mixTown_13 : decode cX6_mixTown 13 = .ok (.iconst 5, 1) := by decide +kernel
theorem dX6_mixTown_14 : decode cX6_mixTown 14 = .ok (.if_icmp .ge 20, 3) := by decide +kernel
theorem dX6_mixTown_17 : decode cX6_mixTown 17 = .ok (.aload_n 0, 1) := by decide +kernel
theorem dX6_mixTown_18 : decode cX6_mixTown 18 = .ok (.aload_n 0, 1) := by decide +kernel
theorem dX6_mixTown_19 : decode cX6_mixTown 19 = .ok (.iload_n 1, 1) := by decide +kernel
theorem dX6_mixTown_20 : decode cX6_mixTown 20 = .ok (.iload_n 2, 1) := by decide +kernel
theorem dX6_mixTown_21 : decode cX6_mixTown 21 = .ok (.invokevirtual 178, 3) := by decide +kernel
theorem dX6_mixTown_24 : decode cX6_mixTown 24 = .ok (.i2l, 1) := by decide +kernel
theorem dX6_mixTown_25 : decode cX6_mixTown 25 = .ok (.invokevirtual 309, 3) := by decide +kernel
theorem dX6_mixTown_28 : decode cX6_mixTown 28 = .ok (.iinc 2 1, 3) := by decide +kernel
theorem dX6_mixTown_31 : decode cX6_mixTown 31 = .ok (.goto (-19), 3) := by decide +kernel
theorem dX6_mixTown_34 : decode cX6_mixTown 34 = .ok (.iinc 1 1, 3) := by decide +kernel
theorem dX6_mixTown_37 : decode cX6_mixTown 37 = .ok (.goto (-35), 3) := by decide +kernel
theorem dX6_mixTown_40 : decode cX6_mixTown 40 = .ok (.iconst 0, 1) := by decide +kernel
theorem dX6_mixTown_41 : decode cX6_mixTown 41 = .ok (.istore_n 1, 1) := by decide +kernel
theorem dX6_mixTown_42 : decode cX6_mixTown 42 = .ok (.iload_n 1, 1) := by decide +kernel
theorem dX6_mixTown_43 : decode cX6_mixTown 43 = .ok (.iconst 3, 1) := by decide +kernel
theorem dX6_mixTown_44 : decode cX6_mixTown 44 = .ok (.if_icmp .ge 35, 3) := by decide +kernel
theorem dX6_mixTown_47 : decode cX6_mixTown 47 = .ok (.aload_n 0, 1) := by decide +kernel
theorem dX6_mixTown_48 : decode cX6_mixTown 48 = .ok (.aload_n 0, 1) := by decide +kernel
theorem dX6_mixTown_49 : decode cX6_mixTown 49 = .ok (.getfield 60, 3) := by decide +kernel
theorem dX6_mixTown_52 : decode cX6_mixTown 52 = .ok (.iload_n 1, 1) := by decide +kernel
theorem dX6_mixTown_53 : decode cX6_mixTown 53 = .ok (.baload, 1) := by decide +kernel
theorem dX6_mixTown_54 : decode cX6_mixTown 54 = .ok (.ifCond .eq 13, 3) := by decide +kernel
theorem dX6_mixTown_57 : decode cX6_mixTown 57 = .ok (.aload_n 0, 1) := by decide +kernel
theorem dX6_mixTown_58 : decode cX6_mixTown 58 = .ok (.getfield 64, 3) := by decide +kernel
theorem dX6_mixTown_61 : decode cX6_mixTown 61 = .ok (.iload_n 1, 1) := by decide +kernel
theorem dX6_mixTown_62 : decode cX6_mixTown 62 = .ok (.iaload, 1) := by decide +kernel
theorem dX6_mixTown_63 : decode cX6_mixTown 63 = .ok (.i2l, 1) := by decide +kernel
theorem dX6_mixTown_64 : decode cX6_mixTown 64 = .ok (.goto 6, 3) := by decide +kernel
theorem dX6_mixTown_67 : decode cX6_mixTown 67 = .ok (.ldc2_w 313, 3) := by decide +kernel
theorem dX6_mixTown_70 : decode cX6_mixTown 70 = .ok (.invokevirtual 309, 3) := by decide +kernel
theorem dX6_mixTown_73 : decode cX6_mixTown 73 = .ok (.iinc 1 1, 3) := by decide +kernel
theorem dX6_mixTown_76 : decode cX6_mixTown 76 = .ok (.goto (-34), 3) := by decide +kernel
theorem dX6_mixTown_79 : decode cX6_mixTown 79 = .ok (.return_, 1) := by decide +kernel
theorem dX6_digest_0 : decode cX6_digest 0 = .ok (.aload_n 0, 1) := by decide +kernel
theorem dX6_digest_1 : decode cX6_digest 1 = .ok (.ldc2_w 315, 3) := by decide +kernel
theorem dX6_digest_4 : decode cX6_digest 4 = .ok (.putfield 306, 3) := by decide +kernel
theorem dX6_digest_7 : decode cX6_digest 7 = .ok (.iconst 0, 1) := by decide +kernel
theorem dX6_digest_8 : decode cX6_digest 8 = .ok (.istore_n 1, 1) := by decide +kernel
theorem dX6_digest_9 : decode cX6_digest 9 = .ok (.iload_n 1, 1) := by decide +kernel
theorem dX6_digest_10 : decode cX6_digest 10 = .ok (.bipush 9, 2) := by decide +kernel
theorem dX6_digest_12 : decode cX6_digest 12 = .ok (.if_icmp .ge 19, 3) := by decide +kernel
theorem dX6_digest_15 : decode cX6_digest 15 = .ok (.aload_n 0, 1) := by decide +kernel
theorem dX6_digest_16 : decode cX6_digest 16 = .ok (.aload_n 0, 1) := by decide +kernel
theorem dX6_digest_17 : decode cX6_digest 17 = .ok (.iload_n 1, 1) := by decide +kernel
theorem dX6_digest_18 : decode cX6_digest 18 = .ok (.invokevirtual 301, 3) := by decide +kernel
theorem dX6_digest_21 : decode cX6_digest 21 = .ok (.i2l, 1) := by decide +kernel
theorem dX6_digest_22 : decode cX6_digest 22 = .ok (.invokevirtual 309, 3) := by decide +kernel
theorem dX6_digest_25 : decode cX6_digest 25 = .ok (.iinc 1 1, 3) := by decide +kernel
theorem dX6_digest_28 : decode cX6_digest 28 = .ok (.goto (-19), 3) := by decide +kernel
theorem dX6_digest_31 : decode cX6_digest 31 = .ok (.aload_n 0, 1) := by decide +kernel
theorem dX6_digest_32 : decode cX6_digest 32 = .ok (.invokevirtual 317, 3) := by decide +kernel
theorem dX6_digest_35 : decode cX6_digest 35 = .ok (.iconst 0, 1) := by decide +kernel
theorem dX6_digest_36 : decode cX6_digest 36 = .ok (.istore_n 1, 1) := by decide +kernel
theorem dX6_digest_37 : decode cX6_digest 37 = .ok (.iload_n 1, 1) := by decide +kernel
theorem dX6_digest_38 : decode cX6_digest 38 = .ok (.bipush 6, 2) := by decide +kernel
theorem dX6_digest_40 : decode cX6_digest 40 = .ok (.if_icmp .ge 49, 3) := by decide +kernel
theorem dX6_digest_43 : decode cX6_digest 43 = .ok (.aload_n 0, 1) := by decide +kernel
theorem dX6_digest_44 : decode cX6_digest 44 = .ok (.aload_n 0, 1) := by decide +kernel
theorem dX6_digest_45 : decode cX6_digest 45 = .ok (.getfield 17, 3) := by decide +kernel
theorem dX6_digest_48 : decode cX6_digest 48 = .ok (.iload_n 1, 1) := by decide +kernel
theorem dX6_digest_49 : decode cX6_digest 49 = .ok (.iaload, 1) := by decide +kernel
theorem dX6_digest_50 : decode cX6_digest 50 = .ok (.i2l, 1) := by decide +kernel
theorem dX6_digest_51 : decode cX6_digest 51 = .ok (.invokevirtual 309, 3) := by decide +kernel
theorem dX6_digest_54 : decode cX6_digest 54 = .ok (.iconst 0, 1) := by decide +kernel
theorem dX6_digest_55 : decode cX6_digest 55 = .ok (.istore_n 2, 1) := by decide +kernel
theorem dX6_digest_56 : decode cX6_digest 56 = .ok (.iload_n 2, 1) := by decide +kernel
theorem dX6_digest_57 : decode cX6_digest 57 = .ok (.aload_n 0, 1) := by decide +kernel
theorem dX6_digest_58 : decode cX6_digest 58 = .ok (.getfield 17, 3) := by decide +kernel
theorem dX6_digest_61 : decode cX6_digest 61 = .ok (.iload_n 1, 1) := by decide +kernel
theorem dX6_digest_62 : decode cX6_digest 62 = .ok (.iaload, 1) := by decide +kernel
theorem dX6_digest_63 : decode cX6_digest 63 = .ok (.if_icmp .ge 20, 3) := by decide +kernel
theorem dX6_digest_66 : decode cX6_digest 66 = .ok (.aload_n 0, 1) := by decide +kernel
theorem dX6_digest_67 : decode cX6_digest 67 = .ok (.aload_n 0, 1) := by decide +kernel
theorem dX6_digest_68 : decode cX6_digest 68 = .ok (.iload_n 1, 1) := by decide +kernel
theorem dX6_digest_69 : decode cX6_digest 69 = .ok (.iload_n 2, 1) := by decide +kernel
theorem dX6_digest_70 : decode cX6_digest 70 = .ok (.invokevirtual 104, 3) := by decide +kernel
theorem dX6_digest_73 : decode cX6_digest 73 = .ok (.i2l, 1) := by decide +kernel
theorem dX6_digest_74 : decode cX6_digest 74 = .ok (.invokevirtual 309, 3) := by decide +kernel
theorem dX6_digest_77 : decode cX6_digest 77 = .ok (.iinc 2 1, 3) := by decide +kernel
theorem dX6_digest_80 : decode cX6_digest 80 = .ok (.goto (-24), 3) := by decide +kernel
theorem dX6_digest_83 : decode cX6_digest 83 = .ok (.iinc 1 1, 3) := by decide +kernel
theorem dX6_digest_86 : decode cX6_digest 86 = .ok (.goto (-49), 3) := by decide +kernel
theorem dX6_digest_89 : decode cX6_digest 89 = .ok (.iconst 0, 1) := by decide +kernel
theorem dX6_digest_90 : decode cX6_digest 90 = .ok (.istore_n 1, 1) := by decide +kernel
theorem dX6_digest_91 : decode cX6_digest 91 = .ok (.iload_n 1, 1) := by decide +kernel
theorem dX6_digest_92 : decode cX6_digest 92 = .ok (.iconst 4, 1) := by decide +kernel
theorem dX6_digest_93 : decode cX6_digest 93 = .ok (.if_icmp .ge 49, 3) := by decide +kernel
theorem dX6_digest_96 : decode cX6_digest 96 = .ok (.aload_n 0, 1) := by decide +kernel
theorem dX6_digest_97 : decode cX6_digest 97 = .ok (.aload_n 0, 1) := by decide +kernel
theorem dX6_digest_98 : decode cX6_digest 98 = .ok (.getfield 26, 3) := by decide +kernel
theorem dX6_digest_101 : decode cX6_digest 101 = .ok (.iload_n 1, 1) := by decide +kernel
theorem dX6_digest_102 : decode cX6_digest 102 = .ok (.iaload, 1) := by decide +kernel
theorem dX6_digest_103 : decode cX6_digest 103 = .ok (.i2l, 1) := by decide +kernel
theorem dX6_digest_104 : decode cX6_digest 104 = .ok (.invokevirtual 309, 3) := by decide +kernel
theorem dX6_digest_107 : decode cX6_digest 107 = .ok (.iconst 0, 1) := by decide +kernel
theorem dX6_digest_108 : decode cX6_digest 108 = .ok (.istore_n 2, 1) := by decide +kernel
theorem dX6_digest_109 : decode cX6_digest 109 = .ok (.iload_n 2, 1) := by decide +kernel
theorem dX6_digest_110 : decode cX6_digest 110 = .ok (.aload_n 0, 1) := by decide +kernel
theorem dX6_digest_111 : decode cX6_digest 111 = .ok (.getfield 26, 3) := by decide +kernel
theorem dX6_digest_114 : decode cX6_digest 114 = .ok (.iload_n 1, 1) := by decide +kernel
theorem dX6_digest_115 : decode cX6_digest 115 = .ok (.iaload, 1) := by decide +kernel
theorem dX6_digest_116 : decode cX6_digest 116 = .ok (.if_icmp .ge 20, 3) := by decide +kernel
theorem dX6_digest_119 : decode cX6_digest 119 = .ok (.aload_n 0, 1) := by decide +kernel
theorem dX6_digest_120 : decode cX6_digest 120 = .ok (.aload_n 0, 1) := by decide +kernel
theorem dX6_digest_121 : decode cX6_digest 121 = .ok (.iload_n 1, 1) := by decide +kernel
theorem dX6_digest_122 : decode cX6_digest 122 = .ok (.iload_n 2, 1) := by decide +kernel
theorem dX6_digest_123 : decode cX6_digest 123 = .ok (.invokevirtual 120, 3) := by decide +kernel
theorem dX6_digest_126 : decode cX6_digest 126 = .ok (.i2l, 1) := by decide +kernel
theorem dX6_digest_127 : decode cX6_digest 127 = .ok (.invokevirtual 309, 3) := by decide +kernel
theorem dX6_digest_130 : decode cX6_digest 130 = .ok (.iinc 2 1, 3) := by decide +kernel
theorem dX6_digest_133 : decode cX6_digest 133 = .ok (.goto (-24), 3) := by decide +kernel
theorem dX6_digest_136 : decode cX6_digest 136 = .ok (.iinc 1 1, 3) := by decide +kernel
theorem dX6_digest_139 : decode cX6_digest 139 = .ok (.goto (-48), 3) := by decide +kernel
theorem dX6_digest_142 : decode cX6_digest 142 = .ok (.aload_n 0, 1) := by decide +kernel
theorem dX6_digest_143 : decode cX6_digest 143 = .ok (.getfield 306, 3) := by decide +kernel
theorem dX6_digest_146 : decode cX6_digest 146 = .ok (.lreturn, 1) := by decide +kernel
theorem dJ6_bitCount_0f7a4_0 : decode cJ6_bitCount_0f7a4 0 = .ok (.iload_n 0, 1) := by decide +kernel
theorem dJ6_bitCount_0f7a4_1 : decode cJ6_bitCount_0f7a4 1 = .ok (.iload_n 0, 1) := by decide +kernel
theorem dJ6_bitCount_0f7a4_2 : decode cJ6_bitCount_0f7a4 2 = .ok (.iconst 1, 1) := by decide +kernel
theorem dJ6_bitCount_0f7a4_3 : decode cJ6_bitCount_0f7a4 3 = .ok (.iushr, 1) := by decide +kernel
theorem dJ6_bitCount_0f7a4_4 : decode cJ6_bitCount_0f7a4 4 = .ok (.ldc_w 265, 3) := by decide +kernel
theorem dJ6_bitCount_0f7a4_7 : decode cJ6_bitCount_0f7a4 7 = .ok (.iand, 1) := by decide +kernel
theorem dJ6_bitCount_0f7a4_8 : decode cJ6_bitCount_0f7a4 8 = .ok (.isub, 1) := by decide +kernel
theorem dJ6_bitCount_0f7a4_9 : decode cJ6_bitCount_0f7a4 9 = .ok (.istore_n 0, 1) := by decide +kernel
theorem dJ6_bitCount_0f7a4_10 : decode cJ6_bitCount_0f7a4 10 = .ok (.iload_n 0, 1) := by decide +kernel
theorem dJ6_bitCount_0f7a4_11 : decode cJ6_bitCount_0f7a4 11 = .ok (.ldc_w 266, 3) := by decide +kernel
theorem dJ6_bitCount_0f7a4_14 : decode cJ6_bitCount_0f7a4 14 = .ok (.iand, 1) := by decide +kernel
theorem dJ6_bitCount_0f7a4_15 : decode cJ6_bitCount_0f7a4 15 = .ok (.iload_n 0, 1) := by decide +kernel
theorem dJ6_bitCount_0f7a4_16 : decode cJ6_bitCount_0f7a4 16 = .ok (.iconst 2, 1) := by decide +kernel
theorem dJ6_bitCount_0f7a4_17 : decode cJ6_bitCount_0f7a4 17 = .ok (.iushr, 1) := by decide +kernel
theorem dJ6_bitCount_0f7a4_18 : decode cJ6_bitCount_0f7a4 18 = .ok (.ldc_w 266, 3) := by decide +kernel
theorem dJ6_bitCount_0f7a4_21 : decode cJ6_bitCount_0f7a4 21 = .ok (.iand, 1) := by decide +kernel
theorem dJ6_bitCount_0f7a4_22 : decode cJ6_bitCount_0f7a4 22 = .ok (.iadd, 1) := by decide +kernel
theorem dJ6_bitCount_0f7a4_23 : decode cJ6_bitCount_0f7a4 23 = .ok (.istore_n 0, 1) := by decide +kernel
theorem dJ6_bitCount_0f7a4_24 : decode cJ6_bitCount_0f7a4 24 = .ok (.iload_n 0, 1) := by decide +kernel
theorem dJ6_bitCount_0f7a4_25 : decode cJ6_bitCount_0f7a4 25 = .ok (.iload_n 0, 1) := by decide +kernel
theorem dJ6_bitCount_0f7a4_26 : decode cJ6_bitCount_0f7a4 26 = .ok (.iconst 4, 1) := by decide +kernel
theorem dJ6_bitCount_0f7a4_27 : decode cJ6_bitCount_0f7a4 27 = .ok (.iushr, 1) := by decide +kernel
theorem dJ6_bitCount_0f7a4_28 : decode cJ6_bitCount_0f7a4 28 = .ok (.iadd, 1) := by decide +kernel
theorem dJ6_bitCount_0f7a4_29 : decode cJ6_bitCount_0f7a4 29 = .ok (.ldc_w 267, 3) := by decide +kernel
theorem dJ6_bitCount_0f7a4_32 : decode cJ6_bitCount_0f7a4 32 = .ok (.iand, 1) := by decide +kernel
theorem dJ6_bitCount_0f7a4_33 : decode cJ6_bitCount_0f7a4 33 = .ok (.istore_n 0, 1) := by decide +kernel
theorem dJ6_bitCount_0f7a4_34 : decode cJ6_bitCount_0f7a4 34 = .ok (.iload_n 0, 1) := by decide +kernel
theorem dJ6_bitCount_0f7a4_35 : decode cJ6_bitCount_0f7a4 35 = .ok (.iload_n 0, 1) := by decide +kernel
theorem dJ6_bitCount_0f7a4_36 : decode cJ6_bitCount_0f7a4 36 = .ok (.bipush 8, 2) := by decide +kernel
theorem dJ6_bitCount_0f7a4_38 : decode cJ6_bitCount_0f7a4 38 = .ok (.iushr, 1) := by decide +kernel
theorem dJ6_bitCount_0f7a4_39 : decode cJ6_bitCount_0f7a4 39 = .ok (.iadd, 1) := by decide +kernel
theorem dJ6_bitCount_0f7a4_40 : decode cJ6_bitCount_0f7a4 40 = .ok (.istore_n 0, 1) := by decide +kernel
theorem dJ6_bitCount_0f7a4_41 : decode cJ6_bitCount_0f7a4 41 = .ok (.iload_n 0, 1) := by decide +kernel
theorem dJ6_bitCount_0f7a4_42 : decode cJ6_bitCount_0f7a4 42 = .ok (.iload_n 0, 1) := by decide +kernel
theorem dJ6_bitCount_0f7a4_43 : decode cJ6_bitCount_0f7a4 43 = .ok (.bipush 16, 2) := by decide +kernel
theorem dJ6_bitCount_0f7a4_45 : decode cJ6_bitCount_0f7a4 45 = .ok (.iushr, 1) := by decide +kernel
theorem dJ6_bitCount_0f7a4_46 : decode cJ6_bitCount_0f7a4 46 = .ok (.iadd, 1) := by decide +kernel
theorem dJ6_bitCount_0f7a4_47 : decode cJ6_bitCount_0f7a4 47 = .ok (.istore_n 0, 1) := by decide +kernel
theorem dJ6_bitCount_0f7a4_48 : decode cJ6_bitCount_0f7a4 48 = .ok (.iload_n 0, 1) := by decide +kernel
theorem dJ6_bitCount_0f7a4_49 : decode cJ6_bitCount_0f7a4 49 = .ok (.bipush 63, 2) := by decide +kernel
theorem dJ6_bitCount_0f7a4_51 : decode cJ6_bitCount_0f7a4 51 = .ok (.iand, 1) := by decide +kernel
theorem dJ6_bitCount_0f7a4_52 : decode cJ6_bitCount_0f7a4 52 = .ok (.ireturn, 1) := by decide +kernel
theorem dL_law_0 : decode cL_law 0 = .ok (.new 7, 3) := by decide +kernel
theorem dL_law_3 : decode cL_law 3 = .ok (.dup, 1) := by decide +kernel
theorem dL_law_4 : decode cL_law 4 = .ok (.invokespecial 9, 3) := by decide +kernel
theorem dL_law_7 : decode cL_law 7 = .ok (.astore_n 1, 1) := by decide +kernel
theorem dL_law_8 : decode cL_law 8 = .ok (.new 10, 3) := by decide +kernel
theorem dL_law_11 : decode cL_law 11 = .ok (.dup, 1) := by decide +kernel
theorem dL_law_12 : decode cL_law 12 = .ok (.invokespecial 12, 3) := by decide +kernel
theorem dL_law_15 : decode cL_law 15 = .ok (.astore_n 2, 1) := by decide +kernel
theorem dL_law_16 : decode cL_law 16 = .ok (.iconst 0, 1) := by decide +kernel
theorem dL_law_17 : decode cL_law 17 = .ok (.istore_n 3, 1) := by decide +kernel
theorem dL_law_18 : decode cL_law 18 = .ok (.iload_n 3, 1) := by decide +kernel
theorem dL_law_19 : decode cL_law 19 = .ok (.aload_n 0, 1) := by decide +kernel
theorem dL_law_20 : decode cL_law 20 = .ok (.arraylength, 1) := by decide +kernel
theorem dL_law_21 : decode cL_law 21 = .ok (.bipush 6, 2) := by decide +kernel
theorem dL_law_23 : decode cL_law 23 = .ok (.isub, 1) := by decide +kernel
theorem dL_law_24 : decode cL_law 24 = .ok (.if_icmp .gt 1283, 3) := by decide +kernel
theorem dL_law_27 : decode cL_law 27 = .ok (.aload_n 0, 1) := by decide +kernel
theorem dL_law_28 : decode cL_law 28 = .ok (.iload_n 3, 1) := by decide +kernel
theorem dL_law_29 : decode cL_law 29 = .ok (.iaload, 1) := by decide +kernel
theorem dL_law_30 : decode cL_law 30 = .ok (.bipush 63, 2) := by decide +kernel
theorem dL_law_32 : decode cL_law 32 = .ok (.iand, 1) := by decide +kernel
theorem dL_law_33 : decode cL_law 33 = .ok (.tableswitch 1268 0 39 #[175, 208, 251, 284, 307, 370, 393, 426, 469, 492, 515, 548, 581, 604, 617, 650, 673, 696, 719, 752, 795, 828, 841, 864, 877, 910, 953, 996, 1019, 1052, 1075, 1098, 1121, 1154, 1167, 1181, 1195, 1218, 1231, 1254], 175) := by decide +kernel
theorem dL_law_208 : decode cL_law 208 = .ok (.aload_n 1, 1) := by decide +kernel
theorem dL_law_209 : decode cL_law 209 = .ok (.aload_n 0, 1) := by decide +kernel
theorem dL_law_210 : decode cL_law 210 = .ok (.iload_n 3, 1) := by decide +kernel
theorem dL_law_211 : decode cL_law 211 = .ok (.iconst 1, 1) := by decide +kernel
theorem dL_law_212 : decode cL_law 212 = .ok (.iadd, 1) := by decide +kernel
theorem dL_law_213 : decode cL_law 213 = .ok (.iaload, 1) := by decide +kernel
theorem dL_law_214 : decode cL_law 214 = .ok (.aload_n 0, 1) := by decide +kernel
theorem dL_law_215 : decode cL_law 215 = .ok (.iload_n 3, 1) := by decide +kernel
theorem dL_law_216 : decode cL_law 216 = .ok (.iconst 2, 1) := by decide +kernel
theorem dL_law_217 : decode cL_law 217 = .ok (.iadd, 1) := by decide +kernel
theorem dL_law_218 : decode cL_law 218 = .ok (.iaload, 1) := by decide +kernel
theorem dL_law_219 : decode cL_law 219 = .ok (.invokevirtual 13, 3) := by decide +kernel
theorem dL_law_222 : decode cL_law 222 = .ok (.aload_n 2, 1) := by decide +kernel
theorem dL_law_223 : decode cL_law 223 = .ok (.aload_n 0, 1) := by decide +kernel
theorem dL_law_224 : decode cL_law 224 = .ok (.iload_n 3, 1) := by decide +kernel
theorem dL_law_225 : decode cL_law 225 = .ok (.iconst 1, 1) := by decide +kernel
theorem dL_law_226 : decode cL_law 226 = .ok (.iadd, 1) := by decide +kernel
theorem dL_law_227 : decode cL_law 227 = .ok (.iaload, 1) := by decide +kernel
theorem dL_law_228 : decode cL_law 228 = .ok (.aload_n 0, 1) := by decide +kernel
theorem dL_law_229 : decode cL_law 229 = .ok (.iload_n 3, 1) := by decide +kernel
theorem dL_law_230 : decode cL_law 230 = .ok (.iconst 2, 1) := by decide +kernel
theorem dL_law_231 : decode cL_law 231 = .ok (.iadd, 1) := by decide +kernel
theorem dL_law_232 : decode cL_law 232 = .ok (.iaload, 1) := by decide +kernel
theorem dL_law_233 : decode cL_law 233 = .ok (.invokevirtual 17, 3) := by decide +kernel
theorem dL_law_236 : decode cL_law 236 = .ok (.if_icmp .eq 1065, 3) := by decide +kernel
theorem dL_law_239 : decode cL_law 239 = .ok (.iconst 0, 1) := by decide +kernel
theorem dL_law_240 : decode cL_law 240 = .ok (.ireturn, 1) := by decide +kernel
theorem dL_law_241 : decode cL_law 241 = .ok (.aload_n 1, 1) := by decide +kernel
theorem dL_law_242 : decode cL_law 242 = .ok (.aload_n 0, 1) := by decide +kernel
theorem dL_law_243 : decode cL_law 243 = .ok (.iload_n 3, 1) := by decide +kernel
theorem dL_law_244 : decode cL_law 244 = .ok (.iconst 1, 1) := by decide +kernel
theorem dL_law_245 : decode cL_law 245 = .ok (.iadd, 1) := by decide +kernel
theorem dL_law_246 : decode cL_law 246 = .ok (.iaload, 1) := by decide +kernel
theorem dL_law_247 : decode cL_law 247 = .ok (.aload_n 0, 1) := by decide +kernel
theorem dL_law_248 : decode cL_law 248 = .ok (.iload_n 3, 1) := by decide +kernel
theorem dL_law_249 : decode cL_law 249 = .ok (.iconst 2, 1) := by decide +kernel
theorem dL_law_250 : decode cL_law 250 = .ok (.iadd, 1) := by decide +kernel
theorem dL_law_251 : decode cL_law 251 = .ok (.iaload, 1) := by decide +kernel
theorem dL_law_252 : decode cL_law 252 = .ok (.aload_n 0, 1) := by decide +kernel
theorem dL_law_253 : decode cL_law 253 = .ok (.iload_n 3, 1) := by decide +kernel
theorem dL_law_254 : decode cL_law 254 = .ok (.iconst 3, 1) := by decide +kernel
theorem dL_law_255 : decode cL_law 255 = .ok (.iadd, 1) := by decide +kernel
theorem dL_law_256 : decode cL_law 256 = .ok (.iaload, 1) := by decide +kernel
theorem dL_law_257 : decode cL_law 257 = .ok (.invokevirtual 18, 3) := by decide +kernel
theorem dL_law_260 : decode cL_law 260 = .ok (.aload_n 2, 1) := by decide +kernel
theorem dL_law_261 : decode cL_law 261 = .ok (.aload_n 0, 1) := by decide +kernel
theorem dL_law_262 : decode cL_law 262 = .ok (.iload_n 3, 1) := by decide +kernel
theorem dL_law_263 : decode cL_law 263 = .ok (.iconst 1, 1) := by decide +kernel
theorem dL_law_264 : decode cL_law 264 = .ok (.iadd, 1) := by decide +kernel
theorem dL_law_265 : decode cL_law 265 = .ok (.iaload, 1) := by decide +kernel
theorem dL_law_266 : decode cL_law 266 = .ok (.aload_n 0, 1) := by decide +kernel
theorem dL_law_267 : decode cL_law 267 = .ok (.iload_n 3, 1) := by decide +kernel
theorem dL_law_268 : decode cL_law 268 = .ok (.iconst 2, 1) := by decide +kernel
theorem dL_law_269 : decode cL_law 269 = .ok (.iadd, 1) := by decide +kernel
theorem dL_law_270 : decode cL_law 270 = .ok (.iaload, 1) := by decide +kernel
theorem dL_law_271 : decode cL_law 271 = .ok (.aload_n 0, 1) := by decide +kernel
theorem dL_law_272 : decode cL_law 272 = .ok (.iload_n 3, 1) := by decide +kernel
theorem dL_law_273 : decode cL_law 273 = .ok (.iconst 3, 1) := by decide +kernel
theorem dL_law_274 : decode cL_law 274 = .ok (.iadd, 1) := by decide +kernel
theorem dL_law_275 : decode cL_law 275 = .ok (.iaload, 1) := by decide +kernel
theorem dL_law_276 : decode cL_law 276 = .ok (.invokevirtual 22, 3) := by decide +kernel
theorem dL_law_279 : decode cL_law 279 = .ok (.if_icmp .eq 1022, 3) := by decide +kernel
theorem dL_law_282 : decode cL_law 282 = .ok (.iconst 0, 1) := by decide +kernel
theorem dL_law_283 : decode cL_law 283 = .ok (.ireturn, 1) := by decide +kernel
theorem dL_law_284 : decode cL_law 284 = .ok (.aload_n 1, 1) := by decide +kernel
theorem dL_law_285 : decode cL_law 285 = .ok (.aload_n 0, 1) := by decide +kernel
theorem dL_law_286 : decode cL_law 286 = .ok (.iload_n 3, 1) := by decide +kernel
theorem dL_law_287 : decode cL_law 287 = .ok (.iconst 1, 1) := by decide +kernel
theorem dL_law_288 : decode cL_law 288 = .ok (.iadd, 1) := by decide +kernel
theorem dL_law_289 : decode cL_law 289 = .ok (.iaload, 1) := by decide +kernel
theorem dL_law_290 : decode cL_law 290 = .ok (.aload_n 0, 1) := by decide +kernel
theorem dL_law_291 : decode cL_law 291 = .ok (.iload_n 3, 1) := by decide +kernel
theorem dL_law_292 : decode cL_law 292 = .ok (.iconst 2, 1) := by decide +kernel
theorem dL_law_293 : decode cL_law 293 = .ok (.iadd, 1) := by decide +kernel
theorem dL_law_294 : decode cL_law 294 = .ok (.iaload, 1) := by decide +kernel
theorem dL_law_295 : decode cL_law 295 = .ok (.invokevirtual 23, 3) := by decide +kernel
theorem dL_law_298 : decode cL_law 298 = .ok (.aload_n 2, 1) := by decide +kernel
theorem dL_law_299 : decode cL_law 299 = .ok (.aload_n 0, 1) := by decide +kernel
theorem dL_law_300 : decode cL_law 300 = .ok (.iload_n 3, 1) := by decide +kernel
theorem dL_law_301 : decode cL_law 301 = .ok (.iconst 1, 1) := by decide +kernel
theorem dL_law_302 : decode cL_law 302 = .ok (.iadd, 1) := by decide +kernel
theorem dL_law_303 : decode cL_law 303 = .ok (.iaload, 1) := by decide +kernel
theorem dL_law_304 : decode cL_law 304 = .ok (.aload_n 0, 1) := by decide +kernel
theorem dL_law_305 : decode cL_law 305 = .ok (.iload_n 3, 1) := by decide +kernel
theorem dL_law_306 : decode cL_law 306 = .ok (.iconst 2, 1) := by decide +kernel
theorem dL_law_307 : decode cL_law 307 = .ok (.iadd, 1) := by decide +kernel
theorem dL_law_308 : decode cL_law 308 = .ok (.iaload, 1) := by decide +kernel
theorem dL_law_309 : decode cL_law 309 = .ok (.invokevirtual 26, 3) := by decide +kernel
theorem dL_law_312 : decode cL_law 312 = .ok (.if_icmp .eq 989, 3) := by decide +kernel
theorem dL_law_315 : decode cL_law 315 = .ok (.iconst 0, 1) := by decide +kernel
theorem dL_law_316 : decode cL_law 316 = .ok (.ireturn, 1) := by decide +kernel
theorem dL_law_317 : decode cL_law 317 = .ok (.aload_n 1, 1) := by decide +kernel
theorem dL_law_318 : decode cL_law 318 = .ok (.aload_n 0, 1) := by decide +kernel
theorem dL_law_319 : decode cL_law 319 = .ok (.iload_n 3, 1) := by decide +kernel
theorem dL_law_320 : decode cL_law 320 = .ok (.iconst 1, 1) := by decide +kernel
theorem dL_law_321 : decode cL_law 321 = .ok (.iadd, 1) := by decide +kernel
theorem dL_law_322 : decode cL_law 322 = .ok (.iaload, 1) := by decide +kernel
theorem dL_law_323 : decode cL_law 323 = .ok (.invokevirtual 27, 3) := by decide +kernel
theorem dL_law_326 : decode cL_law 326 = .ok (.aload_n 2, 1) := by decide +kernel
theorem dL_law_327 : decode cL_law 327 = .ok (.aload_n 0, 1) := by decide +kernel
theorem dL_law_328 : decode cL_law 328 = .ok (.iload_n 3, 1) := by decide +kernel
theorem dL_law_329 : decode cL_law 329 = .ok (.iconst 1, 1) := by decide +kernel
theorem dL_law_330 : decode cL_law 330 = .ok (.iadd, 1) := by decide +kernel
theorem dL_law_331 : decode cL_law 331 = .ok (.iaload, 1) := by decide +kernel
theorem dL_law_332 : decode cL_law 332 = .ok (.invokevirtual 31, 3) := by decide +kernel
theorem dL_law_335 : decode cL_law 335 = .ok (.if_icmp .eq 966, 3) := by decide +kernel
theorem dL_law_338 : decode cL_law 338 = .ok (.iconst 0, 1) := by decide +kernel
theorem dL_law_339 : decode cL_law 339 = .ok (.ireturn, 1) := by decide +kernel
theorem dL_law_340 : decode cL_law 340 = .ok (.aload_n 1, 1) := by decide +kernel
theorem dL_law_341 : decode cL_law 341 = .ok (.aload_n 0, 1) := by decide +kernel
theorem dL_law_342 : decode cL_law 342 = .ok (.iload_n 3, 1) := by decide +kernel
theorem dL_law_343 : decode cL_law 343 = .ok (.iconst 1, 1) := by decide +kernel
theorem dL_law_344 : decode cL_law 344 = .ok (.iadd, 1) := by decide +kernel
theorem dL_law_345 : decode cL_law 345 = .ok (.iaload, 1) := by decide +kernel
theorem dL_law_346 : decode cL_law 346 = .ok (.aload_n 0, 1) := by decide +kernel
theorem dL_law_347 : decode cL_law 347 = .ok (.iload_n 3, 1) := by decide +kernel
theorem dL_law_348 : decode cL_law 348 = .ok (.iconst 2, 1) := by decide +kernel
theorem dL_law_349 : decode cL_law 349 = .ok (.iadd, 1) := by decide +kernel
theorem dL_law_350 : decode cL_law 350 = .ok (.iaload, 1) := by decide +kernel
theorem dL_law_351 : decode cL_law 351 = .ok (.aload_n 0, 1) := by decide +kernel
theorem dL_law_352 : decode cL_law 352 = .ok (.iload_n 3, 1) := by decide +kernel
theorem dL_law_353 : decode cL_law 353 = .ok (.iconst 3, 1) := by decide +kernel
theorem dL_law_354 : decode cL_law 354 = .ok (.iadd, 1) := by decide +kernel
theorem dL_law_355 : decode cL_law 355 = .ok (.iaload, 1) := by decide +kernel
theorem dL_law_356 : decode cL_law 356 = .ok (.aload_n 0, 1) := by decide +kernel
theorem dL_law_357 : decode cL_law 357 = .ok (.iload_n 3, 1) := by decide +kernel
theorem dL_law_358 : decode cL_law 358 = .ok (.iconst 4, 1) := by decide +kernel
theorem dL_law_359 : decode cL_law 359 = .ok (.iadd, 1) := by decide +kernel
theorem dL_law_360 : decode cL_law 360 = .ok (.iaload, 1) := by decide +kernel
theorem dL_law_361 : decode cL_law 361 = .ok (.aload_n 0, 1) := by decide +kernel
theorem dL_law_362 : decode cL_law 362 = .ok (.iload_n 3, 1) := by decide +kernel
theorem dL_law_363 : decode cL_law 363 = .ok (.iconst 5, 1) := by decide +kernel
theorem dL_law_364 : decode cL_law 364 = .ok (.iadd, 1) := by decide +kernel
theorem dL_law_365 : decode cL_law 365 = .ok (.iaload, 1) := by decide +kernel
theorem dL_law_366 : decode cL_law 366 = .ok (.invokevirtual 32, 3) := by decide +kernel
theorem dL_law_369 : decode cL_law 369 = .ok (.aload_n 2, 1) := by decide +kernel
theorem dL_law_370 : decode cL_law 370 = .ok (.aload_n 0, 1) := by decide +kernel
theorem dL_law_371 : decode cL_law 371 = .ok (.iload_n 3, 1) := by decide +kernel
theorem dL_law_372 : decode cL_law 372 = .ok (.iconst 1, 1) := by decide +kernel
theorem dL_law_373 : decode cL_law 373 = .ok (.iadd, 1) := by decide +kernel
theorem dL_law_374 : decode cL_law 374 = .ok (.iaload, 1) := by decide +kernel
theorem dL_law_375 : decode cL_law 375 = .ok (.aload_n 0, 1) := by decide +kernel
theorem dL_law_376 : decode cL_law 376 = .ok (.iload_n 3, 1) := by decide +kernel
theorem dL_law_377 : decode cL_law 377 = .ok (.iconst 2, 1) := by decide +kernel
theorem dL_law_378 : decode cL_law 378 = .ok (.iadd, 1) := by decide +kernel
theorem dL_law_379 : decode cL_law 379 = .ok (.iaload, 1) := by decide +kernel
theorem dL_law_380 : decode cL_law 380 = .ok (.aload_n 0, 1) := by decide +kernel
theorem dL_law_381 : decode cL_law 381 = .ok (.iload_n 3, 1) := by decide +kernel
theorem dL_law_382 : decode cL_law 382 = .ok (.iconst 3, 1) := by decide +kernel
theorem dL_law_383 : decode cL_law 383 = .ok (.iadd, 1) := by decide +kernel
theorem dL_law_384 : decode cL_law 384 = .ok (.iaload, 1) := by decide +kernel
theorem dL_law_385 : decode cL_law 385 = .ok (.aload_n 0, 1) := by decide +kernel
theorem dL_law_386 : decode cL_law 386 = .ok (.iload_n 3, 1) := by decide +kernel
theorem dL_law_387 : decode cL_law 387 = .ok (.iconst 4, 1) := by decide +kernel
theorem dL_law_388 : decode cL_law 388 = .ok (.iadd, 1) := by decide +kernel
theorem dL_law_389 : decode cL_law 389 = .ok (.iaload, 1) := by decide +kernel
theorem dL_law_390 : decode cL_law 390 = .ok (.aload_n 0, 1) := by decide +kernel
theorem dL_law_391 : decode cL_law 391 = .ok (.iload_n 3, 1) := by decide +kernel
theorem dL_law_392 : decode cL_law 392 = .ok (.iconst 5, 1) := by decide +kernel
theorem dL_law_393 : decode cL_law 393 = .ok (.iadd, 1) := by decide +kernel
theorem dL_law_394 : decode cL_law 394 = .ok (.iaload, 1) := by decide +kernel
theorem dL_law_395 : decode cL_law 395 = .ok (.invokevirtual 36, 3) := by decide +kernel
theorem dL_law_398 : decode cL_law 398 = .ok (.if_icmp .eq 903, 3) := by decide +kernel
theorem dL_law_401 : decode cL_law 401 = .ok (.iconst 0, 1) := by decide +kernel
theorem dL_law_402 : decode cL_law 402 = .ok (.ireturn, 1) := by decide +kernel
theorem dL_law_403 : decode cL_law 403 = .ok (.aload_n 1, 1) := by decide +kernel
theorem dL_law_404 : decode cL_law 404 = .ok (.aload_n 0, 1) := by decide +kernel
theorem dL_law_405 : decode cL_law 405 = .ok (.iload_n 3, 1) := by decide +kernel
theorem dL_law_406 : decode cL_law 406 = .ok (.iconst 1, 1) := by decide +kernel
theorem dL_law_407 : decode cL_law 407 = .ok (.iadd, 1) := by decide +kernel
theorem dL_law_408 : decode cL_law 408 = .ok (.iaload, 1) := by decide +kernel
theorem dL_law_409 : decode cL_law 409 = .ok (.invokevirtual 37, 3) := by decide +kernel
theorem dL_law_412 : decode cL_law 412 = .ok (.aload_n 2, 1) := by decide +kernel
theorem dL_law_413 : decode cL_law 413 = .ok (.aload_n 0, 1) := by decide +kernel
theorem dL_law_414 : decode cL_law 414 = .ok (.iload_n 3, 1) := by decide +kernel
theorem dL_law_415 : decode cL_law 415 = .ok (.iconst 1, 1) := by decide +kernel
theorem dL_law_416 : decode cL_law 416 = .ok (.iadd, 1) := by decide +kernel
theorem dL_law_417 : decode cL_law 417 = .ok (.iaload, 1) := by decide +kernel
theorem dL_law_418 : decode cL_law 418 = .ok (.invokevirtual 40, 3) := by decide +kernel
theorem dL_law_421 : decode cL_law 421 = .ok (.if_icmp .eq 880, 3) := by decide +kernel
theorem dL_law_424 : decode cL_law 424 = .ok (.iconst 0, 1) := by decide +kernel
theorem dL_law_425 : decode cL_law 425 = .ok (.ireturn, 1) := by decide +kernel
theorem dL_law_426 : decode cL_law 426 = .ok (.aload_n 1, 1) := by decide +kernel
theorem dL_law_427 : decode cL_law 427 = .ok (.aload_n 0, 1) := by decide +kernel
theorem dL_law_428 : decode cL_law 428 = .ok (.iload_n 3, 1) := by decide +kernel
theorem dL_law_429 : decode cL_law 429 = .ok (.iconst 1, 1) := by decide +kernel
theorem dL_law_430 : decode cL_law 430 = .ok (.iadd, 1) := by decide +kernel
theorem dL_law_431 : decode cL_law 431 = .ok (.iaload, 1) := by decide +kernel
theorem dL_law_432 : decode cL_law 432 = .ok (.aload_n 0, 1) := by decide +kernel
theorem dL_law_433 : decode cL_law 433 = .ok (.iload_n 3, 1) := by decide +kernel
theorem dL_law_434 : decode cL_law 434 = .ok (.iconst 2, 1) := by decide +kernel
theorem dL_law_435 : decode cL_law 435 = .ok (.iadd, 1) := by decide +kernel
theorem dL_law_436 : decode cL_law 436 = .ok (.iaload, 1) := by decide +kernel
theorem dL_law_437 : decode cL_law 437 = .ok (.invokevirtual 41, 3) := by decide +kernel
theorem dL_law_440 : decode cL_law 440 = .ok (.aload_n 2, 1) := by decide +kernel
theorem dL_law_441 : decode cL_law 441 = .ok (.aload_n 0, 1) := by decide +kernel
theorem dL_law_442 : decode cL_law 442 = .ok (.iload_n 3, 1) := by decide +kernel
theorem dL_law_443 : decode cL_law 443 = .ok (.iconst 1, 1) := by decide +kernel
theorem dL_law_444 : decode cL_law 444 = .ok (.iadd, 1) := by decide +kernel
theorem dL_law_445 : decode cL_law 445 = .ok (.iaload, 1) := by decide +kernel
theorem dL_law_446 : decode cL_law 446 = .ok (.aload_n 0, 1) := by decide +kernel
theorem dL_law_447 : decode cL_law 447 = .ok (.iload_n 3, 1) := by decide +kernel
theorem dL_law_448 : decode cL_law 448 = .ok (.iconst 2, 1) := by decide +kernel
theorem dL_law_449 : decode cL_law 449 = .ok (.iadd, 1) := by decide +kernel
theorem dL_law_450 : decode cL_law 450 = .ok (.iaload, 1) := by decide +kernel
theorem dL_law_451 : decode cL_law 451 = .ok (.invokevirtual 44, 3) := by decide +kernel
theorem dL_law_454 : decode cL_law 454 = .ok (.if_icmp .eq 847, 3) := by decide +kernel
theorem dL_law_457 : decode cL_law 457 = .ok (.iconst 0, 1) := by decide +kernel
theorem dL_law_458 : decode cL_law 458 = .ok (.ireturn, 1) := by decide +kernel
theorem dL_law_459 : decode cL_law 459 = .ok (.aload_n 1, 1) := by decide +kernel
theorem dL_law_460 : decode cL_law 460 = .ok (.aload_n 0, 1) := by decide +kernel
theorem dL_law_461 : decode cL_law 461 = .ok (.iload_n 3, 1) := by decide +kernel
theorem dL_law_462 : decode cL_law 462 = .ok (.iconst 1, 1) := by decide +kernel
theorem dL_law_463 : decode cL_law 463 = .ok (.iadd, 1) := by decide +kernel
theorem dL_law_464 : decode cL_law 464 = .ok (.iaload, 1) := by decide +kernel
theorem dL_law_465 : decode cL_law 465 = .ok (.aload_n 0, 1) := by decide +kernel
theorem dL_law_466 : decode cL_law 466 = .ok (.iload_n 3, 1) := by decide +kernel
theorem dL_law_467 : decode cL_law 467 = .ok (.iconst 2, 1) := by decide +kernel
theorem dL_law_468 : decode cL_law 468 = .ok (.iadd, 1) := by decide +kernel
theorem dL_law_469 : decode cL_law 469 = .ok (.iaload, 1) := by decide +kernel
theorem dL_law_470 : decode cL_law 470 = .ok (.aload_n 0, 1) := by decide +kernel
theorem dL_law_471 : decode cL_law 471 = .ok (.iload_n 3, 1) := by decide +kernel
theorem dL_law_472 : decode cL_law 472 = .ok (.iconst 3, 1) := by decide +kernel
theorem dL_law_473 : decode cL_law 473 = .ok (.iadd, 1) := by decide +kernel
theorem dL_law_474 : decode cL_law 474 = .ok (.iaload, 1) := by decide +kernel
theorem dL_law_475 : decode cL_law 475 = .ok (.invokevirtual 45, 3) := by decide +kernel
theorem dL_law_478 : decode cL_law 478 = .ok (.aload_n 2, 1) := by decide +kernel
theorem dL_law_479 : decode cL_law 479 = .ok (.aload_n 0, 1) := by decide +kernel
theorem dL_law_480 : decode cL_law 480 = .ok (.iload_n 3, 1) := by decide +kernel
theorem dL_law_481 : decode cL_law 481 = .ok (.iconst 1, 1) := by decide +kernel
theorem dL_law_482 : decode cL_law 482 = .ok (.iadd, 1) := by decide +kernel
theorem dL_law_483 : decode cL_law 483 = .ok (.iaload, 1) := by decide +kernel
theorem dL_law_484 : decode cL_law 484 = .ok (.aload_n 0, 1) := by decide +kernel
theorem dL_law_485 : decode cL_law 485 = .ok (.iload_n 3, 1) := by decide +kernel
theorem dL_law_486 : decode cL_law 486 = .ok (.iconst 2, 1) := by decide +kernel
theorem dL_law_487 : decode cL_law 487 = .ok (.iadd, 1) := by decide +kernel
theorem dL_law_488 : decode cL_law 488 = .ok (.iaload, 1) := by decide +kernel
theorem dL_law_489 : decode cL_law 489 = .ok (.aload_n 0, 1) := by decide +kernel
theorem dL_law_490 : decode cL_law 490 = .ok (.iload_n 3, 1) := by decide +kernel
theorem dL_law_491 : decode cL_law 491 = .ok (.iconst 3, 1) := by decide +kernel
theorem dL_law_492 : decode cL_law 492 = .ok (.iadd, 1) := by decide +kernel
theorem dL_law_493 : decode cL_law 493 = .ok (.iaload, 1) := by decide +kernel
theorem dL_law_494 : decode cL_law 494 = .ok (.invokevirtual 48, 3) := by decide +kernel
theorem dL_law_497 : decode cL_law 497 = .ok (.if_icmp .eq 804, 3) := by decide +kernel
theorem dL_law_500 : decode cL_law 500 = .ok (.iconst 0, 1) := by decide +kernel
theorem dL_law_501 : decode cL_law 501 = .ok (.ireturn, 1) := by decide +kernel
theorem dL_law_502 : decode cL_law 502 = .ok (.aload_n 1, 1) := by decide +kernel
theorem dL_law_503 : decode cL_law 503 = .ok (.aload_n 0, 1) := by decide +kernel
theorem dL_law_504 : decode cL_law 504 = .ok (.iload_n 3, 1) := by decide +kernel
theorem dL_law_505 : decode cL_law 505 = .ok (.iconst 1, 1) := by decide +kernel
theorem dL_law_506 : decode cL_law 506 = .ok (.iadd, 1) := by decide +kernel
theorem dL_law_507 : decode cL_law 507 = .ok (.iaload, 1) := by decide +kernel
theorem dL_law_508 : decode cL_law 508 = .ok (.invokevirtual 49, 3) := by decide +kernel
theorem dL_law_511 : decode cL_law 511 = .ok (.aload_n 2, 1) := by decide +kernel
theorem dL_law_512 : decode cL_law 512 = .ok (.aload_n 0, 1) := by decide +kernel
theorem dL_law_513 : decode cL_law 513 = .ok (.iload_n 3, 1) := by decide +kernel
theorem dL_law_514 : decode cL_law 514 = .ok (.iconst 1, 1) := by decide +kernel
theorem dL_law_515 : decode cL_law 515 = .ok (.iadd, 1) := by decide +kernel
theorem dL_law_516 : decode cL_law 516 = .ok (.iaload, 1) := by decide +kernel
theorem dL_law_517 : decode cL_law 517 = .ok (.invokevirtual 52, 3) := by decide +kernel
theorem dL_law_520 : decode cL_law 520 = .ok (.if_icmp .eq 781, 3) := by decide +kernel
theorem dL_law_523 : decode cL_law 523 = .ok (.iconst 0, 1) := by decide +kernel
theorem dL_law_524 : decode cL_law 524 = .ok (.ireturn, 1) := by decide +kernel
theorem dL_law_525 : decode cL_law 525 = .ok (.aload_n 1, 1) := by decide +kernel
theorem dL_law_526 : decode cL_law 526 = .ok (.aload_n 0, 1) := by decide +kernel
theorem dL_law_527 : decode cL_law 527 = .ok (.iload_n 3, 1) := by decide +kernel
theorem dL_law_528 : decode cL_law 528 = .ok (.iconst 1, 1) := by decide +kernel
theorem dL_law_529 : decode cL_law 529 = .ok (.iadd, 1) := by decide +kernel
theorem dL_law_530 : decode cL_law 530 = .ok (.iaload, 1) := by decide +kernel
theorem dL_law_531 : decode cL_law 531 = .ok (.invokevirtual 53, 3) := by decide +kernel
theorem dL_law_534 : decode cL_law 534 = .ok (.aload_n 2, 1) := by decide +kernel
theorem dL_law_535 : decode cL_law 535 = .ok (.aload_n 0, 1) := by decide +kernel
theorem dL_law_536 : decode cL_law 536 = .ok (.iload_n 3, 1) := by decide +kernel
theorem dL_law_537 : decode cL_law 537 = .ok (.iconst 1, 1) := by decide +kernel
theorem dL_law_538 : decode cL_law 538 = .ok (.iadd, 1) := by decide +kernel
theorem dL_law_539 : decode cL_law 539 = .ok (.iaload, 1) := by decide +kernel
theorem dL_law_540 : decode cL_law 540 = .ok (.invokevirtual 56, 3) := by decide +kernel
theorem dL_law_543 : decode cL_law 543 = .ok (.if_icmp .eq 758, 3) := by decide +kernel
theorem dL_law_546 : decode cL_law 546 = .ok (.iconst 0, 1) := by decide +kernel
theorem dL_law_547 : decode cL_law 547 = .ok (.ireturn, 1) := by decide +kernel
theorem dL_law_548 : decode cL_law 548 = .ok (.aload_n 1, 1) := by decide +kernel
theorem dL_law_549 : decode cL_law 549 = .ok (.aload_n 0, 1) := by decide +kernel
theorem dL_law_550 : decode cL_law 550 = .ok (.iload_n 3, 1) := by decide +kernel
theorem dL_law_551 : decode cL_law 551 = .ok (.iconst 1, 1) := by decide +kernel
theorem dL_law_552 : decode cL_law 552 = .ok (.iadd, 1) := by decide +kernel
theorem dL_law_553 : decode cL_law 553 = .ok (.iaload, 1) := by decide +kernel
theorem dL_law_554 : decode cL_law 554 = .ok (.aload_n 0, 1) := by decide +kernel
theorem dL_law_555 : decode cL_law 555 = .ok (.iload_n 3, 1) := by decide +kernel
theorem dL_law_556 : decode cL_law 556 = .ok (.iconst 2, 1) := by decide +kernel
theorem dL_law_557 : decode cL_law 557 = .ok (.iadd, 1) := by decide +kernel
theorem dL_law_558 : decode cL_law 558 = .ok (.iaload, 1) := by decide +kernel
theorem dL_law_559 : decode cL_law 559 = .ok (.invokevirtual 57, 3) := by decide +kernel
theorem dL_law_562 : decode cL_law 562 = .ok (.aload_n 2, 1) := by decide +kernel
theorem dL_law_563 : decode cL_law 563 = .ok (.aload_n 0, 1) := by decide +kernel
theorem dL_law_564 : decode cL_law 564 = .ok (.iload_n 3, 1) := by decide +kernel
theorem dL_law_565 : decode cL_law 565 = .ok (.iconst 1, 1) := by decide +kernel
theorem dL_law_566 : decode cL_law 566 = .ok (.iadd, 1) := by decide +kernel
theorem dL_law_567 : decode cL_law 567 = .ok (.iaload, 1) := by decide +kernel
theorem dL_law_568 : decode cL_law 568 = .ok (.aload_n 0, 1) := by decide +kernel
theorem dL_law_569 : decode cL_law 569 = .ok (.iload_n 3, 1) := by decide +kernel
theorem dL_law_570 : decode cL_law 570 = .ok (.iconst 2, 1) := by decide +kernel
theorem dL_law_571 : decode cL_law 571 = .ok (.iadd, 1) := by decide +kernel
theorem dL_law_572 : decode cL_law 572 = .ok (.iaload, 1) := by decide +kernel
theorem dL_law_573 : decode cL_law 573 = .ok (.invokevirtual 60, 3) := by decide +kernel
theorem dL_law_576 : decode cL_law 576 = .ok (.if_icmp .eq 725, 3) := by decide +kernel
theorem dL_law_579 : decode cL_law 579 = .ok (.iconst 0, 1) := by decide +kernel
theorem dL_law_580 : decode cL_law 580 = .ok (.ireturn, 1) := by decide +kernel
theorem dL_law_581 : decode cL_law 581 = .ok (.aload_n 1, 1) := by decide +kernel
theorem dL_law_582 : decode cL_law 582 = .ok (.aload_n 0, 1) := by decide +kernel
theorem dL_law_583 : decode cL_law 583 = .ok (.iload_n 3, 1) := by decide +kernel
theorem dL_law_584 : decode cL_law 584 = .ok (.iconst 1, 1) := by decide +kernel
theorem dL_law_585 : decode cL_law 585 = .ok (.iadd, 1) := by decide +kernel
theorem dL_law_586 : decode cL_law 586 = .ok (.iaload, 1) := by decide +kernel
theorem dL_law_587 : decode cL_law 587 = .ok (.aload_n 0, 1) := by decide +kernel
theorem dL_law_588 : decode cL_law 588 = .ok (.iload_n 3, 1) := by decide +kernel
theorem dL_law_589 : decode cL_law 589 = .ok (.iconst 2, 1) := by decide +kernel
theorem dL_law_590 : decode cL_law 590 = .ok (.iadd, 1) := by decide +kernel
theorem dL_law_591 : decode cL_law 591 = .ok (.iaload, 1) := by decide +kernel
theorem dL_law_592 : decode cL_law 592 = .ok (.invokevirtual 61, 3) := by decide +kernel
theorem dL_law_595 : decode cL_law 595 = .ok (.aload_n 2, 1) := by decide +kernel
theorem dL_law_596 : decode cL_law 596 = .ok (.aload_n 0, 1) := by decide +kernel
theorem dL_law_597 : decode cL_law 597 = .ok (.iload_n 3, 1) := by decide +kernel
theorem dL_law_598 : decode cL_law 598 = .ok (.iconst 1, 1) := by decide +kernel
theorem dL_law_599 : decode cL_law 599 = .ok (.iadd, 1) := by decide +kernel
theorem dL_law_600 : decode cL_law 600 = .ok (.iaload, 1) := by decide +kernel
theorem dL_law_601 : decode cL_law 601 = .ok (.aload_n 0, 1) := by decide +kernel
theorem dL_law_602 : decode cL_law 602 = .ok (.iload_n 3, 1) := by decide +kernel
theorem dL_law_603 : decode cL_law 603 = .ok (.iconst 2, 1) := by decide +kernel
theorem dL_law_604 : decode cL_law 604 = .ok (.iadd, 1) := by decide +kernel
theorem dL_law_605 : decode cL_law 605 = .ok (.iaload, 1) := by decide +kernel
theorem dL_law_606 : decode cL_law 606 = .ok (.invokevirtual 64, 3) := by decide +kernel
theorem dL_law_609 : decode cL_law 609 = .ok (.if_icmp .eq 692, 3) := by decide +kernel
theorem dL_law_612 : decode cL_law 612 = .ok (.iconst 0, 1) := by decide +kernel
theorem dL_law_613 : decode cL_law 613 = .ok (.ireturn, 1) := by decide +kernel
theorem dL_law_614 : decode cL_law 614 = .ok (.aload_n 1, 1) := by decide +kernel
theorem dL_law_615 : decode cL_law 615 = .ok (.aload_n 0, 1) := by decide +kernel
theorem dL_law_616 : decode cL_law 616 = .ok (.iload_n 3, 1) := by decide +kernel
theorem dL_law_617 : decode cL_law 617 = .ok (.iconst 1, 1) := by decide +kernel
theorem dL_law_618 : decode cL_law 618 = .ok (.iadd, 1) := by decide +kernel
theorem dL_law_619 : decode cL_law 619 = .ok (.iaload, 1) := by decide +kernel
theorem dL_law_620 : decode cL_law 620 = .ok (.invokevirtual 65, 3) := by decide +kernel
theorem dL_law_623 : decode cL_law 623 = .ok (.aload_n 2, 1) := by decide +kernel
theorem dL_law_624 : decode cL_law 624 = .ok (.aload_n 0, 1) := by decide +kernel
theorem dL_law_625 : decode cL_law 625 = .ok (.iload_n 3, 1) := by decide +kernel
theorem dL_law_626 : decode cL_law 626 = .ok (.iconst 1, 1) := by decide +kernel
theorem dL_law_627 : decode cL_law 627 = .ok (.iadd, 1) := by decide +kernel
theorem dL_law_628 : decode cL_law 628 = .ok (.iaload, 1) := by decide +kernel
theorem dL_law_629 : decode cL_law 629 = .ok (.invokevirtual 68, 3) := by decide +kernel
theorem dL_law_632 : decode cL_law 632 = .ok (.if_icmp .eq 669, 3) := by decide +kernel
theorem dL_law_635 : decode cL_law 635 = .ok (.iconst 0, 1) := by decide +kernel
theorem dL_law_636 : decode cL_law 636 = .ok (.ireturn, 1) := by decide +kernel
theorem dL_law_637 : decode cL_law 637 = .ok (.aload_n 1, 1) := by decide +kernel
theorem dL_law_638 : decode cL_law 638 = .ok (.invokevirtual 69, 3) := by decide +kernel
theorem dL_law_641 : decode cL_law 641 = .ok (.aload_n 2, 1) := by decide +kernel
theorem dL_law_642 : decode cL_law 642 = .ok (.invokevirtual 73, 3) := by decide +kernel
theorem dL_law_645 : decode cL_law 645 = .ok (.if_icmp .eq 656, 3) := by decide +kernel
theorem dL_law_648 : decode cL_law 648 = .ok (.iconst 0, 1) := by decide +kernel
theorem dL_law_649 : decode cL_law 649 = .ok (.ireturn, 1) := by decide +kernel
theorem dL_law_650 : decode cL_law 650 = .ok (.aload_n 1, 1) := by decide +kernel
theorem dL_law_651 : decode cL_law 651 = .ok (.aload_n 0, 1) := by decide +kernel
theorem dL_law_652 : decode cL_law 652 = .ok (.iload_n 3, 1) := by decide +kernel
theorem dL_law_653 : decode cL_law 653 = .ok (.iconst 1, 1) := by decide +kernel
theorem dL_law_654 : decode cL_law 654 = .ok (.iadd, 1) := by decide +kernel
theorem dL_law_655 : decode cL_law 655 = .ok (.iaload, 1) := by decide +kernel
theorem dL_law_656 : decode cL_law 656 = .ok (.aload_n 0, 1) := by decide +kernel
theorem dL_law_657 : decode cL_law 657 = .ok (.iload_n 3, 1) := by decide +kernel
theorem dL_law_658 : decode cL_law 658 = .ok (.iconst 2, 1) := by decide +kernel
theorem dL_law_659 : decode cL_law 659 = .ok (.iadd, 1) := by decide +kernel
theorem dL_law_660 : decode cL_law 660 = .ok (.iaload, 1) := by decide +kernel
theorem dL_law_661 : decode cL_law 661 = .ok (.invokevirtual 74, 3) := by decide +kernel
theorem dL_law_664 : decode cL_law 664 = .ok (.aload_n 2, 1) := by decide +kernel
theorem dL_law_665 : decode cL_law 665 = .ok (.aload_n 0, 1) := by decide +kernel
theorem dL_law_666 : decode cL_law 666 = .ok (.iload_n 3, 1) := by decide +kernel
theorem dL_law_667 : decode cL_law 667 = .ok (.iconst 1, 1) := by decide +kernel
theorem dL_law_668 : decode cL_law 668 = .ok (.iadd, 1) := by decide +kernel
theorem dL_law_669 : decode cL_law 669 = .ok (.iaload, 1) := by decide +kernel
theorem dL_law_670 : decode cL_law 670 = .ok (.aload_n 0, 1) := by decide +kernel
theorem dL_law_671 : decode cL_law 671 = .ok (.iload_n 3, 1) := by decide +kernel
theorem dL_law_672 : decode cL_law 672 = .ok (.iconst 2, 1) := by decide +kernel
theorem dL_law_673 : decode cL_law 673 = .ok (.iadd, 1) := by decide +kernel
theorem dL_law_674 : decode cL_law 674 = .ok (.iaload, 1) := by decide +kernel
theorem dL_law_675 : decode cL_law 675 = .ok (.invokevirtual 77, 3) := by decide +kernel
theorem dL_law_678 : decode cL_law 678 = .ok (.if_icmp .eq 623, 3) := by decide +kernel
theorem dL_law_681 : decode cL_law 681 = .ok (.iconst 0, 1) := by decide +kernel
theorem dL_law_682 : decode cL_law 682 = .ok (.ireturn, 1) := by decide +kernel
theorem dL_law_683 : decode cL_law 683 = .ok (.aload_n 1, 1) := by decide +kernel
theorem dL_law_684 : decode cL_law 684 = .ok (.aload_n 0, 1) := by decide +kernel
theorem dL_law_685 : decode cL_law 685 = .ok (.iload_n 3, 1) := by decide +kernel
theorem dL_law_686 : decode cL_law 686 = .ok (.iconst 1, 1) := by decide +kernel
theorem dL_law_687 : decode cL_law 687 = .ok (.iadd, 1) := by decide +kernel
theorem dL_law_688 : decode cL_law 688 = .ok (.iaload, 1) := by decide +kernel
theorem dL_law_689 : decode cL_law 689 = .ok (.invokevirtual 78, 3) := by decide +kernel
theorem dL_law_692 : decode cL_law 692 = .ok (.aload_n 2, 1) := by decide +kernel
theorem dL_law_693 : decode cL_law 693 = .ok (.aload_n 0, 1) := by decide +kernel
theorem dL_law_694 : decode cL_law 694 = .ok (.iload_n 3, 1) := by decide +kernel
theorem dL_law_695 : decode cL_law 695 = .ok (.iconst 1, 1) := by decide +kernel
theorem dL_law_696 : decode cL_law 696 = .ok (.iadd, 1) := by decide +kernel
theorem dL_law_697 : decode cL_law 697 = .ok (.iaload, 1) := by decide +kernel
theorem dL_law_698 : decode cL_law 698 = .ok (.invokevirtual 81, 3) := by decide +kernel
theorem dL_law_701 : decode cL_law 701 = .ok (.if_icmp .eq 600, 3) := by decide +kernel
theorem dL_law_704 : decode cL_law 704 = .ok (.iconst 0, 1) := by decide +kernel
theorem dL_law_705 : decode cL_law 705 = .ok (.ireturn, 1) := by decide +kernel
theorem dL_law_706 : decode cL_law 706 = .ok (.aload_n 1, 1) := by decide +kernel
theorem dL_law_707 : decode cL_law 707 = .ok (.aload_n 0, 1) := by decide +kernel
theorem dL_law_708 : decode cL_law 708 = .ok (.iload_n 3, 1) := by decide +kernel
theorem dL_law_709 : decode cL_law 709 = .ok (.iconst 1, 1) := by decide +kernel
theorem dL_law_710 : decode cL_law 710 = .ok (.iadd, 1) := by decide +kernel
theorem dL_law_711 : decode cL_law 711 = .ok (.iaload, 1) := by decide +kernel
theorem dL_law_712 : decode cL_law 712 = .ok (.invokevirtual 82, 3) := by decide +kernel
theorem dL_law_715 : decode cL_law 715 = .ok (.aload_n 2, 1) := by decide +kernel
theorem dL_law_716 : decode cL_law 716 = .ok (.aload_n 0, 1) := by decide +kernel
theorem dL_law_717 : decode cL_law 717 = .ok (.iload_n 3, 1) := by decide +kernel
theorem dL_law_718 : decode cL_law 718 = .ok (.iconst 1, 1) := by decide +kernel
theorem dL_law_719 : decode cL_law 719 = .ok (.iadd, 1) := by decide +kernel
theorem dL_law_720 : decode cL_law 720 = .ok (.iaload, 1) := by decide +kernel
theorem dL_law_721 : decode cL_law 721 = .ok (.invokevirtual 85, 3) := by decide +kernel
theorem dL_law_724 : decode cL_law 724 = .ok (.if_icmp .eq 577, 3) := by decide +kernel
theorem dL_law_727 : decode cL_law 727 = .ok (.iconst 0, 1) := by decide +kernel
theorem dL_law_728 : decode cL_law 728 = .ok (.ireturn, 1) := by decide +kernel
theorem dL_law_729 : decode cL_law 729 = .ok (.aload_n 1, 1) := by decide +kernel
theorem dL_law_730 : decode cL_law 730 = .ok (.aload_n 0, 1) := by decide +kernel
theorem dL_law_731 : decode cL_law 731 = .ok (.iload_n 3, 1) := by decide +kernel
theorem dL_law_732 : decode cL_law 732 = .ok (.iconst 1, 1) := by decide +kernel
theorem dL_law_733 : decode cL_law 733 = .ok (.iadd, 1) := by decide +kernel
theorem dL_law_734 : decode cL_law 734 = .ok (.iaload, 1) := by decide +kernel
theorem dL_law_735 : decode cL_law 735 = .ok (.invokevirtual 86, 3) := by decide +kernel
theorem dL_law_738 : decode cL_law 738 = .ok (.aload_n 2, 1) := by decide +kernel
theorem dL_law_739 : decode cL_law 739 = .ok (.aload_n 0, 1) := by decide +kernel
theorem dL_law_740 : decode cL_law 740 = .ok (.iload_n 3, 1) := by decide +kernel
theorem dL_law_741 : decode cL_law 741 = .ok (.iconst 1, 1) := by decide +kernel
theorem dL_law_742 : decode cL_law 742 = .ok (.iadd, 1) := by decide +kernel
theorem dL_law_743 : decode cL_law 743 = .ok (.iaload, 1) := by decide +kernel
theorem dL_law_744 : decode cL_law 744 = .ok (.invokevirtual 89, 3) := by decide +kernel
theorem dL_law_747 : decode cL_law 747 = .ok (.if_icmp .eq 554, 3) := by decide +kernel
theorem dL_law_750 : decode cL_law 750 = .ok (.iconst 0, 1) := by decide +kernel
theorem dL_law_751 : decode cL_law 751 = .ok (.ireturn, 1) := by decide +kernel
theorem dL_law_752 : decode cL_law 752 = .ok (.aload_n 1, 1) := by decide +kernel
theorem dL_law_753 : decode cL_law 753 = .ok (.aload_n 0, 1) := by decide +kernel
theorem dL_law_754 : decode cL_law 754 = .ok (.iload_n 3, 1) := by decide +kernel
theorem dL_law_755 : decode cL_law 755 = .ok (.iconst 1, 1) := by decide +kernel
theorem dL_law_756 : decode cL_law 756 = .ok (.iadd, 1) := by decide +kernel
theorem dL_law_757 : decode cL_law 757 = .ok (.iaload, 1) := by decide +kernel
theorem dL_law_758 : decode cL_law 758 = .ok (.aload_n 0, 1) := by decide +kernel
theorem dL_law_759 : decode cL_law 759 = .ok (.iload_n 3, 1) := by decide +kernel
theorem dL_law_760 : decode cL_law 760 = .ok (.iconst 2, 1) := by decide +kernel
theorem dL_law_761 : decode cL_law 761 = .ok (.iadd, 1) := by decide +kernel
theorem dL_law_762 : decode cL_law 762 = .ok (.iaload, 1) := by decide +kernel
theorem dL_law_763 : decode cL_law 763 = .ok (.invokevirtual 90, 3) := by decide +kernel
theorem dL_law_766 : decode cL_law 766 = .ok (.aload_n 2, 1) := by decide +kernel
theorem dL_law_767 : decode cL_law 767 = .ok (.aload_n 0, 1) := by decide +kernel
theorem dL_law_768 : decode cL_law 768 = .ok (.iload_n 3, 1) := by decide +kernel
theorem dL_law_769 : decode cL_law 769 = .ok (.iconst 1, 1) := by decide +kernel
theorem dL_law_770 : decode cL_law 770 = .ok (.iadd, 1) := by decide +kernel
theorem dL_law_771 : decode cL_law 771 = .ok (.iaload, 1) := by decide +kernel
theorem dL_law_772 : decode cL_law 772 = .ok (.aload_n 0, 1) := by decide +kernel
theorem dL_law_773 : decode cL_law 773 = .ok (.iload_n 3, 1) := by decide +kernel
theorem dL_law_774 : decode cL_law 774 = .ok (.iconst 2, 1) := by decide +kernel
theorem dL_law_775 : decode cL_law 775 = .ok (.iadd, 1) := by decide +kernel
theorem dL_law_776 : decode cL_law 776 = .ok (.iaload, 1) := by decide +kernel
theorem dL_law_777 : decode cL_law 777 = .ok (.invokevirtual 93, 3) := by decide +kernel
theorem dL_law_780 : decode cL_law 780 = .ok (.if_icmp .eq 521, 3) := by decide +kernel
theorem dL_law_783 : decode cL_law 783 = .ok (.iconst 0, 1) := by decide +kernel
theorem dL_law_784 : decode cL_law 784 = .ok (.ireturn, 1) := by decide +kernel
theorem dL_law_785 : decode cL_law 785 = .ok (.aload_n 1, 1) := by decide +kernel
theorem dL_law_786 : decode cL_law 786 = .ok (.aload_n 0, 1) := by decide +kernel
theorem dL_law_787 : decode cL_law 787 = .ok (.iload_n 3, 1) := by decide +kernel
theorem dL_law_788 : decode cL_law 788 = .ok (.iconst 1, 1) := by decide +kernel
theorem dL_law_789 : decode cL_law 789 = .ok (.iadd, 1) := by decide +kernel
theorem dL_law_790 : decode cL_law 790 = .ok (.iaload, 1) := by decide +kernel
theorem dL_law_791 : decode cL_law 791 = .ok (.aload_n 0, 1) := by decide +kernel
theorem dL_law_792 : decode cL_law 792 = .ok (.iload_n 3, 1) := by decide +kernel
theorem dL_law_793 : decode cL_law 793 = .ok (.iconst 2, 1) := by decide +kernel
theorem dL_law_794 : decode cL_law 794 = .ok (.iadd, 1) := by decide +kernel
theorem dL_law_795 : decode cL_law 795 = .ok (.iaload, 1) := by decide +kernel
theorem dL_law_796 : decode cL_law 796 = .ok (.aload_n 0, 1) := by decide +kernel
theorem dL_law_797 : decode cL_law 797 = .ok (.iload_n 3, 1) := by decide +kernel
theorem dL_law_798 : decode cL_law 798 = .ok (.iconst 3, 1) := by decide +kernel
theorem dL_law_799 : decode cL_law 799 = .ok (.iadd, 1) := by decide +kernel
theorem dL_law_800 : decode cL_law 800 = .ok (.iaload, 1) := by decide +kernel
theorem dL_law_801 : decode cL_law 801 = .ok (.invokevirtual 94, 3) := by decide +kernel
theorem dL_law_804 : decode cL_law 804 = .ok (.aload_n 2, 1) := by decide +kernel
theorem dL_law_805 : decode cL_law 805 = .ok (.aload_n 0, 1) := by decide +kernel
theorem dL_law_806 : decode cL_law 806 = .ok (.iload_n 3, 1) := by decide +kernel
theorem dL_law_807 : decode cL_law 807 = .ok (.iconst 1, 1) := by decide +kernel
theorem dL_law_808 : decode cL_law 808 = .ok (.iadd, 1) := by decide +kernel
theorem dL_law_809 : decode cL_law 809 = .ok (.iaload, 1) := by decide +kernel
theorem dL_law_810 : decode cL_law 810 = .ok (.aload_n 0, 1) := by decide +kernel
theorem dL_law_811 : decode cL_law 811 = .ok (.iload_n 3, 1) := by decide +kernel
theorem dL_law_812 : decode cL_law 812 = .ok (.iconst 2, 1) := by decide +kernel
theorem dL_law_813 : decode cL_law 813 = .ok (.iadd, 1) := by decide +kernel
theorem dL_law_814 : decode cL_law 814 = .ok (.iaload, 1) := by decide +kernel
theorem dL_law_815 : decode cL_law 815 = .ok (.aload_n 0, 1) := by decide +kernel
theorem dL_law_816 : decode cL_law 816 = .ok (.iload_n 3, 1) := by decide +kernel
theorem dL_law_817 : decode cL_law 817 = .ok (.iconst 3, 1) := by decide +kernel
theorem dL_law_818 : decode cL_law 818 = .ok (.iadd, 1) := by decide +kernel
theorem dL_law_819 : decode cL_law 819 = .ok (.iaload, 1) := by decide +kernel
theorem dL_law_820 : decode cL_law 820 = .ok (.invokevirtual 97, 3) := by decide +kernel
theorem dL_law_823 : decode cL_law 823 = .ok (.if_icmp .eq 478, 3) := by decide +kernel
theorem dL_law_826 : decode cL_law 826 = .ok (.iconst 0, 1) := by decide +kernel
theorem dL_law_827 : decode cL_law 827 = .ok (.ireturn, 1) := by decide +kernel
theorem dL_law_828 : decode cL_law 828 = .ok (.aload_n 1, 1) := by decide +kernel
theorem dL_law_829 : decode cL_law 829 = .ok (.aload_n 0, 1) := by decide +kernel
theorem dL_law_830 : decode cL_law 830 = .ok (.iload_n 3, 1) := by decide +kernel
theorem dL_law_831 : decode cL_law 831 = .ok (.iconst 1, 1) := by decide +kernel
theorem dL_law_832 : decode cL_law 832 = .ok (.iadd, 1) := by decide +kernel
theorem dL_law_833 : decode cL_law 833 = .ok (.iaload, 1) := by decide +kernel
theorem dL_law_834 : decode cL_law 834 = .ok (.aload_n 0, 1) := by decide +kernel
theorem dL_law_835 : decode cL_law 835 = .ok (.iload_n 3, 1) := by decide +kernel
theorem dL_law_836 : decode cL_law 836 = .ok (.iconst 2, 1) := by decide +kernel
theorem dL_law_837 : decode cL_law 837 = .ok (.iadd, 1) := by decide +kernel
theorem dL_law_838 : decode cL_law 838 = .ok (.iaload, 1) := by decide +kernel
theorem dL_law_839 : decode cL_law 839 = .ok (.invokevirtual 98, 3) := by decide +kernel
theorem dL_law_842 : decode cL_law 842 = .ok (.aload_n 2, 1) := by decide +kernel
theorem dL_law_843 : decode cL_law 843 = .ok (.aload_n 0, 1) := by decide +kernel
theorem dL_law_844 : decode cL_law 844 = .ok (.iload_n 3, 1) := by decide +kernel
theorem dL_law_845 : decode cL_law 845 = .ok (.iconst 1, 1) := by decide +kernel
theorem dL_law_846 : decode cL_law 846 = .ok (.iadd, 1) := by decide +kernel
theorem dL_law_847 : decode cL_law 847 = .ok (.iaload, 1) := by decide +kernel
theorem dL_law_848 : decode cL_law 848 = .ok (.aload_n 0, 1) := by decide +kernel
theorem dL_law_849 : decode cL_law 849 = .ok (.iload_n 3, 1) := by decide +kernel
theorem dL_law_850 : decode cL_law 850 = .ok (.iconst 2, 1) := by decide +kernel
theorem dL_law_851 : decode cL_law 851 = .ok (.iadd, 1) := by decide +kernel
theorem dL_law_852 : decode cL_law 852 = .ok (.iaload, 1) := by decide +kernel
theorem dL_law_853 : decode cL_law 853 = .ok (.invokevirtual 101, 3) := by decide +kernel
theorem dL_law_856 : decode cL_law 856 = .ok (.if_icmp .eq 445, 3) := by decide +kernel
theorem dL_law_859 : decode cL_law 859 = .ok (.iconst 0, 1) := by decide +kernel
theorem dL_law_860 : decode cL_law 860 = .ok (.ireturn, 1) := by decide +kernel
theorem dL_law_861 : decode cL_law 861 = .ok (.aload_n 1, 1) := by decide +kernel
theorem dL_law_862 : decode cL_law 862 = .ok (.invokevirtual 102, 3) := by decide +kernel
theorem dL_law_865 : decode cL_law 865 = .ok (.aload_n 2, 1) := by decide +kernel
theorem dL_law_866 : decode cL_law 866 = .ok (.invokevirtual 105, 3) := by decide +kernel
theorem dL_law_869 : decode cL_law 869 = .ok (.if_icmp .eq 432, 3) := by decide +kernel
theorem dL_law_872 : decode cL_law 872 = .ok (.iconst 0, 1) := by decide +kernel
theorem dL_law_873 : decode cL_law 873 = .ok (.ireturn, 1) := by decide +kernel
theorem dL_law_874 : decode cL_law 874 = .ok (.aload_n 1, 1) := by decide +kernel
theorem dL_law_875 : decode cL_law 875 = .ok (.aload_n 0, 1) := by decide +kernel
theorem dL_law_876 : decode cL_law 876 = .ok (.iload_n 3, 1) := by decide +kernel
theorem dL_law_877 : decode cL_law 877 = .ok (.iconst 1, 1) := by decide +kernel
theorem dL_law_878 : decode cL_law 878 = .ok (.iadd, 1) := by decide +kernel
theorem dL_law_879 : decode cL_law 879 = .ok (.iaload, 1) := by decide +kernel
theorem dL_law_880 : decode cL_law 880 = .ok (.invokevirtual 106, 3) := by decide +kernel
theorem dL_law_883 : decode cL_law 883 = .ok (.aload_n 2, 1) := by decide +kernel
theorem dL_law_884 : decode cL_law 884 = .ok (.aload_n 0, 1) := by decide +kernel
theorem dL_law_885 : decode cL_law 885 = .ok (.iload_n 3, 1) := by decide +kernel
theorem dL_law_886 : decode cL_law 886 = .ok (.iconst 1, 1) := by decide +kernel
theorem dL_law_887 : decode cL_law 887 = .ok (.iadd, 1) := by decide +kernel
theorem dL_law_888 : decode cL_law 888 = .ok (.iaload, 1) := by decide +kernel
theorem dL_law_889 : decode cL_law 889 = .ok (.invokevirtual 109, 3) := by decide +kernel
theorem dL_law_892 : decode cL_law 892 = .ok (.if_icmp .eq 409, 3) := by decide +kernel
theorem dL_law_895 : decode cL_law 895 = .ok (.iconst 0, 1) := by decide +kernel
theorem dL_law_896 : decode cL_law 896 = .ok (.ireturn, 1) := by decide +kernel
theorem dL_law_897 : decode cL_law 897 = .ok (.aload_n 1, 1) := by decide +kernel
theorem dL_law_898 : decode cL_law 898 = .ok (.invokevirtual 110, 3) := by decide +kernel
theorem dL_law_901 : decode cL_law 901 = .ok (.aload_n 2, 1) := by decide +kernel
theorem dL_law_902 : decode cL_law 902 = .ok (.invokevirtual 113, 3) := by decide +kernel
theorem dL_law_905 : decode cL_law 905 = .ok (.if_icmp .eq 396, 3) := by decide +kernel
theorem dL_law_908 : decode cL_law 908 = .ok (.iconst 0, 1) := by decide +kernel
theorem dL_law_909 : decode cL_law 909 = .ok (.ireturn, 1) := by decide +kernel
theorem dL_law_910 : decode cL_law 910 = .ok (.aload_n 1, 1) := by decide +kernel
theorem dL_law_911 : decode cL_law 911 = .ok (.aload_n 0, 1) := by decide +kernel
theorem dL_law_912 : decode cL_law 912 = .ok (.iload_n 3, 1) := by decide +kernel
theorem dL_law_913 : decode cL_law 913 = .ok (.iconst 1, 1) := by decide +kernel
theorem dL_law_914 : decode cL_law 914 = .ok (.iadd, 1) := by decide +kernel
theorem dL_law_915 : decode cL_law 915 = .ok (.iaload, 1) := by decide +kernel
theorem dL_law_916 : decode cL_law 916 = .ok (.aload_n 0, 1) := by decide +kernel
theorem dL_law_917 : decode cL_law 917 = .ok (.iload_n 3, 1) := by decide +kernel
theorem dL_law_918 : decode cL_law 918 = .ok (.iconst 2, 1) := by decide +kernel
theorem dL_law_919 : decode cL_law 919 = .ok (.iadd, 1) := by decide +kernel
theorem dL_law_920 : decode cL_law 920 = .ok (.iaload, 1) := by decide +kernel
theorem dL_law_921 : decode cL_law 921 = .ok (.invokevirtual 114, 3) := by decide +kernel
theorem dL_law_924 : decode cL_law 924 = .ok (.aload_n 2, 1) := by decide +kernel
theorem dL_law_925 : decode cL_law 925 = .ok (.aload_n 0, 1) := by decide +kernel
theorem dL_law_926 : decode cL_law 926 = .ok (.iload_n 3, 1) := by decide +kernel
theorem dL_law_927 : decode cL_law 927 = .ok (.iconst 1, 1) := by decide +kernel
theorem dL_law_928 : decode cL_law 928 = .ok (.iadd, 1) := by decide +kernel
theorem dL_law_929 : decode cL_law 929 = .ok (.iaload, 1) := by decide +kernel
theorem dL_law_930 : decode cL_law 930 = .ok (.aload_n 0, 1) := by decide +kernel
theorem dL_law_931 : decode cL_law 931 = .ok (.iload_n 3, 1) := by decide +kernel
theorem dL_law_932 : decode cL_law 932 = .ok (.iconst 2, 1) := by decide +kernel
theorem dL_law_933 : decode cL_law 933 = .ok (.iadd, 1) := by decide +kernel
theorem dL_law_934 : decode cL_law 934 = .ok (.iaload, 1) := by decide +kernel
theorem dL_law_935 : decode cL_law 935 = .ok (.invokevirtual 117, 3) := by decide +kernel
theorem dL_law_938 : decode cL_law 938 = .ok (.if_icmp .eq 363, 3) := by decide +kernel
theorem dL_law_941 : decode cL_law 941 = .ok (.iconst 0, 1) := by decide +kernel
theorem dL_law_942 : decode cL_law 942 = .ok (.ireturn, 1) := by decide +kernel
theorem dL_law_943 : decode cL_law 943 = .ok (.aload_n 1, 1) := by decide +kernel
theorem dL_law_944 : decode cL_law 944 = .ok (.aload_n 0, 1) := by decide +kernel
theorem dL_law_945 : decode cL_law 945 = .ok (.iload_n 3, 1) := by decide +kernel
theorem dL_law_946 : decode cL_law 946 = .ok (.iconst 1, 1) := by decide +kernel
theorem dL_law_947 : decode cL_law 947 = .ok (.iadd, 1) := by decide +kernel
theorem dL_law_948 : decode cL_law 948 = .ok (.iaload, 1) := by decide +kernel
theorem dL_law_949 : decode cL_law 949 = .ok (.aload_n 0, 1) := by decide +kernel
theorem dL_law_950 : decode cL_law 950 = .ok (.iload_n 3, 1) := by decide +kernel
theorem dL_law_951 : decode cL_law 951 = .ok (.iconst 2, 1) := by decide +kernel
theorem dL_law_952 : decode cL_law 952 = .ok (.iadd, 1) := by decide +kernel
theorem dL_law_953 : decode cL_law 953 = .ok (.iaload, 1) := by decide +kernel
theorem dL_law_954 : decode cL_law 954 = .ok (.aload_n 0, 1) := by decide +kernel
theorem dL_law_955 : decode cL_law 955 = .ok (.iload_n 3, 1) := by decide +kernel
theorem dL_law_956 : decode cL_law 956 = .ok (.iconst 3, 1) := by decide +kernel
theorem dL_law_957 : decode cL_law 957 = .ok (.iadd, 1) := by decide +kernel
theorem dL_law_958 : decode cL_law 958 = .ok (.iaload, 1) := by decide +kernel
theorem dL_law_959 : decode cL_law 959 = .ok (.invokevirtual 118, 3) := by decide +kernel
theorem dL_law_962 : decode cL_law 962 = .ok (.aload_n 2, 1) := by decide +kernel
theorem dL_law_963 : decode cL_law 963 = .ok (.aload_n 0, 1) := by decide +kernel
theorem dL_law_964 : decode cL_law 964 = .ok (.iload_n 3, 1) := by decide +kernel
theorem dL_law_965 : decode cL_law 965 = .ok (.iconst 1, 1) := by decide +kernel
theorem dL_law_966 : decode cL_law 966 = .ok (.iadd, 1) := by decide +kernel
theorem dL_law_967 : decode cL_law 967 = .ok (.iaload, 1) := by decide +kernel
theorem dL_law_968 : decode cL_law 968 = .ok (.aload_n 0, 1) := by decide +kernel
theorem dL_law_969 : decode cL_law 969 = .ok (.iload_n 3, 1) := by decide +kernel
theorem dL_law_970 : decode cL_law 970 = .ok (.iconst 2, 1) := by decide +kernel
theorem dL_law_971 : decode cL_law 971 = .ok (.iadd, 1) := by decide +kernel
theorem dL_law_972 : decode cL_law 972 = .ok (.iaload, 1) := by decide +kernel
theorem dL_law_973 : decode cL_law 973 = .ok (.aload_n 0, 1) := by decide +kernel
theorem dL_law_974 : decode cL_law 974 = .ok (.iload_n 3, 1) := by decide +kernel
theorem dL_law_975 : decode cL_law 975 = .ok (.iconst 3, 1) := by decide +kernel
theorem dL_law_976 : decode cL_law 976 = .ok (.iadd, 1) := by decide +kernel
theorem dL_law_977 : decode cL_law 977 = .ok (.iaload, 1) := by decide +kernel
theorem dL_law_978 : decode cL_law 978 = .ok (.invokevirtual 121, 3) := by decide +kernel
theorem dL_law_981 : decode cL_law 981 = .ok (.if_icmp .eq 320, 3) := by decide +kernel
theorem dL_law_984 : decode cL_law 984 = .ok (.iconst 0, 1) := by decide +kernel
theorem dL_law_985 : decode cL_law 985 = .ok (.ireturn, 1) := by decide +kernel
theorem dL_law_986 : decode cL_law 986 = .ok (.aload_n 1, 1) := by decide +kernel
theorem dL_law_987 : decode cL_law 987 = .ok (.aload_n 0, 1) := by decide +kernel
theorem dL_law_988 : decode cL_law 988 = .ok (.iload_n 3, 1) := by decide +kernel
theorem dL_law_989 : decode cL_law 989 = .ok (.iconst 1, 1) := by decide +kernel
theorem dL_law_990 : decode cL_law 990 = .ok (.iadd, 1) := by decide +kernel
theorem dL_law_991 : decode cL_law 991 = .ok (.iaload, 1) := by decide +kernel
theorem dL_law_992 : decode cL_law 992 = .ok (.aload_n 0, 1) := by decide +kernel
theorem dL_law_993 : decode cL_law 993 = .ok (.iload_n 3, 1) := by decide +kernel
theorem dL_law_994 : decode cL_law 994 = .ok (.iconst 2, 1) := by decide +kernel
theorem dL_law_995 : decode cL_law 995 = .ok (.iadd, 1) := by decide +kernel
theorem dL_law_996 : decode cL_law 996 = .ok (.iaload, 1) := by decide +kernel
theorem dL_law_997 : decode cL_law 997 = .ok (.aload_n 0, 1) := by decide +kernel
theorem dL_law_998 : decode cL_law 998 = .ok (.iload_n 3, 1) := by decide +kernel
theorem dL_law_999 : decode cL_law 999 = .ok (.iconst 3, 1) := by decide +kernel
theorem dL_law_1000 : decode cL_law 1000 = .ok (.iadd, 1) := by decide +kernel
theorem dL_law_1001 : decode cL_law 1001 = .ok (.iaload, 1) := by decide +kernel
theorem dL_law_1002 : decode cL_law 1002 = .ok (.invokevirtual 122, 3) := by decide +kernel
theorem dL_law_1005 : decode cL_law 1005 = .ok (.aload_n 2, 1) := by decide +kernel
theorem dL_law_1006 : decode cL_law 1006 = .ok (.aload_n 0, 1) := by decide +kernel
theorem dL_law_1007 : decode cL_law 1007 = .ok (.iload_n 3, 1) := by decide +kernel
theorem dL_law_1008 : decode cL_law 1008 = .ok (.iconst 1, 1) := by decide +kernel
theorem dL_law_1009 : decode cL_law 1009 = .ok (.iadd, 1) := by decide +kernel
theorem dL_law_1010 : decode cL_law 1010 = .ok (.iaload, 1) := by decide +kernel
theorem dL_law_1011 : decode cL_law 1011 = .ok (.aload_n 0, 1) := by decide +kernel
theorem dL_law_1012 : decode cL_law 1012 = .ok (.iload_n 3, 1) := by decide +kernel
theorem dL_law_1013 : decode cL_law 1013 = .ok (.iconst 2, 1) := by decide +kernel
theorem dL_law_1014 : decode cL_law 1014 = .ok (.iadd, 1) := by decide +kernel
theorem dL_law_1015 : decode cL_law 1015 = .ok (.iaload, 1) := by decide +kernel
theorem dL_law_1016 : decode cL_law 1016 = .ok (.aload_n 0, 1) := by decide +kernel
theorem dL_law_1017 : decode cL_law 1017 = .ok (.iload_n 3, 1) := by decide +kernel
theorem dL_law_1018 : decode cL_law 1018 = .ok (.iconst 3, 1) := by decide +kernel
theorem dL_law_1019 : decode cL_law 1019 = .ok (.iadd, 1) := by decide +kernel
theorem dL_law_1020 : decode cL_law 1020 = .ok (.iaload, 1) := by decide +kernel
theorem dL_law_1021 : decode cL_law 1021 = .ok (.invokevirtual 125, 3) := by decide +kernel
theorem dL_law_1024 : decode cL_law 1024 = .ok (.if_icmp .eq 277, 3) := by decide +kernel
theorem dL_law_1027 : decode cL_law 1027 = .ok (.iconst 0, 1) := by decide +kernel
theorem dL_law_1028 : decode cL_law 1028 = .ok (.ireturn, 1) := by decide +kernel
theorem dL_law_1029 : decode cL_law 1029 = .ok (.aload_n 1, 1) := by decide +kernel
theorem dL_law_1030 : decode cL_law 1030 = .ok (.aload_n 0, 1) := by decide +kernel
theorem dL_law_1031 : decode cL_law 1031 = .ok (.iload_n 3, 1) := by decide +kernel
theorem dL_law_1032 : decode cL_law 1032 = .ok (.iconst 1, 1) := by decide +kernel
theorem dL_law_1033 : decode cL_law 1033 = .ok (.iadd, 1) := by decide +kernel
theorem dL_law_1034 : decode cL_law 1034 = .ok (.iaload, 1) := by decide +kernel
theorem dL_law_1035 : decode cL_law 1035 = .ok (.invokevirtual 126, 3) := by decide +kernel
theorem dL_law_1038 : decode cL_law 1038 = .ok (.aload_n 2, 1) := by decide +kernel
theorem dL_law_1039 : decode cL_law 1039 = .ok (.aload_n 0, 1) := by decide +kernel
theorem dL_law_1040 : decode cL_law 1040 = .ok (.iload_n 3, 1) := by decide +kernel
theorem dL_law_1041 : decode cL_law 1041 = .ok (.iconst 1, 1) := by decide +kernel
theorem dL_law_1042 : decode cL_law 1042 = .ok (.iadd, 1) := by decide +kernel
theorem dL_law_1043 : decode cL_law 1043 = .ok (.iaload, 1) := by decide +kernel
theorem dL_law_1044 : decode cL_law 1044 = .ok (.invokevirtual 129, 3) := by decide +kernel
theorem dL_law_1047 : decode cL_law 1047 = .ok (.if_icmp .eq 254, 3) := by decide +kernel
theorem dL_law_1050 : decode cL_law 1050 = .ok (.iconst 0, 1) := by decide +kernel
theorem dL_law_1051 : decode cL_law 1051 = .ok (.ireturn, 1) := by decide +kernel
theorem dL_law_1052 : decode cL_law 1052 = .ok (.aload_n 1, 1) := by decide +kernel
theorem dL_law_1053 : decode cL_law 1053 = .ok (.aload_n 0, 1) := by decide +kernel
theorem dL_law_1054 : decode cL_law 1054 = .ok (.iload_n 3, 1) := by decide +kernel
theorem dL_law_1055 : decode cL_law 1055 = .ok (.iconst 1, 1) := by decide +kernel
theorem dL_law_1056 : decode cL_law 1056 = .ok (.iadd, 1) := by decide +kernel
theorem dL_law_1057 : decode cL_law 1057 = .ok (.iaload, 1) := by decide +kernel
theorem dL_law_1058 : decode cL_law 1058 = .ok (.aload_n 0, 1) := by decide +kernel
theorem dL_law_1059 : decode cL_law 1059 = .ok (.iload_n 3, 1) := by decide +kernel
theorem dL_law_1060 : decode cL_law 1060 = .ok (.iconst 2, 1) := by decide +kernel
theorem dL_law_1061 : decode cL_law 1061 = .ok (.iadd, 1) := by decide +kernel
theorem dL_law_1062 : decode cL_law 1062 = .ok (.iaload, 1) := by decide +kernel
theorem dL_law_1063 : decode cL_law 1063 = .ok (.invokevirtual 130, 3) := by decide +kernel
theorem dL_law_1066 : decode cL_law 1066 = .ok (.aload_n 2, 1) := by decide +kernel
theorem dL_law_1067 : decode cL_law 1067 = .ok (.aload_n 0, 1) := by decide +kernel
theorem dL_law_1068 : decode cL_law 1068 = .ok (.iload_n 3, 1) := by decide +kernel
theorem dL_law_1069 : decode cL_law 1069 = .ok (.iconst 1, 1) := by decide +kernel
theorem dL_law_1070 : decode cL_law 1070 = .ok (.iadd, 1) := by decide +kernel
theorem dL_law_1071 : decode cL_law 1071 = .ok (.iaload, 1) := by decide +kernel
theorem dL_law_1072 : decode cL_law 1072 = .ok (.aload_n 0, 1) := by decide +kernel
theorem dL_law_1073 : decode cL_law 1073 = .ok (.iload_n 3, 1) := by decide +kernel
theorem dL_law_1074 : decode cL_law 1074 = .ok (.iconst 2, 1) := by decide +kernel
theorem dL_law_1075 : decode cL_law 1075 = .ok (.iadd, 1) := by decide +kernel
theorem dL_law_1076 : decode cL_law 1076 = .ok (.iaload, 1) := by decide +kernel
theorem dL_law_1077 : decode cL_law 1077 = .ok (.invokevirtual 133, 3) := by decide +kernel
theorem dL_law_1080 : decode cL_law 1080 = .ok (.if_icmp .eq 221, 3) := by decide +kernel
theorem dL_law_1083 : decode cL_law 1083 = .ok (.iconst 0, 1) := by decide +kernel
theorem dL_law_1084 : decode cL_law 1084 = .ok (.ireturn, 1) := by decide +kernel
theorem dL_law_1085 : decode cL_law 1085 = .ok (.aload_n 1, 1) := by decide +kernel
theorem dL_law_1086 : decode cL_law 1086 = .ok (.aload_n 0, 1) := by decide +kernel
theorem dL_law_1087 : decode cL_law 1087 = .ok (.iload_n 3, 1) := by decide +kernel
theorem dL_law_1088 : decode cL_law 1088 = .ok (.iconst 1, 1) := by decide +kernel
theorem dL_law_1089 : decode cL_law 1089 = .ok (.iadd, 1) := by decide +kernel
theorem dL_law_1090 : decode cL_law 1090 = .ok (.iaload, 1) := by decide +kernel
theorem dL_law_1091 : decode cL_law 1091 = .ok (.invokevirtual 134, 3) := by decide +kernel
theorem dL_law_1094 : decode cL_law 1094 = .ok (.aload_n 2, 1) := by decide +kernel
theorem dL_law_1095 : decode cL_law 1095 = .ok (.aload_n 0, 1) := by decide +kernel
theorem dL_law_1096 : decode cL_law 1096 = .ok (.iload_n 3, 1) := by decide +kernel
theorem dL_law_1097 : decode cL_law 1097 = .ok (.iconst 1, 1) := by decide +kernel
theorem dL_law_1098 : decode cL_law 1098 = .ok (.iadd, 1) := by decide +kernel
theorem dL_law_1099 : decode cL_law 1099 = .ok (.iaload, 1) := by decide +kernel
theorem dL_law_1100 : decode cL_law 1100 = .ok (.invokevirtual 137, 3) := by decide +kernel
theorem dL_law_1103 : decode cL_law 1103 = .ok (.if_icmp .eq 198, 3) := by decide +kernel
theorem dL_law_1106 : decode cL_law 1106 = .ok (.iconst 0, 1) := by decide +kernel
theorem dL_law_1107 : decode cL_law 1107 = .ok (.ireturn, 1) := by decide +kernel
theorem dL_law_1108 : decode cL_law 1108 = .ok (.aload_n 1, 1) := by decide +kernel
theorem dL_law_1109 : decode cL_law 1109 = .ok (.aload_n 0, 1) := by decide +kernel
theorem dL_law_1110 : decode cL_law 1110 = .ok (.iload_n 3, 1) := by decide +kernel
theorem dL_law_1111 : decode cL_law 1111 = .ok (.iconst 1, 1) := by decide +kernel
theorem dL_law_1112 : decode cL_law 1112 = .ok (.iadd, 1) := by decide +kernel
theorem dL_law_1113 : decode cL_law 1113 = .ok (.iaload, 1) := by decide +kernel
theorem dL_law_1114 : decode cL_law 1114 = .ok (.invokevirtual 138, 3) := by decide +kernel
theorem dL_law_1117 : decode cL_law 1117 = .ok (.aload_n 2, 1) := by decide +kernel
theorem dL_law_1118 : decode cL_law 1118 = .ok (.aload_n 0, 1) := by decide +kernel
theorem dL_law_1119 : decode cL_law 1119 = .ok (.iload_n 3, 1) := by decide +kernel
theorem dL_law_1120 : decode cL_law 1120 = .ok (.iconst 1, 1) := by decide +kernel
theorem dL_law_1121 : decode cL_law 1121 = .ok (.iadd, 1) := by decide +kernel
theorem dL_law_1122 : decode cL_law 1122 = .ok (.iaload, 1) := by decide +kernel
theorem dL_law_1123 : decode cL_law 1123 = .ok (.invokevirtual 141, 3) := by decide +kernel
theorem dL_law_1126 : decode cL_law 1126 = .ok (.if_icmp .eq 175, 3) := by decide +kernel
theorem dL_law_1129 : decode cL_law 1129 = .ok (.iconst 0, 1) := by decide +kernel
theorem dL_law_1130 : decode cL_law 1130 = .ok (.ireturn, 1) := by decide +kernel
theorem dL_law_1131 : decode cL_law 1131 = .ok (.aload_n 1, 1) := by decide +kernel
theorem dL_law_1132 : decode cL_law 1132 = .ok (.aload_n 0, 1) := by decide +kernel
theorem dL_law_1133 : decode cL_law 1133 = .ok (.iload_n 3, 1) := by decide +kernel
theorem dL_law_1134 : decode cL_law 1134 = .ok (.iconst 1, 1) := by decide +kernel
theorem dL_law_1135 : decode cL_law 1135 = .ok (.iadd, 1) := by decide +kernel
theorem dL_law_1136 : decode cL_law 1136 = .ok (.iaload, 1) := by decide +kernel
theorem dL_law_1137 : decode cL_law 1137 = .ok (.invokevirtual 142, 3) := by decide +kernel
theorem dL_law_1140 : decode cL_law 1140 = .ok (.aload_n 2, 1) := by decide +kernel
theorem dL_law_1141 : decode cL_law 1141 = .ok (.aload_n 0, 1) := by decide +kernel
theorem dL_law_1142 : decode cL_law 1142 = .ok (.iload_n 3, 1) := by decide +kernel
theorem dL_law_1143 : decode cL_law 1143 = .ok (.iconst 1, 1) := by decide +kernel
theorem dL_law_1144 : decode cL_law 1144 = .ok (.iadd, 1) := by decide +kernel
theorem dL_law_1145 : decode cL_law 1145 = .ok (.iaload, 1) := by decide +kernel
theorem dL_law_1146 : decode cL_law 1146 = .ok (.invokevirtual 145, 3) := by decide +kernel
theorem dL_law_1149 : decode cL_law 1149 = .ok (.if_icmp .eq 152, 3) := by decide +kernel
theorem dL_law_1152 : decode cL_law 1152 = .ok (.iconst 0, 1) := by decide +kernel
theorem dL_law_1153 : decode cL_law 1153 = .ok (.ireturn, 1) := by decide +kernel
theorem dL_law_1154 : decode cL_law 1154 = .ok (.aload_n 1, 1) := by decide +kernel
theorem dL_law_1155 : decode cL_law 1155 = .ok (.aload_n 0, 1) := by decide +kernel
theorem dL_law_1156 : decode cL_law 1156 = .ok (.iload_n 3, 1) := by decide +kernel
theorem dL_law_1157 : decode cL_law 1157 = .ok (.iconst 1, 1) := by decide +kernel
theorem dL_law_1158 : decode cL_law 1158 = .ok (.iadd, 1) := by decide +kernel
theorem dL_law_1159 : decode cL_law 1159 = .ok (.iaload, 1) := by decide +kernel
theorem dL_law_1160 : decode cL_law 1160 = .ok (.aload_n 0, 1) := by decide +kernel
theorem dL_law_1161 : decode cL_law 1161 = .ok (.iload_n 3, 1) := by decide +kernel
theorem dL_law_1162 : decode cL_law 1162 = .ok (.iconst 2, 1) := by decide +kernel
theorem dL_law_1163 : decode cL_law 1163 = .ok (.iadd, 1) := by decide +kernel
theorem dL_law_1164 : decode cL_law 1164 = .ok (.iaload, 1) := by decide +kernel
theorem dL_law_1165 : decode cL_law 1165 = .ok (.invokevirtual 146, 3) := by decide +kernel
theorem dL_law_1168 : decode cL_law 1168 = .ok (.aload_n 2, 1) := by decide +kernel
theorem dL_law_1169 : decode cL_law 1169 = .ok (.aload_n 0, 1) := by decide +kernel
theorem dL_law_1170 : decode cL_law 1170 = .ok (.iload_n 3, 1) := by decide +kernel
theorem dL_law_1171 : decode cL_law 1171 = .ok (.iconst 1, 1) := by decide +kernel
theorem dL_law_1172 : decode cL_law 1172 = .ok (.iadd, 1) := by decide +kernel
theorem dL_law_1173 : decode cL_law 1173 = .ok (.iaload, 1) := by decide +kernel
theorem dL_law_1174 : decode cL_law 1174 = .ok (.aload_n 0, 1) := by decide +kernel
theorem dL_law_1175 : decode cL_law 1175 = .ok (.iload_n 3, 1) := by decide +kernel
theorem dL_law_1176 : decode cL_law 1176 = .ok (.iconst 2, 1) := by decide +kernel
theorem dL_law_1177 : decode cL_law 1177 = .ok (.iadd, 1) := by decide +kernel
theorem dL_law_1178 : decode cL_law 1178 = .ok (.iaload, 1) := by decide +kernel
theorem dL_law_1179 : decode cL_law 1179 = .ok (.invokevirtual 149, 3) := by decide +kernel
theorem dL_law_1182 : decode cL_law 1182 = .ok (.if_icmp .eq 119, 3) := by decide +kernel
theorem dL_law_1185 : decode cL_law 1185 = .ok (.iconst 0, 1) := by decide +kernel
theorem dL_law_1186 : decode cL_law 1186 = .ok (.ireturn, 1) := by decide +kernel
theorem dL_law_1187 : decode cL_law 1187 = .ok (.aload_n 1, 1) := by decide +kernel
theorem dL_law_1188 : decode cL_law 1188 = .ok (.invokevirtual 150, 3) := by decide +kernel
theorem dL_law_1191 : decode cL_law 1191 = .ok (.aload_n 2, 1) := by decide +kernel
theorem dL_law_1192 : decode cL_law 1192 = .ok (.invokevirtual 153, 3) := by decide +kernel
theorem dL_law_1195 : decode cL_law 1195 = .ok (.if_icmp .eq 106, 3) := by decide +kernel
theorem dL_law_1198 : decode cL_law 1198 = .ok (.iconst 0, 1) := by decide +kernel
theorem dL_law_1199 : decode cL_law 1199 = .ok (.ireturn, 1) := by decide +kernel
theorem dL_law_1200 : decode cL_law 1200 = .ok (.aload_n 1, 1) := by decide +kernel
theorem dL_law_1201 : decode cL_law 1201 = .ok (.invokevirtual 154, 3) := by decide +kernel
theorem dL_law_1204 : decode cL_law 1204 = .ok (.aload_n 2, 1) := by decide +kernel
theorem dL_law_1205 : decode cL_law 1205 = .ok (.invokevirtual 158, 3) := by decide +kernel
theorem dL_law_1208 : decode cL_law 1208 = .ok (.lcmp, 1) := by decide +kernel
theorem dL_law_1209 : decode cL_law 1209 = .ok (.ifCond .eq 92, 3) := by decide +kernel
theorem dL_law_1212 : decode cL_law 1212 = .ok (.iconst 0, 1) := by decide +kernel
theorem dL_law_1213 : decode cL_law 1213 = .ok (.ireturn, 1) := by decide +kernel
theorem dL_law_1214 : decode cL_law 1214 = .ok (.aload_n 1, 1) := by decide +kernel
theorem dL_law_1215 : decode cL_law 1215 = .ok (.invokevirtual 159, 3) := by decide +kernel
theorem dL_law_1218 : decode cL_law 1218 = .ok (.aload_n 2, 1) := by decide +kernel
theorem dL_law_1219 : decode cL_law 1219 = .ok (.invokevirtual 162, 3) := by decide +kernel
theorem dL_law_1222 : decode cL_law 1222 = .ok (.lcmp, 1) := by decide +kernel
theorem dL_law_1223 : decode cL_law 1223 = .ok (.ifCond .eq 78, 3) := by decide +kernel
theorem dL_law_1226 : decode cL_law 1226 = .ok (.iconst 0, 1) := by decide +kernel
theorem dL_law_1227 : decode cL_law 1227 = .ok (.ireturn, 1) := by decide +kernel
theorem dL_law_1228 : decode cL_law 1228 = .ok (.aload_n 1, 1) := by decide +kernel
theorem dL_law_1229 : decode cL_law 1229 = .ok (.aload_n 0, 1) := by decide +kernel
theorem dL_law_1230 : decode cL_law 1230 = .ok (.iload_n 3, 1) := by decide +kernel
theorem dL_law_1231 : decode cL_law 1231 = .ok (.iconst 1, 1) := by decide +kernel
theorem dL_law_1232 : decode cL_law 1232 = .ok (.iadd, 1) := by decide +kernel
theorem dL_law_1233 : decode cL_law 1233 = .ok (.iaload, 1) := by decide +kernel
theorem dL_law_1234 : decode cL_law 1234 = .ok (.invokevirtual 163, 3) := by decide +kernel
theorem dL_law_1237 : decode cL_law 1237 = .ok (.aload_n 2, 1) := by decide +kernel
theorem dL_law_1238 : decode cL_law 1238 = .ok (.aload_n 0, 1) := by decide +kernel
theorem dL_law_1239 : decode cL_law 1239 = .ok (.iload_n 3, 1) := by decide +kernel
theorem dL_law_1240 : decode cL_law 1240 = .ok (.iconst 1, 1) := by decide +kernel
theorem dL_law_1241 : decode cL_law 1241 = .ok (.iadd, 1) := by decide +kernel
theorem dL_law_1242 : decode cL_law 1242 = .ok (.iaload, 1) := by decide +kernel
theorem dL_law_1243 : decode cL_law 1243 = .ok (.invokevirtual 166, 3) := by decide +kernel
theorem dL_law_1246 : decode cL_law 1246 = .ok (.if_icmp .eq 55, 3) := by decide +kernel
theorem dL_law_1249 : decode cL_law 1249 = .ok (.iconst 0, 1) := by decide +kernel
theorem dL_law_1250 : decode cL_law 1250 = .ok (.ireturn, 1) := by decide +kernel
theorem dL_law_1251 : decode cL_law 1251 = .ok (.aload_n 1, 1) := by decide +kernel
theorem dL_law_1252 : decode cL_law 1252 = .ok (.invokevirtual 167, 3) := by decide +kernel
theorem dL_law_1255 : decode cL_law 1255 = .ok (.aload_n 2, 1) := by decide +kernel
theorem dL_law_1256 : decode cL_law 1256 = .ok (.invokevirtual 170, 3) := by decide +kernel
theorem dL_law_1259 : decode cL_law 1259 = .ok (.if_icmp .eq 42, 3) := by decide +kernel
theorem dL_law_1262 : decode cL_law 1262 = .ok (.iconst 0, 1) := by decide +kernel
theorem dL_law_1263 : decode cL_law 1263 = .ok (.ireturn, 1) := by decide +kernel
theorem dL_law_1264 : decode cL_law 1264 = .ok (.aload_n 1, 1) := by decide +kernel
theorem dL_law_1265 : decode cL_law 1265 = .ok (.aload_n 0, 1) := by decide +kernel
theorem dL_law_1266 : decode cL_law 1266 = .ok (.iload_n 3, 1) := by decide +kernel
theorem dL_law_1267 : decode cL_law 1267 = .ok (.iconst 1, 1) := by decide +kernel
theorem dL_law_1268 : decode cL_law 1268 = .ok (.iadd, 1) := by decide +kernel
theorem dL_law_1269 : decode cL_law 1269 = .ok (.iaload, 1) := by decide +kernel
theorem dL_law_1270 : decode cL_law 1270 = .ok (.invokevirtual 171, 3) := by decide +kernel
theorem dL_law_1273 : decode cL_law 1273 = .ok (.aload_n 2, 1) := by decide +kernel
theorem dL_law_1274 : decode cL_law 1274 = .ok (.aload_n 0, 1) := by decide +kernel
theorem dL_law_1275 : decode cL_law 1275 = .ok (.iload_n 3, 1) := by decide +kernel
theorem dL_law_1276 : decode cL_law 1276 = .ok (.iconst 1, 1) := by decide +kernel
theorem dL_law_1277 : decode cL_law 1277 = .ok (.iadd, 1) := by decide +kernel
theorem dL_law_1278 : decode cL_law 1278 = .ok (.iaload, 1) := by decide +kernel
theorem dL_law_1279 : decode cL_law 1279 = .ok (.invokevirtual 174, 3) := by decide +kernel
theorem dL_law_1282 : decode cL_law 1282 = .ok (.if_icmp .eq 19, 3) := by decide +kernel
theorem dL_law_1285 : decode cL_law 1285 = .ok (.iconst 0, 1) := by decide +kernel
theorem dL_law_1286 : decode cL_law 1286 = .ok (.ireturn, 1) := by decide +kernel
theorem dL_law_1287 : decode cL_law 1287 = .ok (.aload_n 1, 1) := by decide +kernel
theorem dL_law_1288 : decode cL_law 1288 = .ok (.invokevirtual 175, 3) := by decide +kernel
theorem dL_law_1291 : decode cL_law 1291 = .ok (.aload_n 2, 1) := by decide +kernel
theorem dL_law_1292 : decode cL_law 1292 = .ok (.invokevirtual 178, 3) := by decide +kernel
theorem dL_law_1295 : decode cL_law 1295 = .ok (.lcmp, 1) := by decide +kernel
theorem dL_law_1296 : decode cL_law 1296 = .ok (.ifCond .eq 5, 3) := by decide +kernel
theorem dL_law_1299 : decode cL_law 1299 = .ok (.iconst 0, 1) := by decide +kernel
theorem dL_law_1300 : decode cL_law 1300 = .ok (.ireturn, 1) := by decide +kernel
theorem dL_law_1301 : decode cL_law 1301 = .ok (.iinc 3 6, 3) := by decide +kernel
theorem dL_law_1304 : decode cL_law 1304 = .ok (.goto (-1286), 3) := by decide +kernel
theorem dL_law_1307 : decode cL_law 1307 = .ok (.iconst 1, 1) := by decide +kernel
theorem dL_law_1308 : decode cL_law 1308 = .ok (.ireturn, 1) := by decide +kernel
