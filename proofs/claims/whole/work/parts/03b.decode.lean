theorem dX3_mixInto_43 : decode cX3_mixInto 43 = .ok (.lreturn, 1) := by decide +kernel
theorem dX4_init_0 : decode cX4_init 0 = .ok (.aload_n 0, 1) := by decide +kernel
theorem dX4_init_1 : decode cX4_init 1 = .ok (.invokespecial 3, 3) := by decide +kernel
theorem dX4_init_4 : decode cX4_init 4 = .ok (.aload_n 0, 1) := by decide +kernel
theorem dX4_init_5 : decode cX4_init 5 = .ok (.bipush 60, 2) := by decide +kernel
theorem dX4_init_7 : decode cX4_init 7 = .ok (.newarray .byte, 2) := by decide +kernel
theorem dX4_init_9 : decode cX4_init 9 = .ok (.putfield 9, 3) := by decide +kernel
theorem dX4_init_12 : decode cX4_init 12 = .ok (.aload_n 0, 1) := by decide +kernel
theorem dX4_init_13 : decode cX4_init 13 = .ok (.iconst (-1), 1) := by decide +kernel
theorem dX4_init_14 : decode cX4_init 14 = .ok (.putfield 15, 3) := by decide +kernel
theorem dX4_init_17 : decode cX4_init 17 = .ok (.return_, 1) := by decide +kernel
theorem dX4_begin_0 : decode cX4_begin 0 = .ok (.aload_n 0, 1) := by decide +kernel
theorem dX4_begin_1 : decode cX4_begin 1 = .ok (.iload_n 1, 1) := by decide +kernel
theorem dX4_begin_2 : decode cX4_begin 2 = .ok (.putfield 15, 3) := by decide +kernel
theorem dX4_begin_5 : decode cX4_begin 5 = .ok (.iconst 0, 1) := by decide +kernel
theorem dX4_begin_6 : decode cX4_begin 6 = .ok (.istore_n 2, 1) := by decide +kernel
theorem dX4_begin_7 : decode cX4_begin 7 = .ok (.iload_n 2, 1) := by decide +kernel
theorem dX4_begin_8 : decode cX4_begin 8 = .ok (.iload_n 1, 1) := by decide +kernel
theorem dX4_begin_9 : decode cX4_begin 9 = .ok (.if_icmp .ge 17, 3) := by decide +kernel
theorem dX4_begin_12 : decode cX4_begin 12 = .ok (.aload_n 0, 1) := by decide +kernel
theorem dX4_begin_13 : decode cX4_begin 13 = .ok (.getfield 9, 3) := by decide +kernel
theorem dX4_begin_16 : decode cX4_begin 16 = .ok (.iload_n 2, 1) := by decide +kernel
theorem dX4_begin_17 : decode cX4_begin 17 = .ok (.bipush 32, 2) := by decide +kernel
theorem dX4_begin_19 : decode cX4_begin 19 = .ok (.bastore, 1) := by decide +kernel
theorem dX4_begin_20 : decode cX4_begin 20 = .ok (.iinc 2 1, 3) := by decide +kernel
theorem dX4_begin_23 : decode cX4_begin 23 = .ok (.goto (-16), 3) := by decide +kernel
theorem dX4_begin_26 : decode cX4_begin 26 = .ok (.return_, 1) := by decide +kernel
theorem dX4_mixInto_0 : decode cX4_mixInto 0 = .ok (.ldc2_w 19, 3) := by decide +kernel
theorem dX4_mixInto_3 : decode cX4_mixInto 3 = .ok (.lload_n 1, 1) := by decide +kernel
theorem dX4_mixInto_4 : decode cX4_mixInto 4 = .ok (.lmul, 1) := by decide +kernel
theorem dX4_mixInto_5 : decode cX4_mixInto 5 = .ok (.aload_n 0, 1) := by decide +kernel
theorem dX4_mixInto_6 : decode cX4_mixInto 6 = .ok (.getfield 15, 3) := by decide +kernel
theorem dX4_mixInto_9 : decode cX4_mixInto 9 = .ok (.i2l, 1) := by decide +kernel
theorem dX4_mixInto_10 : decode cX4_mixInto 10 = .ok (.ladd, 1) := by decide +kernel
theorem dX4_mixInto_11 : decode cX4_mixInto 11 = .ok (.lstore_n 1, 1) := by decide +kernel
theorem dX4_mixInto_12 : decode cX4_mixInto 12 = .ok (.iconst 0, 1) := by decide +kernel
theorem dX4_mixInto_13 : decode cX4_mixInto 13 = .ok (.istore_n 3, 1) := by decide +kernel
theorem dX4_mixInto_14 : decode cX4_mixInto 14 = .ok (.iload_n 3, 1) := by decide +kernel
theorem dX4_mixInto_15 : decode cX4_mixInto 15 = .ok (.aload_n 0, 1) := by decide +kernel
theorem dX4_mixInto_16 : decode cX4_mixInto 16 = .ok (.getfield 15, 3) := by decide +kernel
theorem dX4_mixInto_19 : decode cX4_mixInto 19 = .ok (.if_icmp .ge 23, 3) := by decide +kernel
theorem dX4_mixInto_22 : decode cX4_mixInto 22 = .ok (.ldc2_w 19, 3) := by decide +kernel
theorem dX4_mixInto_25 : decode cX4_mixInto 25 = .ok (.lload_n 1, 1) := by decide +kernel
theorem dX4_mixInto_26 : decode cX4_mixInto 26 = .ok (.lmul, 1) := by decide +kernel
theorem dX4_mixInto_27 : decode cX4_mixInto 27 = .ok (.aload_n 0, 1) := by decide +kernel
theorem dX4_mixInto_28 : decode cX4_mixInto 28 = .ok (.getfield 9, 3) := by decide +kernel
theorem dX4_mixInto_31 : decode cX4_mixInto 31 = .ok (.iload_n 3, 1) := by decide +kernel
theorem dX4_mixInto_32 : decode cX4_mixInto 32 = .ok (.baload, 1) := by decide +kernel
theorem dX4_mixInto_33 : decode cX4_mixInto 33 = .ok (.i2l, 1) := by decide +kernel
theorem dX4_mixInto_34 : decode cX4_mixInto 34 = .ok (.ladd, 1) := by decide +kernel
theorem dX4_mixInto_35 : decode cX4_mixInto 35 = .ok (.lstore_n 1, 1) := by decide +kernel
theorem dX4_mixInto_36 : decode cX4_mixInto 36 = .ok (.iinc 3 1, 3) := by decide +kernel
theorem dX4_mixInto_39 : decode cX4_mixInto 39 = .ok (.goto (-25), 3) := by decide +kernel
theorem dX4_mixInto_42 : decode cX4_mixInto 42 = .ok (.lload_n 1, 1) := by decide +kernel
theorem dX4_mixInto_43 : decode cX4_mixInto 43 = .ok (.lreturn, 1) := by decide +kernel
theorem dX5_init_0 : decode cX5_init 0 = .ok (.aload_n 0, 1) := by decide +kernel
theorem dX5_init_1 : decode cX5_init 1 = .ok (.invokespecial 1, 3) := by decide +kernel
theorem dX5_init_4 : decode cX5_init 4 = .ok (.aload_n 0, 1) := by decide +kernel
theorem dX5_init_5 : decode cX5_init 5 = .ok (.bipush 6, 2) := by decide +kernel
theorem dX5_init_7 : decode cX5_init 7 = .ok (.anewarray 9, 3) := by decide +kernel
theorem dX5_init_10 : decode cX5_init 10 = .ok (.putfield 11, 3) := by decide +kernel
theorem dX5_init_13 : decode cX5_init 13 = .ok (.aload_n 0, 1) := by decide +kernel
theorem dX5_init_14 : decode cX5_init 14 = .ok (.iconst 4, 1) := by decide +kernel
theorem dX5_init_15 : decode cX5_init 15 = .ok (.anewarray 15, 3) := by decide +kernel
theorem dX5_init_18 : decode cX5_init 18 = .ok (.putfield 17, 3) := by decide +kernel
theorem dX5_init_21 : decode cX5_init 21 = .ok (.aload_n 0, 1) := by decide +kernel
theorem dX5_init_22 : decode cX5_init 22 = .ok (.iconst 3, 1) := by decide +kernel
theorem dX5_init_23 : decode cX5_init 23 = .ok (.anewarray 21, 3) := by decide +kernel
theorem dX5_init_26 : decode cX5_init 26 = .ok (.putfield 23, 3) := by decide +kernel
theorem dX5_init_29 : decode cX5_init 29 = .ok (.aload_n 0, 1) := by decide +kernel
theorem dX5_init_30 : decode cX5_init 30 = .ok (.new 21, 3) := by decide +kernel
theorem dX5_init_33 : decode cX5_init 33 = .ok (.dup, 1) := by decide +kernel
theorem dX5_init_34 : decode cX5_init 34 = .ok (.invokespecial 27, 3) := by decide +kernel
theorem dX5_init_37 : decode cX5_init 37 = .ok (.putfield 28, 3) := by decide +kernel
theorem dX5_init_40 : decode cX5_init 40 = .ok (.aload_n 0, 1) := by decide +kernel
theorem dX5_init_41 : decode cX5_init 41 = .ok (.new 32, 3) := by decide +kernel
theorem dX5_init_44 : decode cX5_init 44 = .ok (.dup, 1) := by decide +kernel
theorem dX5_init_45 : decode cX5_init 45 = .ok (.invokespecial 34, 3) := by decide +kernel
theorem dX5_init_48 : decode cX5_init 48 = .ok (.putfield 35, 3) := by decide +kernel
theorem dX5_init_51 : decode cX5_init 51 = .ok (.aload_n 0, 1) := by decide +kernel
theorem dX5_init_52 : decode cX5_init 52 = .ok (.new 32, 3) := by decide +kernel
theorem dX5_init_55 : decode cX5_init 55 = .ok (.dup, 1) := by decide +kernel
theorem dX5_init_56 : decode cX5_init 56 = .ok (.invokespecial 34, 3) := by decide +kernel
theorem dX5_init_59 : decode cX5_init 59 = .ok (.putfield 39, 3) := by decide +kernel
theorem dX5_init_62 : decode cX5_init 62 = .ok (.aload_n 0, 1) := by decide +kernel
theorem dX5_init_63 : decode cX5_init 63 = .ok (.new 42, 3) := by decide +kernel
theorem dX5_init_66 : decode cX5_init 66 = .ok (.dup, 1) := by decide +kernel
theorem dX5_init_67 : decode cX5_init 67 = .ok (.invokespecial 44, 3) := by decide +kernel
theorem dX5_init_70 : decode cX5_init 70 = .ok (.putfield 45, 3) := by decide +kernel
theorem dX5_init_73 : decode cX5_init 73 = .ok (.aload_n 0, 1) := by decide +kernel
theorem dX5_init_74 : decode cX5_init 74 = .ok (.new 42, 3) := by decide +kernel
theorem dX5_init_77 : decode cX5_init 77 = .ok (.dup, 1) := by decide +kernel
theorem dX5_init_78 : decode cX5_init 78 = .ok (.invokespecial 44, 3) := by decide +kernel
theorem dX5_init_81 : decode cX5_init 81 = .ok (.putfield 49, 3) := by decide +kernel
theorem dX5_init_84 : decode cX5_init 84 = .ok (.aload_n 0, 1) := by decide +kernel
theorem dX5_init_85 : decode cX5_init 85 = .ok (.bipush 6, 2) := by decide +kernel
theorem dX5_init_87 : decode cX5_init 87 = .ok (.newarray .int, 2) := by decide +kernel
theorem dX5_init_89 : decode cX5_init 89 = .ok (.putfield 52, 3) := by decide +kernel
theorem dX5_init_92 : decode cX5_init 92 = .ok (.aload_n 0, 1) := by decide +kernel
theorem dX5_init_93 : decode cX5_init 93 = .ok (.bipush 6, 2) := by decide +kernel
theorem dX5_init_95 : decode cX5_init 95 = .ok (.newarray .int, 2) := by decide +kernel
theorem dX5_init_97 : decode cX5_init 97 = .ok (.putfield 56, 3) := by decide +kernel
theorem dX5_init_100 : decode cX5_init 100 = .ok (.aload_n 0, 1) := by decide +kernel
theorem dX5_init_101 : decode cX5_init 101 = .ok (.iconst 0, 1) := by decide +kernel
theorem dX5_init_102 : decode cX5_init 102 = .ok (.putfield 59, 3) := by decide +kernel
theorem dX5_init_105 : decode cX5_init 105 = .ok (.aload_n 0, 1) := by decide +kernel
theorem dX5_init_106 : decode cX5_init 106 = .ok (.iconst 0, 1) := by decide +kernel
theorem dX5_init_107 : decode cX5_init 107 = .ok (.putfield 63, 3) := by decide +kernel
theorem dX5_init_110 : decode cX5_init 110 = .ok (.aload_n 0, 1) := by decide +kernel
theorem dX5_init_111 : decode cX5_init 111 = .ok (.lconst 0, 1) := by decide +kernel
theorem dX5_init_112 : decode cX5_init 112 = .ok (.putfield 66, 3) := by decide +kernel
theorem dX5_init_115 : decode cX5_init 115 = .ok (.aload_n 0, 1) := by decide +kernel
theorem dX5_init_116 : decode cX5_init 116 = .ok (.lconst 1, 1) := by decide +kernel
theorem dX5_init_117 : decode cX5_init 117 = .ok (.putfield 70, 3) := by decide +kernel
theorem dX5_init_120 : decode cX5_init 120 = .ok (.iconst 0, 1) := by decide +kernel
theorem dX5_init_121 : decode cX5_init 121 = .ok (.istore_n 1, 1) := by decide +kernel
theorem dX5_init_122 : decode cX5_init 122 = .ok (.iload_n 1, 1) := by decide +kernel
theorem dX5_init_123 : decode cX5_init 123 = .ok (.bipush 6, 2) := by decide +kernel
theorem dX5_init_125 : decode cX5_init 125 = .ok (.if_icmp .ge 22, 3) := by decide +kernel
theorem dX5_init_128 : decode cX5_init 128 = .ok (.aload_n 0, 1) := by decide +kernel
theorem dX5_init_129 : decode cX5_init 129 = .ok (.getfield 11, 3) := by decide +kernel
theorem dX5_init_132 : decode cX5_init 132 = .ok (.iload_n 1, 1) := by decide +kernel
theorem dX5_init_133 : decode cX5_init 133 = .ok (.new 9, 3) := by decide +kernel
theorem dX5_init_136 : decode cX5_init 136 = .ok (.dup, 1) := by decide +kernel
theorem dX5_init_137 : decode cX5_init 137 = .ok (.invokespecial 73, 3) := by decide +kernel
theorem dX5_init_140 : decode cX5_init 140 = .ok (.aastore, 1) := by decide +kernel
theorem dX5_init_141 : decode cX5_init 141 = .ok (.iinc 1 1, 3) := by decide +kernel
theorem dX5_init_144 : decode cX5_init 144 = .ok (.goto (-22), 3) := by decide +kernel
theorem dX5_init_147 : decode cX5_init 147 = .ok (.iconst 0, 1) := by decide +kernel
theorem dX5_init_148 : decode cX5_init 148 = .ok (.istore_n 1, 1) := by decide +kernel
theorem dX5_init_149 : decode cX5_init 149 = .ok (.iload_n 1, 1) := by decide +kernel
theorem dX5_init_150 : decode cX5_init 150 = .ok (.iconst 4, 1) := by decide +kernel
theorem dX5_init_151 : decode cX5_init 151 = .ok (.if_icmp .ge 22, 3) := by decide +kernel
theorem dX5_init_154 : decode cX5_init 154 = .ok (.aload_n 0, 1) := by decide +kernel
theorem dX5_init_155 : decode cX5_init 155 = .ok (.getfield 17, 3) := by decide +kernel
theorem dX5_init_158 : decode cX5_init 158 = .ok (.iload_n 1, 1) := by decide +kernel
theorem dX5_init_159 : decode cX5_init 159 = .ok (.new 15, 3) := by decide +kernel
theorem dX5_init_162 : decode cX5_init 162 = .ok (.dup, 1) := by decide +kernel
theorem dX5_init_163 : decode cX5_init 163 = .ok (.invokespecial 74, 3) := by decide +kernel
theorem dX5_init_166 : decode cX5_init 166 = .ok (.aastore, 1) := by decide +kernel
theorem dX5_init_167 : decode cX5_init 167 = .ok (.iinc 1 1, 3) := by decide +kernel
theorem dX5_init_170 : decode cX5_init 170 = .ok (.goto (-21), 3) := by decide +kernel
theorem dX5_init_173 : decode cX5_init 173 = .ok (.iconst 0, 1) := by decide +kernel
theorem dX5_init_174 : decode cX5_init 174 = .ok (.istore_n 1, 1) := by decide +kernel
theorem dX5_init_175 : decode cX5_init 175 = .ok (.iload_n 1, 1) := by decide +kernel
theorem dX5_init_176 : decode cX5_init 176 = .ok (.iconst 3, 1) := by decide +kernel
theorem dX5_init_177 : decode cX5_init 177 = .ok (.if_icmp .ge 32, 3) := by decide +kernel
theorem dX5_init_180 : decode cX5_init 180 = .ok (.aload_n 0, 1) := by decide +kernel
theorem dX5_init_181 : decode cX5_init 181 = .ok (.getfield 23, 3) := by decide +kernel
theorem dX5_init_184 : decode cX5_init 184 = .ok (.iload_n 1, 1) := by decide +kernel
theorem dX5_init_185 : decode cX5_init 185 = .ok (.new 21, 3) := by decide +kernel
theorem dX5_init_188 : decode cX5_init 188 = .ok (.dup, 1) := by decide +kernel
theorem dX5_init_189 : decode cX5_init 189 = .ok (.invokespecial 27, 3) := by decide +kernel
theorem dX5_init_192 : decode cX5_init 192 = .ok (.aastore, 1) := by decide +kernel
theorem dX5_init_193 : decode cX5_init 193 = .ok (.aload_n 0, 1) := by decide +kernel
theorem dX5_init_194 : decode cX5_init 194 = .ok (.getfield 23, 3) := by decide +kernel
theorem dX5_init_197 : decode cX5_init 197 = .ok (.iload_n 1, 1) := by decide +kernel
theorem dX5_init_198 : decode cX5_init 198 = .ok (.aaload, 1) := by decide +kernel
theorem dX5_init_199 : decode cX5_init 199 = .ok (.iconst (-1), 1) := by decide +kernel
theorem dX5_init_200 : decode cX5_init 200 = .ok (.putfield 75, 3) := by decide +kernel
theorem dX5_init_203 : decode cX5_init 203 = .ok (.iinc 1 1, 3) := by decide +kernel
theorem dX5_init_206 : decode cX5_init 206 = .ok (.goto (-31), 3) := by decide +kernel
theorem dX5_init_209 : decode cX5_init 209 = .ok (.return_, 1) := by decide +kernel
theorem dX5_row_0 : decode cX5_row 0 = .ok (.iload_n 1, 1) := by decide +kernel
theorem dX5_row_1 : decode cX5_row 1 = .ok (.invokestatic 78, 3) := by decide +kernel
theorem dX5_row_4 : decode cX5_row 4 = .ok (.ifCond .eq 9, 3) := by decide +kernel
theorem dX5_row_7 : decode cX5_row 7 = .ok (.iload_n 2, 1) := by decide +kernel
theorem dX5_row_8 : decode cX5_row 8 = .ok (.bipush 40, 2) := by decide +kernel
theorem dX5_row_10 : decode cX5_row 10 = .ok (.if_icmp .le 5, 3) := by decide +kernel
theorem dX5_row_13 : decode cX5_row 13 = .ok (.iconst (-1), 1) := by decide +kernel
theorem dX5_row_14 : decode cX5_row 14 = .ok (.ireturn, 1) := by decide +kernel
theorem dX5_row_15 : decode cX5_row 15 = .ok (.iload_n 2, 1) := by decide +kernel
theorem dX5_row_16 : decode cX5_row 16 = .ok (.ifCond .ge 9, 3) := by decide +kernel
theorem dX5_row_19 : decode cX5_row 19 = .ok (.aload_n 0, 1) := by decide +kernel
theorem dX5_row_20 : decode cX5_row 20 = .ok (.iconst 5, 1) := by decide +kernel
theorem dX5_row_21 : decode cX5_row 21 = .ok (.invokevirtual 82, 3) := by decide +kernel
theorem dX5_row_24 : decode cX5_row 24 = .ok (.ireturn, 1) := by decide +kernel
theorem dX5_row_25 : decode cX5_row 25 = .ok (.aload_n 0, 1) := by decide +kernel
theorem dX5_row_26 : decode cX5_row 26 = .ok (.getfield 11, 3) := by decide +kernel
theorem dX5_row_29 : decode cX5_row 29 = .ok (.iload_n 1, 1) := by decide +kernel
theorem dX5_row_30 : decode cX5_row 30 = .ok (.aaload, 1) := by decide +kernel
theorem dX5_row_31 : decode cX5_row 31 = .ok (.iload_n 2, 1) := by decide +kernel
theorem dX5_row_32 : decode cX5_row 32 = .ok (.invokevirtual 86, 3) := by decide +kernel
theorem dX5_row_35 : decode cX5_row 35 = .ok (.iload_n 2, 1) := by decide +kernel
theorem dX5_row_36 : decode cX5_row 36 = .ok (.ireturn, 1) := by decide +kernel
theorem dX5_lay_0 : decode cX5_lay 0 = .ok (.iload_n 1, 1) := by decide +kernel
theorem dX5_lay_1 : decode cX5_lay 1 = .ok (.invokestatic 78, 3) := by decide +kernel
theorem dX5_lay_4 : decode cX5_lay 4 = .ok (.ifCond .ne 5, 3) := by decide +kernel
theorem dX5_lay_7 : decode cX5_lay 7 = .ok (.iconst (-1), 1) := by decide +kernel
theorem dX5_lay_8 : decode cX5_lay 8 = .ok (.ireturn, 1) := by decide +kernel
theorem dX5_lay_9 : decode cX5_lay 9 = .ok (.aload_n 0, 1) := by decide +kernel
theorem dX5_lay_10 : decode cX5_lay 10 = .ok (.getfield 11, 3) := by decide +kernel
theorem dX5_lay_13 : decode cX5_lay 13 = .ok (.iload_n 1, 1) := by decide +kernel
theorem dX5_lay_14 : decode cX5_lay 14 = .ok (.aaload, 1) := by decide +kernel
theorem dX5_lay_15 : decode cX5_lay 15 = .ok (.astore 4, 2) := by decide +kernel
theorem dX5_lay_17 : decode cX5_lay 17 = .ok (.aload 4, 2) := by decide +kernel
theorem dX5_lay_19 : decode cX5_lay 19 = .ok (.getfield 90, 3) := by decide +kernel
theorem dX5_lay_22 : decode cX5_lay 22 = .ok (.iconst (-1), 1) := by decide +kernel
theorem dX5_lay_23 : decode cX5_lay 23 = .ok (.if_icmp .ne 9, 3) := by decide +kernel
theorem dX5_lay_26 : decode cX5_lay 26 = .ok (.aload_n 0, 1) := by decide +kernel
theorem dX5_lay_27 : decode cX5_lay 27 = .ok (.iconst 1, 1) := by decide +kernel
theorem dX5_lay_28 : decode cX5_lay 28 = .ok (.invokevirtual 82, 3) := by decide +kernel
theorem dX5_lay_31 : decode cX5_lay 31 = .ok (.ireturn, 1) := by decide +kernel
theorem dX5_lay_32 : decode cX5_lay 32 = .ok (.aload 4, 2) := by decide +kernel
theorem dX5_lay_34 : decode cX5_lay 34 = .ok (.iload_n 2, 1) := by decide +kernel
theorem dX5_lay_35 : decode cX5_lay 35 = .ok (.invokevirtual 91, 3) := by decide +kernel
theorem dX5_lay_38 : decode cX5_lay 38 = .ok (.ifCond .ne 9, 3) := by decide +kernel
theorem dX5_lay_41 : decode cX5_lay 41 = .ok (.aload_n 0, 1) := by decide +kernel
theorem dX5_lay_42 : decode cX5_lay 42 = .ok (.iconst 2, 1) := by decide +kernel
theorem dX5_lay_43 : decode cX5_lay 43 = .ok (.invokevirtual 82, 3) := by decide +kernel
theorem dX5_lay_46 : decode cX5_lay 46 = .ok (.ireturn, 1) := by decide +kernel
theorem dX5_lay_47 : decode cX5_lay 47 = .ok (.aload_n 0, 1) := by decide +kernel
theorem dX5_lay_48 : decode cX5_lay 48 = .ok (.aload 4, 2) := by decide +kernel
theorem dX5_lay_50 : decode cX5_lay 50 = .ok (.getfield 94, 3) := by decide +kernel
theorem dX5_lay_53 : decode cX5_lay 53 = .ok (.iload_n 2, 1) := by decide +kernel
theorem dX5_lay_54 : decode cX5_lay 54 = .ok (.iaload, 1) := by decide +kernel
theorem dX5_lay_55 : decode cX5_lay 55 = .ok (.putfield 63, 3) := by decide +kernel
theorem dX5_lay_58 : decode cX5_lay 58 = .ok (.aload 4, 2) := by decide +kernel
theorem dX5_lay_60 : decode cX5_lay 60 = .ok (.getfield 94, 3) := by decide +kernel
theorem dX5_lay_63 : decode cX5_lay 63 = .ok (.iload_n 2, 1) := by decide +kernel
theorem dX5_lay_64 : decode cX5_lay 64 = .ok (.iload_n 3, 1) := by decide +kernel
theorem dX5_lay_65 : decode cX5_lay 65 = .ok (.iastore, 1) := by decide +kernel
theorem dX5_lay_66 : decode cX5_lay 66 = .ok (.iconst 1, 1) := by decide +kernel
theorem dX5_lay_67 : decode cX5_lay 67 = .ok (.ireturn, 1) := by decide +kernel
theorem dX5_at_0 : decode cX5_at 0 = .ok (.iload_n 1, 1) := by decide +kernel
theorem dX5_at_1 : decode cX5_at 1 = .ok (.invokestatic 78, 3) := by decide +kernel
theorem dX5_at_4 : decode cX5_at 4 = .ok (.ifCond .ne 5, 3) := by decide +kernel
theorem dX5_at_7 : decode cX5_at 7 = .ok (.iconst (-1), 1) := by decide +kernel
theorem dX5_at_8 : decode cX5_at 8 = .ok (.ireturn, 1) := by decide +kernel
theorem dX5_at_9 : decode cX5_at 9 = .ok (.aload_n 0, 1) := by decide +kernel
theorem dX5_at_10 : decode cX5_at 10 = .ok (.getfield 11, 3) := by decide +kernel
theorem dX5_at_13 : decode cX5_at 13 = .ok (.iload_n 1, 1) := by decide +kernel
theorem dX5_at_14 : decode cX5_at 14 = .ok (.aaload, 1) := by decide +kernel
theorem dX5_at_15 : decode cX5_at 15 = .ok (.astore_n 3, 1) := by decide +kernel
theorem dX5_at_16 : decode cX5_at 16 = .ok (.aload_n 3, 1) := by decide +kernel
theorem dX5_at_17 : decode cX5_at 17 = .ok (.getfield 90, 3) := by decide +kernel
theorem dX5_at_20 : decode cX5_at 20 = .ok (.iconst (-1), 1) := by decide +kernel
theorem dX5_at_21 : decode cX5_at 21 = .ok (.if_icmp .ne 9, 3) := by decide +kernel
theorem dX5_at_24 : decode cX5_at 24 = .ok (.aload_n 0, 1) := by decide +kernel
theorem dX5_at_25 : decode cX5_at 25 = .ok (.iconst 1, 1) := by decide +kernel
theorem dX5_at_26 : decode cX5_at 26 = .ok (.invokevirtual 82, 3) := by decide +kernel
theorem dX5_at_29 : decode cX5_at 29 = .ok (.ireturn, 1) := by decide +kernel
theorem dX5_at_30 : decode cX5_at 30 = .ok (.aload_n 3, 1) := by decide +kernel
theorem dX5_at_31 : decode cX5_at 31 = .ok (.iload_n 2, 1) := by decide +kernel
theorem dX5_at_32 : decode cX5_at 32 = .ok (.invokevirtual 91, 3) := by decide +kernel
theorem dX5_at_35 : decode cX5_at 35 = .ok (.ifCond .ne 9, 3) := by decide +kernel
theorem dX5_at_38 : decode cX5_at 38 = .ok (.aload_n 0, 1) := by decide +kernel
theorem dX5_at_39 : decode cX5_at 39 = .ok (.iconst 2, 1) := by decide +kernel
theorem dX5_at_40 : decode cX5_at 40 = .ok (.invokevirtual 82, 3) := by decide +kernel
theorem dX5_at_43 : decode cX5_at 43 = .ok (.ireturn, 1) := by decide +kernel
theorem dX5_at_44 : decode cX5_at 44 = .ok (.aload_n 0, 1) := by decide +kernel
theorem dX5_at_45 : decode cX5_at 45 = .ok (.aload_n 3, 1) := by decide +kernel
theorem dX5_at_46 : decode cX5_at 46 = .ok (.getfield 94, 3) := by decide +kernel
theorem dX5_at_49 : decode cX5_at 49 = .ok (.iload_n 2, 1) := by decide +kernel
theorem dX5_at_50 : decode cX5_at 50 = .ok (.iaload, 1) := by decide +kernel
theorem dX5_at_51 : decode cX5_at 51 = .ok (.putfield 63, 3) := by decide +kernel
theorem dX5_at_54 : decode cX5_at 54 = .ok (.iconst 1, 1) := by decide +kernel
theorem dX5_at_55 : decode cX5_at 55 = .ok (.ireturn, 1) := by decide +kernel
theorem dX5_tear_0 : decode cX5_tear 0 = .ok (.iload_n 1, 1) := by decide +kernel
theorem dX5_tear_1 : decode cX5_tear 1 = .ok (.invokestatic 78, 3) := by decide +kernel
theorem dX5_tear_4 : decode cX5_tear 4 = .ok (.ifCond .ne 5, 3) := by decide +kernel
theorem dX5_tear_7 : decode cX5_tear 7 = .ok (.iconst (-1), 1) := by decide +kernel
theorem dX5_tear_8 : decode cX5_tear 8 = .ok (.ireturn, 1) := by decide +kernel
theorem dX5_tear_9 : decode cX5_tear 9 = .ok (.aload_n 0, 1) := by decide +kernel
theorem dX5_tear_10 : decode cX5_tear 10 = .ok (.getfield 11, 3) := by decide +kernel
theorem dX5_tear_13 : decode cX5_tear 13 = .ok (.iload_n 1, 1) := by decide +kernel
theorem dX5_tear_14 : decode cX5_tear 14 = .ok (.aaload, 1) := by decide +kernel
theorem dX5_tear_15 : decode cX5_tear 15 = .ok (.getfield 90, 3) := by decide +kernel
theorem dX5_tear_18 : decode cX5_tear 18 = .ok (.iconst (-1), 1) := by decide +kernel
theorem dX5_tear_19 : decode cX5_tear 19 = .ok (.if_icmp .ne 9, 3) := by decide +kernel
theorem dX5_tear_22 : decode cX5_tear 22 = .ok (.aload_n 0, 1) := by decide +kernel
theorem dX5_tear_23 : decode cX5_tear 23 = .ok (.iconst 1, 1) := by decide +kernel
theorem dX5_tear_24 : decode cX5_tear 24 = .ok (.invokevirtual 82, 3) := by decide +kernel
theorem dX5_tear_27 : decode cX5_tear 27 = .ok (.ireturn, 1) := by decide +kernel
theorem dX5_tear_28 : decode cX5_tear 28 = .ok (.aload_n 0, 1) := by decide +kernel
theorem dX5_tear_29 : decode cX5_tear 29 = .ok (.getfield 11, 3) := by decide +kernel
theorem dX5_tear_32 : decode cX5_tear 32 = .ok (.iload_n 1, 1) := by decide +kernel
theorem dX5_tear_33 : decode cX5_tear 33 = .ok (.aaload, 1) := by decide +kernel
theorem dX5_tear_34 : decode cX5_tear 34 = .ok (.iconst (-1), 1) := by decide +kernel
theorem dX5_tear_35 : decode cX5_tear 35 = .ok (.putfield 90, 3) := by decide +kernel
theorem dX5_tear_38 : decode cX5_tear 38 = .ok (.iconst 1, 1) := by decide +kernel
theorem dX5_tear_39 : decode cX5_tear 39 = .ok (.ireturn, 1) := by decide +kernel
theorem dX5_copy_0 : decode cX5_copy 0 = .ok (.iload_n 1, 1) := by decide +kernel
theorem dX5_copy_1 : decode cX5_copy 1 = .ok (.invokestatic 78, 3) := by decide +kernel
theorem dX5_copy_4 : decode cX5_copy 4 = .ok (.ifCond .eq 10, 3) := by decide +kernel
theorem dX5_copy_7 : decode cX5_copy 7 = .ok (.iload_n 3, 1) := by decide +kernel
theorem dX5_copy_8 : decode cX5_copy 8 = .ok (.invokestatic 78, 3) := by decide +kernel
theorem dX5_copy_11 : decode cX5_copy 11 = .ok (.ifCond .ne 5, 3) := by decide +kernel
theorem dX5_copy_14 : decode cX5_copy 14 = .ok (.iconst (-1), 1) := by decide +kernel
theorem dX5_copy_15 : decode cX5_copy 15 = .ok (.ireturn, 1) := by decide +kernel
theorem dX5_copy_16 : decode cX5_copy 16 = .ok (.iload 5, 2) := by decide +kernel
theorem dX5_copy_18 : decode cX5_copy 18 = .ok (.ifCond .ge 9, 3) := by decide +kernel
theorem dX5_copy_21 : decode cX5_copy 21 = .ok (.aload_n 0, 1) := by decide +kernel
theorem dX5_copy_22 : decode cX5_copy 22 = .ok (.iconst 5, 1) := by decide +kernel
theorem dX5_copy_23 : decode cX5_copy 23 = .ok (.invokevirtual 82, 3) := by decide +kernel
theorem dX5_copy_26 : decode cX5_copy 26 = .ok (.ireturn, 1) := by decide +kernel
theorem dX5_copy_27 : decode cX5_copy 27 = .ok (.aload_n 0, 1) := by decide +kernel
theorem dX5_copy_28 : decode cX5_copy 28 = .ok (.getfield 11, 3) := by decide +kernel
theorem dX5_copy_31 : decode cX5_copy 31 = .ok (.iload_n 1, 1) := by decide +kernel
theorem dX5_copy_32 : decode cX5_copy 32 = .ok (.aaload, 1) := by decide +kernel
theorem dX5_copy_33 : decode cX5_copy 33 = .ok (.astore 6, 2) := by decide +kernel
theorem dX5_copy_35 : decode cX5_copy 35 = .ok (.aload_n 0, 1) := by decide +kernel
theorem dX5_copy_36 : decode cX5_copy 36 = .ok (.getfield 11, 3) := by decide +kernel
theorem dX5_copy_39 : decode cX5_copy 39 = .ok (.iload_n 3, 1) := by decide +kernel
theorem dX5_copy_40 : decode cX5_copy 40 = .ok (.aaload, 1) := by decide +kernel
theorem dX5_copy_41 : decode cX5_copy 41 = .ok (.astore 7, 2) := by decide +kernel
theorem dX5_copy_43 : decode cX5_copy 43 = .ok (.aload 6, 2) := by decide +kernel
theorem dX5_copy_45 : decode cX5_copy 45 = .ok (.getfield 90, 3) := by decide +kernel
theorem dX5_copy_48 : decode cX5_copy 48 = .ok (.iconst (-1), 1) := by decide +kernel
theorem dX5_copy_49 : decode cX5_copy 49 = .ok (.if_icmp .eq 12, 3) := by decide +kernel
theorem dX5_copy_52 : decode cX5_copy 52 = .ok (.aload 7, 2) := by decide +kernel
theorem dX5_copy_54 : decode cX5_copy 54 = .ok (.getfield 90, 3) := by decide +kernel
theorem dX5_copy_57 : decode cX5_copy 57 = .ok (.iconst (-1), 1) := by decide +kernel
theorem dX5_copy_58 : decode cX5_copy 58 = .ok (.if_icmp .ne 9, 3) := by decide +kernel
theorem dX5_copy_61 : decode cX5_copy 61 = .ok (.aload_n 0, 1) := by decide +kernel
theorem dX5_copy_62 : decode cX5_copy 62 = .ok (.iconst 1, 1) := by decide +kernel
theorem dX5_copy_63 : decode cX5_copy 63 = .ok (.invokevirtual 82, 3) := by decide +kernel
theorem dX5_copy_66 : decode cX5_copy 66 = .ok (.ireturn, 1) := by decide +kernel
theorem dX5_copy_67 : decode cX5_copy 67 = .ok (.aload 6, 2) := by decide +kernel
theorem dX5_copy_69 : decode cX5_copy 69 = .ok (.iload_n 2, 1) := by decide +kernel
theorem dX5_copy_70 : decode cX5_copy 70 = .ok (.iload 5, 2) := by decide +kernel
theorem dX5_copy_72 : decode cX5_copy 72 = .ok (.invokevirtual 97, 3) := by decide +kernel
theorem dX5_copy_75 : decode cX5_copy 75 = .ok (.ifCond .eq 15, 3) := by decide +kernel
theorem dX5_copy_78 : decode cX5_copy 78 = .ok (.aload 7, 2) := by decide +kernel
theorem dX5_copy_80 : decode cX5_copy 80 = .ok (.iload 4, 2) := by decide +kernel
theorem dX5_copy_82 : decode cX5_copy 82 = .ok (.iload 5, 2) := by decide +kernel
theorem dX5_copy_84 : decode cX5_copy 84 = .ok (.invokevirtual 97, 3) := by decide +kernel
theorem dX5_copy_87 : decode cX5_copy 87 = .ok (.ifCond .ne 9, 3) := by decide +kernel
theorem dX5_copy_90 : decode cX5_copy 90 = .ok (.aload_n 0, 1) := by decide +kernel
theorem dX5_copy_91 : decode cX5_copy 91 = .ok (.iconst 2, 1) := by decide +kernel
theorem dX5_copy_92 : decode cX5_copy 92 = .ok (.invokevirtual 82, 3) := by decide +kernel
theorem dX5_copy_95 : decode cX5_copy 95 = .ok (.ireturn, 1) := by decide +kernel
theorem dX5_copy_96 : decode cX5_copy 96 = .ok (.aload 6, 2) := by decide +kernel
theorem dX5_copy_98 : decode cX5_copy 98 = .ok (.getfield 94, 3) := by decide +kernel
theorem dX5_copy_101 : decode cX5_copy 101 = .ok (.iload_n 2, 1) := by decide +kernel
theorem dX5_copy_102 : decode cX5_copy 102 = .ok (.aload 7, 2) := by decide +kernel
theorem dX5_copy_104 : decode cX5_copy 104 = .ok (.getfield 94, 3) := by decide +kernel
theorem dX5_copy_107 : decode cX5_copy 107 = .ok (.iload 4, 2) := by decide +kernel
theorem dX5_copy_109 : decode cX5_copy 109 = .ok (.iload 5, 2) := by decide +kernel
theorem dX5_copy_111 : decode cX5_copy 111 = .ok (.invokestatic 101, 3) := by decide +kernel
theorem dX5_copy_114 : decode cX5_copy 114 = .ok (.iconst 1, 1) := by decide +kernel
theorem dX5_copy_115 : decode cX5_copy 115 = .ok (.ireturn, 1) := by decide +kernel
theorem dX5_mean_0 : decode cX5_mean 0 = .ok (.iload_n 1, 1) := by decide +kernel
theorem dX5_mean_1 : decode cX5_mean 1 = .ok (.invokestatic 78, 3) := by decide +kernel
theorem dX5_mean_4 : decode cX5_mean 4 = .ok (.ifCond .ne 5, 3) := by decide +kernel
theorem dX5_mean_7 : decode cX5_mean 7 = .ok (.iconst (-1), 1) := by decide +kernel
theorem dX5_mean_8 : decode cX5_mean 8 = .ok (.ireturn, 1) := by decide +kernel
theorem dX5_mean_9 : decode cX5_mean 9 = .ok (.aload_n 0, 1) := by decide +kernel
theorem dX5_mean_10 : decode cX5_mean 10 = .ok (.getfield 11, 3) := by decide +kernel
theorem dX5_mean_13 : decode cX5_mean 13 = .ok (.iload_n 1, 1) := by decide +kernel
theorem dX5_mean_14 : decode cX5_mean 14 = .ok (.aaload, 1) := by decide +kernel
theorem dX5_mean_15 : decode cX5_mean 15 = .ok (.astore_n 2, 1) := by decide +kernel
theorem dX5_mean_16 : decode cX5_mean 16 = .ok (.aload_n 2, 1) := by decide +kernel
theorem dX5_mean_17 : decode cX5_mean 17 = .ok (.getfield 90, 3) := by decide +kernel
theorem dX5_mean_20 : decode cX5_mean 20 = .ok (.iconst (-1), 1) := by decide +kernel
theorem dX5_mean_21 : decode cX5_mean 21 = .ok (.if_icmp .ne 9, 3) := by decide +kernel
theorem dX5_mean_24 : decode cX5_mean 24 = .ok (.aload_n 0, 1) := by decide +kernel
theorem dX5_mean_25 : decode cX5_mean 25 = .ok (.iconst 1, 1) := by decide +kernel
theorem dX5_mean_26 : decode cX5_mean 26 = .ok (.invokevirtual 82, 3) := by decide +kernel
theorem dX5_mean_29 : decode cX5_mean 29 = .ok (.ireturn, 1) := by decide +kernel
theorem dX5_mean_30 : decode cX5_mean 30 = .ok (.aload_n 2, 1) := by decide +kernel
theorem dX5_mean_31 : decode cX5_mean 31 = .ok (.getfield 90, 3) := by decide +kernel
theorem dX5_mean_34 : decode cX5_mean 34 = .ok (.ifCond .ne 9, 3) := by decide +kernel
theorem dX5_mean_37 : decode cX5_mean 37 = .ok (.aload_n 0, 1) := by decide +kernel
theorem dX5_mean_38 : decode cX5_mean 38 = .ok (.iconst 4, 1) := by decide +kernel
theorem dX5_mean_39 : decode cX5_mean 39 = .ok (.invokevirtual 82, 3) := by decide +kernel
theorem dX5_mean_42 : decode cX5_mean 42 = .ok (.ireturn, 1) := by decide +kernel
theorem dX5_mean_43 : decode cX5_mean 43 = .ok (.aload_n 0, 1) := by decide +kernel
theorem dX5_mean_44 : decode cX5_mean 44 = .ok (.aload_n 2, 1) := by decide +kernel
theorem dX5_mean_45 : decode cX5_mean 45 = .ok (.invokevirtual 107, 3) := by decide +kernel
theorem dX5_mean_48 : decode cX5_mean 48 = .ok (.aload_n 2, 1) := by decide +kernel
theorem dX5_mean_49 : decode cX5_mean 49 = .ok (.getfield 90, 3) := by decide +kernel
theorem dX5_mean_52 : decode cX5_mean 52 = .ok (.i2l, 1) := by decide +kernel
theorem dX5_mean_53 : decode cX5_mean 53 = .ok (.ldiv, 1) := by decide +kernel
theorem dX5_mean_54 : decode cX5_mean 54 = .ok (.l2i, 1) := by decide +kernel
theorem dX5_mean_55 : decode cX5_mean 55 = .ok (.putfield 63, 3) := by decide +kernel
theorem dX5_mean_58 : decode cX5_mean 58 = .ok (.iconst 1, 1) := by decide +kernel
theorem dX5_mean_59 : decode cX5_mean 59 = .ok (.ireturn, 1) := by decide +kernel
theorem dX5_text_0 : decode cX5_text 0 = .ok (.iload_n 1, 1) := by decide +kernel
theorem dX5_text_1 : decode cX5_text 1 = .ok (.invokestatic 111, 3) := by decide +kernel
theorem dX5_text_4 : decode cX5_text 4 = .ok (.ifCond .eq 9, 3) := by decide +kernel
theorem dX5_text_7 : decode cX5_text 7 = .ok (.iload_n 2, 1) := by decide +kernel
theorem dX5_text_8 : decode cX5_text 8 = .ok (.bipush 60, 2) := by decide +kernel
theorem dX5_text_10 : decode cX5_text 10 = .ok (.if_icmp .le 5, 3) := by decide +kernel
theorem dX5_text_13 : decode cX5_text 13 = .ok (.iconst (-1), 1) := by decide +kernel
theorem dX5_text_14 : decode cX5_text 14 = .ok (.ireturn, 1) := by decide +kernel
theorem dX5_text_15 : decode cX5_text 15 = .ok (.iload_n 2, 1) := by decide +kernel
theorem dX5_text_16 : decode cX5_text 16 = .ok (.ifCond .ge 9, 3) := by decide +kernel
theorem dX5_text_19 : decode cX5_text 19 = .ok (.aload_n 0, 1) := by decide +kernel
theorem dX5_text_20 : decode cX5_text 20 = .ok (.iconst 5, 1) := by decide +kernel
theorem dX5_text_21 : decode cX5_text 21 = .ok (.invokevirtual 82, 3) := by decide +kernel
theorem dX5_text_24 : decode cX5_text 24 = .ok (.ireturn, 1) := by decide +kernel
theorem dX5_text_25 : decode cX5_text 25 = .ok (.aload_n 0, 1) := by decide +kernel
theorem dX5_text_26 : decode cX5_text 26 = .ok (.getfield 17, 3) := by decide +kernel
theorem dX5_text_29 : decode cX5_text 29 = .ok (.iload_n 1, 1) := by decide +kernel
theorem dX5_text_30 : decode cX5_text 30 = .ok (.aaload, 1) := by decide +kernel
theorem dX5_text_31 : decode cX5_text 31 = .ok (.iload_n 2, 1) := by decide +kernel
theorem dX5_text_32 : decode cX5_text 32 = .ok (.invokevirtual 114, 3) := by decide +kernel
theorem dX5_text_35 : decode cX5_text 35 = .ok (.iload_n 2, 1) := by decide +kernel
theorem dX5_text_36 : decode cX5_text 36 = .ok (.ireturn, 1) := by decide +kernel
theorem dX5_put_0 : decode cX5_put 0 = .ok (.iload_n 1, 1) := by decide +kernel
theorem dX5_put_1 : decode cX5_put 1 = .ok (.invokestatic 111, 3) := by decide +kernel
theorem dX5_put_4 : decode cX5_put 4 = .ok (.ifCond .ne 5, 3) := by decide +kernel
theorem dX5_put_7 : decode cX5_put 7 = .ok (.iconst (-1), 1) := by decide +kernel
theorem dX5_put_8 : decode cX5_put 8 = .ok (.ireturn, 1) := by decide +kernel
theorem dX5_put_9 : decode cX5_put 9 = .ok (.aload_n 0, 1) := by decide +kernel
theorem dX5_put_10 : decode cX5_put 10 = .ok (.getfield 17, 3) := by decide +kernel
theorem dX5_put_13 : decode cX5_put 13 = .ok (.iload_n 1, 1) := by decide +kernel
theorem dX5_put_14 : decode cX5_put 14 = .ok (.aaload, 1) := by decide +kernel
theorem dX5_put_15 : decode cX5_put 15 = .ok (.astore 4, 2) := by decide +kernel
theorem dX5_put_17 : decode cX5_put 17 = .ok (.aload 4, 2) := by decide +kernel
theorem dX5_put_19 : decode cX5_put 19 = .ok (.getfield 115, 3) := by decide +kernel
theorem dX5_put_22 : decode cX5_put 22 = .ok (.iconst (-1), 1) := by decide +kernel
theorem dX5_put_23 : decode cX5_put 23 = .ok (.if_icmp .ne 9, 3) := by decide +kernel
theorem dX5_put_26 : decode cX5_put 26 = .ok (.aload_n 0, 1) := by decide +kernel
theorem dX5_put_27 : decode cX5_put 27 = .ok (.iconst 1, 1) := by decide +kernel
theorem dX5_put_28 : decode cX5_put 28 = .ok (.invokevirtual 82, 3) := by decide +kernel
theorem dX5_put_31 : decode cX5_put 31 = .ok (.ireturn, 1) := by decide +kernel
theorem dX5_put_32 : decode cX5_put 32 = .ok (.iload_n 2, 1) := by decide +kernel
theorem dX5_put_33 : decode cX5_put 33 = .ok (.ifCond .lt 12, 3) := by decide +kernel
theorem dX5_put_36 : decode cX5_put 36 = .ok (.iload_n 2, 1) := by decide +kernel
theorem dX5_put_37 : decode cX5_put 37 = .ok (.aload 4, 2) := by decide +kernel
theorem dX5_put_39 : decode cX5_put 39 = .ok (.getfield 115, 3) := by decide +kernel
theorem dX5_put_42 : decode cX5_put 42 = .ok (.if_icmp .lt 9, 3) := by decide +kernel
theorem dX5_put_45 : decode cX5_put 45 = .ok (.aload_n 0, 1) := by decide +kernel
theorem dX5_put_46 : decode cX5_put 46 = .ok (.iconst 2, 1) := by decide +kernel
theorem dX5_put_47 : decode cX5_put 47 = .ok (.invokevirtual 82, 3) := by decide +kernel
theorem dX5_put_50 : decode cX5_put 50 = .ok (.ireturn, 1) := by decide +kernel
theorem dX5_put_51 : decode cX5_put 51 = .ok (.aload 4, 2) := by decide +kernel
theorem dX5_put_53 : decode cX5_put 53 = .ok (.getfield 116, 3) := by decide +kernel
theorem dX5_put_56 : decode cX5_put 56 = .ok (.iload_n 2, 1) := by decide +kernel
theorem dX5_put_57 : decode cX5_put 57 = .ok (.baload, 1) := by decide +kernel
theorem dX5_put_58 : decode cX5_put 58 = .ok (.istore 5, 2) := by decide +kernel
theorem dX5_put_60 : decode cX5_put 60 = .ok (.aload 4, 2) := by decide +kernel
theorem dX5_put_62 : decode cX5_put 62 = .ok (.getfield 116, 3) := by decide +kernel
theorem dX5_put_65 : decode cX5_put 65 = .ok (.iload_n 2, 1) := by decide +kernel
theorem dX5_put_66 : decode cX5_put 66 = .ok (.iload_n 3, 1) := by decide +kernel
theorem dX5_put_67 : decode cX5_put 67 = .ok (.i2b, 1) := by decide +kernel
theorem dX5_put_68 : decode cX5_put 68 = .ok (.bastore, 1) := by decide +kernel
theorem dX5_put_69 : decode cX5_put 69 = .ok (.iload 5, 2) := by decide +kernel
theorem dX5_put_71 : decode cX5_put 71 = .ok (.sipush 1000, 3) := by decide +kernel
theorem dX5_put_74 : decode cX5_put 74 = .ok (.iadd, 1) := by decide +kernel
theorem dX5_put_75 : decode cX5_put 75 = .ok (.ireturn, 1) := by decide +kernel
theorem dX5_fault_0 : decode cX5_fault 0 = .ok (.iload_n 1, 1) := by decide +kernel
theorem dX5_fault_1 : decode cX5_fault 1 = .ok (.invokestatic 111, 3) := by decide +kernel
theorem dX5_fault_4 : decode cX5_fault 4 = .ok (.ifCond .ne 5, 3) := by decide +kernel
theorem dX5_fault_7 : decode cX5_fault 7 = .ok (.iconst (-1), 1) := by decide +kernel
theorem dX5_fault_8 : decode cX5_fault 8 = .ok (.ireturn, 1) := by decide +kernel
theorem dX5_fault_9 : decode cX5_fault 9 = .ok (.aload_n 0, 1) := by decide +kernel
theorem dX5_fault_10 : decode cX5_fault 10 = .ok (.getfield 17, 3) := by decide +kernel
theorem dX5_fault_13 : decode cX5_fault 13 = .ok (.iload_n 1, 1) := by decide +kernel
theorem dX5_fault_14 : decode cX5_fault 14 = .ok (.aaload, 1) := by decide +kernel
theorem dX5_fault_15 : decode cX5_fault 15 = .ok (.getfield 115, 3) := by decide +kernel
theorem dX5_fault_18 : decode cX5_fault 18 = .ok (.iconst (-1), 1) := by decide +kernel
theorem dX5_fault_19 : decode cX5_fault 19 = .ok (.if_icmp .ne 9, 3) := by decide +kernel
theorem dX5_fault_22 : decode cX5_fault 22 = .ok (.aload_n 0, 1) := by decide +kernel
theorem dX5_fault_23 : decode cX5_fault 23 = .ok (.iconst 1, 1) := by decide +kernel
theorem dX5_fault_24 : decode cX5_fault 24 = .ok (.invokevirtual 82, 3) := by decide +kernel
theorem dX5_fault_27 : decode cX5_fault 27 = .ok (.ireturn, 1) := by decide +kernel
theorem dX5_fault_28 : decode cX5_fault 28 = .ok (.aload_n 0, 1) := by decide +kernel
theorem dX5_fault_29 : decode cX5_fault 29 = .ok (.getfield 49, 3) := by decide +kernel
theorem dX5_fault_32 : decode cX5_fault 32 = .ok (.aload_n 0, 1) := by decide +kernel
theorem dX5_fault_33 : decode cX5_fault 33 = .ok (.getfield 17, 3) := by decide +kernel
theorem dX5_fault_36 : decode cX5_fault 36 = .ok (.iload_n 1, 1) := by decide +kernel
theorem dX5_fault_37 : decode cX5_fault 37 = .ok (.aaload, 1) := by decide +kernel
theorem dX5_fault_38 : decode cX5_fault 38 = .ok (.invokevirtual 120, 3) := by decide +kernel
theorem dX5_fault_41 : decode cX5_fault 41 = .ok (.ireturn, 1) := by decide +kernel
theorem dX5_town_0 : decode cX5_town 0 = .ok (.iload_n 1, 1) := by decide +kernel
theorem dX5_town_1 : decode cX5_town 1 = .ok (.invokestatic 111, 3) := by decide +kernel
theorem dX5_town_4 : decode cX5_town 4 = .ok (.ifCond .ne 5, 3) := by decide +kernel
theorem dX5_town_7 : decode cX5_town 7 = .ok (.iconst (-1), 1) := by decide +kernel
theorem dX5_town_8 : decode cX5_town 8 = .ok (.ireturn, 1) := by decide +kernel
theorem dX5_town_9 : decode cX5_town 9 = .ok (.aload_n 0, 1) := by decide +kernel
theorem dX5_town_10 : decode cX5_town 10 = .ok (.getfield 17, 3) := by decide +kernel
theorem dX5_town_13 : decode cX5_town 13 = .ok (.iload_n 1, 1) := by decide +kernel
theorem dX5_town_14 : decode cX5_town 14 = .ok (.aaload, 1) := by decide +kernel
theorem dX5_town_15 : decode cX5_town 15 = .ok (.getfield 115, 3) := by decide +kernel
theorem dX5_town_18 : decode cX5_town 18 = .ok (.iconst (-1), 1) := by decide +kernel
theorem dX5_town_19 : decode cX5_town 19 = .ok (.if_icmp .ne 9, 3) := by decide +kernel
theorem dX5_town_22 : decode cX5_town 22 = .ok (.aload_n 0, 1) := by decide +kernel
theorem dX5_town_23 : decode cX5_town 23 = .ok (.iconst 1, 1) := by decide +kernel
theorem dX5_town_24 : decode cX5_town 24 = .ok (.invokevirtual 82, 3) := by decide +kernel
theorem dX5_town_27 : decode cX5_town 27 = .ok (.ireturn, 1) := by decide +kernel
theorem dX5_town_28 : decode cX5_town 28 = .ok (.aload_n 0, 1) := by decide +kernel
theorem dX5_town_29 : decode cX5_town 29 = .ok (.getfield 49, 3) := by decide +kernel
theorem dX5_town_32 : decode cX5_town 32 = .ok (.aload_n 0, 1) := by decide +kernel
theorem dX5_town_33 : decode cX5_town 33 = .ok (.getfield 17, 3) := by decide +kernel
theorem dX5_town_36 : decode cX5_town 36 = .ok (.iload_n 1, 1) := by decide +kernel
theorem dX5_town_37 : decode cX5_town 37 = .ok (.aaload, 1) := by decide +kernel
theorem dX5_town_38 : decode cX5_town 38 = .ok (.invokevirtual 120, 3) := by decide +kernel
theorem dX5_town_41 : decode cX5_town 41 = .ok (.bipush (-9), 2) := by decide +kernel
theorem dX5_town_43 : decode cX5_town 43 = .ok (.if_icmp .eq 6, 3) := by decide +kernel
theorem dX5_town_46 : decode cX5_town 46 = .ok (.bipush (-4), 2) := by decide +kernel
theorem dX5_town_48 : decode cX5_town 48 = .ok (.ireturn, 1) := by decide +kernel
theorem dX5_town_49 : decode cX5_town 49 = .ok (.aload_n 0, 1) := by decide +kernel
theorem dX5_town_50 : decode cX5_town 50 = .ok (.getfield 45, 3) := by decide +kernel
theorem dX5_town_53 : decode cX5_town 53 = .ok (.astore_n 2, 1) := by decide +kernel
theorem dX5_town_54 : decode cX5_town 54 = .ok (.aload_n 0, 1) := by decide +kernel
theorem dX5_town_55 : decode cX5_town 55 = .ok (.aload_n 0, 1) := by decide +kernel
theorem dX5_town_56 : decode cX5_town 56 = .ok (.getfield 49, 3) := by decide +kernel
theorem dX5_town_59 : decode cX5_town 59 = .ok (.putfield 45, 3) := by decide +kernel
theorem dX5_town_62 : decode cX5_town 62 = .ok (.aload_n 0, 1) := by decide +kernel
theorem dX5_town_63 : decode cX5_town 63 = .ok (.aload_n 2, 1) := by decide +kernel
theorem dX5_town_64 : decode cX5_town 64 = .ok (.putfield 49, 3) := by decide +kernel
theorem dX5_town_67 : decode cX5_town 67 = .ok (.iconst 0, 1) := by decide +kernel
theorem dX5_town_68 : decode cX5_town 68 = .ok (.istore_n 3, 1) := by decide +kernel
theorem dX5_town_69 : decode cX5_town 69 = .ok (.iload_n 3, 1) := by decide +kernel
theorem dX5_town_70 : decode cX5_town 70 = .ok (.iconst 3, 1) := by decide +kernel
theorem dX5_town_71 : decode cX5_town 71 = .ok (.if_icmp .ge 19, 3) := by decide +kernel
theorem dX5_town_74 : decode cX5_town 74 = .ok (.aload_n 0, 1) := by decide +kernel
theorem dX5_town_75 : decode cX5_town 75 = .ok (.getfield 23, 3) := by decide +kernel
theorem dX5_town_78 : decode cX5_town 78 = .ok (.iload_n 3, 1) := by decide +kernel
theorem dX5_town_79 : decode cX5_town 79 = .ok (.aaload, 1) := by decide +kernel
theorem dX5_town_80 : decode cX5_town 80 = .ok (.iconst (-1), 1) := by decide +kernel
theorem dX5_town_81 : decode cX5_town 81 = .ok (.putfield 75, 3) := by decide +kernel
theorem dX5_town_84 : decode cX5_town 84 = .ok (.iinc 3 1, 3) := by decide +kernel
theorem dX5_town_87 : decode cX5_town 87 = .ok (.goto (-18), 3) := by decide +kernel
theorem dX5_town_90 : decode cX5_town 90 = .ok (.aload_n 0, 1) := by decide +kernel
theorem dX5_town_91 : decode cX5_town 91 = .ok (.getfield 28, 3) := by decide +kernel
theorem dX5_town_94 : decode cX5_town 94 = .ok (.iconst 0, 1) := by decide +kernel
theorem dX5_town_95 : decode cX5_town 95 = .ok (.putfield 75, 3) := by decide +kernel
theorem dX5_town_98 : decode cX5_town 98 = .ok (.aload_n 0, 1) := by decide +kernel
theorem dX5_town_99 : decode cX5_town 99 = .ok (.invokevirtual 124, 3) := by decide +kernel
theorem dX5_town_102 : decode cX5_town 102 = .ok (.aload_n 0, 1) := by decide +kernel
theorem dX5_town_103 : decode cX5_town 103 = .ok (.getfield 45, 3) := by decide +kernel
theorem dX5_town_106 : decode cX5_town 106 = .ok (.getfield 127, 3) := by decide +kernel
theorem dX5_town_109 : decode cX5_town 109 = .ok (.ireturn, 1) := by decide +kernel
theorem dX5_person_0 : decode cX5_person 0 = .ok (.aload_n 0, 1) := by decide +kernel
theorem dX5_person_1 : decode cX5_person 1 = .ok (.getfield 45, 3) := by decide +kernel
theorem dX5_person_4 : decode cX5_person 4 = .ok (.iload_n 1, 1) := by decide +kernel
theorem dX5_person_5 : decode cX5_person 5 = .ok (.invokevirtual 130, 3) := by decide +kernel
theorem dX5_person_8 : decode cX5_person 8 = .ok (.ifCond .eq 12, 3) := by decide +kernel
theorem dX5_person_11 : decode cX5_person 11 = .ok (.iload_n 2, 1) := by decide +kernel
theorem dX5_person_12 : decode cX5_person 12 = .ok (.ifCond .lt 8, 3) := by decide +kernel
theorem dX5_person_15 : decode cX5_person 15 = .ok (.iload_n 2, 1) := by decide +kernel
theorem dX5_person_16 : decode cX5_person 16 = .ok (.iconst 5, 1) := by decide +kernel
theorem dX5_person_17 : decode cX5_person 17 = .ok (.if_icmp .lt 5, 3) := by decide +kernel
theorem dX5_person_20 : decode cX5_person 20 = .ok (.iconst (-1), 1) := by decide +kernel
theorem dX5_person_21 : decode cX5_person 21 = .ok (.ireturn, 1) := by decide +kernel
theorem dX5_person_22 : decode cX5_person 22 = .ok (.aload_n 0, 1) := by decide +kernel
theorem dX5_person_23 : decode cX5_person 23 = .ok (.aload_n 0, 1) := by decide +kernel
theorem dX5_person_24 : decode cX5_person 24 = .ok (.iload_n 1, 1) := by decide +kernel
theorem dX5_person_25 : decode cX5_person 25 = .ok (.iload_n 2, 1) := by decide +kernel
theorem dX5_person_26 : decode cX5_person 26 = .ok (.invokevirtual 131, 3) := by decide +kernel
theorem dX5_person_29 : decode cX5_person 29 = .ok (.putfield 63, 3) := by decide +kernel
theorem dX5_person_32 : decode cX5_person 32 = .ok (.iconst 1, 1) := by decide +kernel
theorem dX5_person_33 : decode cX5_person 33 = .ok (.ireturn, 1) := by decide +kernel
theorem dX5_mark_0 : decode cX5_mark 0 = .ok (.aload_n 0, 1) := by decide +kernel
theorem dX5_mark_1 : decode cX5_mark 1 = .ok (.getfield 45, 3) := by decide +kernel
theorem dX5_mark_4 : decode cX5_mark 4 = .ok (.iload_n 1, 1) := by decide +kernel
theorem dX5_mark_5 : decode cX5_mark 5 = .ok (.invokevirtual 130, 3) := by decide +kernel
theorem dX5_mark_8 : decode cX5_mark 8 = .ok (.ifCond .eq 14, 3) := by decide +kernel
theorem dX5_mark_11 : decode cX5_mark 11 = .ok (.iload_n 2, 1) := by decide +kernel
theorem dX5_mark_12 : decode cX5_mark 12 = .ok (.iconst 1, 1) := by decide +kernel
theorem dX5_mark_13 : decode cX5_mark 13 = .ok (.if_icmp .lt 9, 3) := by decide +kernel
theorem dX5_mark_16 : decode cX5_mark 16 = .ok (.iload_n 2, 1) := by decide +kernel
theorem dX5_mark_17 : decode cX5_mark 17 = .ok (.bipush 6, 2) := by decide +kernel
theorem dX5_mark_19 : decode cX5_mark 19 = .ok (.if_icmp .lt 5, 3) := by decide +kernel
theorem dX5_mark_22 : decode cX5_mark 22 = .ok (.iconst (-1), 1) := by decide +kernel
theorem dX5_mark_23 : decode cX5_mark 23 = .ok (.ireturn, 1) := by decide +kernel
theorem dX5_mark_24 : decode cX5_mark 24 = .ok (.aload_n 0, 1) := by decide +kernel
theorem dX5_mark_25 : decode cX5_mark 25 = .ok (.getfield 45, 3) := by decide +kernel
theorem dX5_mark_28 : decode cX5_mark 28 = .ok (.iload_n 1, 1) := by decide +kernel
theorem dX5_mark_29 : decode cX5_mark 29 = .ok (.iload_n 2, 1) := by decide +kernel
theorem dX5_mark_30 : decode cX5_mark 30 = .ok (.invokevirtual 135, 3) := by decide +kernel
theorem dX5_mark_33 : decode cX5_mark 33 = .ok (.ifCond .ne 9, 3) := by decide +kernel
theorem dX5_mark_36 : decode cX5_mark 36 = .ok (.aload_n 0, 1) := by decide +kernel
theorem dX5_mark_37 : decode cX5_mark 37 = .ok (.iconst 3, 1) := by decide +kernel
theorem dX5_mark_38 : decode cX5_mark 38 = .ok (.invokevirtual 82, 3) := by decide +kernel
theorem dX5_mark_41 : decode cX5_mark 41 = .ok (.ireturn, 1) := by decide +kernel
theorem dX5_mark_42 : decode cX5_mark 42 = .ok (.iload_n 2, 1) := by decide +kernel
theorem dX5_mark_43 : decode cX5_mark 43 = .ok (.tableswitch 96 1 4 #[29, 45, 54, 78], 29) := by decide +kernel
theorem dX5_mark_72 : decode cX5_mark 72 = .ok (.aload_n 0, 1) := by decide +kernel
theorem dX5_mark_73 : decode cX5_mark 73 = .ok (.getfield 45, 3) := by decide +kernel
theorem dX5_mark_76 : decode cX5_mark 76 = .ok (.iload_n 1, 1) := by decide +kernel
theorem dX5_mark_77 : decode cX5_mark 77 = .ok (.aload_n 0, 1) := by decide +kernel
theorem dX5_mark_78 : decode cX5_mark 78 = .ok (.getfield 35, 3) := by decide +kernel
theorem dX5_mark_81 : decode cX5_mark 81 = .ok (.getfield 138, 3) := by decide +kernel
theorem dX5_mark_84 : decode cX5_mark 84 = .ok (.invokevirtual 141, 3) := by decide +kernel
theorem dX5_mark_87 : decode cX5_mark 87 = .ok (.ireturn, 1) := by decide +kernel
theorem dX5_mark_88 : decode cX5_mark 88 = .ok (.aload_n 0, 1) := by decide +kernel
theorem dX5_mark_89 : decode cX5_mark 89 = .ok (.getfield 35, 3) := by decide +kernel
theorem dX5_mark_92 : decode cX5_mark 92 = .ok (.iload_n 1, 1) := by decide +kernel
theorem dX5_mark_93 : decode cX5_mark 93 = .ok (.invokevirtual 145, 3) := by decide +kernel
theorem dX5_mark_96 : decode cX5_mark 96 = .ok (.ireturn, 1) := by decide +kernel
theorem dX5_mark_97 : decode cX5_mark 97 = .ok (.aload_n 0, 1) := by decide +kernel
theorem dX5_mark_98 : decode cX5_mark 98 = .ok (.getfield 35, 3) := by decide +kernel
theorem dX5_mark_101 : decode cX5_mark 101 = .ok (.iload_n 1, 1) := by decide +kernel
theorem dX5_mark_102 : decode cX5_mark 102 = .ok (.iconst 1, 1) := by decide +kernel
theorem dX5_mark_103 : decode cX5_mark 103 = .ok (.aload_n 0, 1) := by decide +kernel
theorem dX5_mark_104 : decode cX5_mark 104 = .ok (.getfield 35, 3) := by decide +kernel
theorem dX5_mark_107 : decode cX5_mark 107 = .ok (.getfield 138, 3) := by decide +kernel
theorem dX5_mark_110 : decode cX5_mark 110 = .ok (.iload_n 1, 1) := by decide +kernel
theorem dX5_mark_111 : decode cX5_mark 111 = .ok (.iaload, 1) := by decide +kernel
theorem dX5_mark_112 : decode cX5_mark 112 = .ok (.iconst 1, 1) := by decide +kernel
theorem dX5_mark_113 : decode cX5_mark 113 = .ok (.iadd, 1) := by decide +kernel
theorem dX5_mark_114 : decode cX5_mark 114 = .ok (.iconst 4, 1) := by decide +kernel
theorem dX5_mark_115 : decode cX5_mark 115 = .ok (.irem, 1) := by decide +kernel
theorem dX5_mark_116 : decode cX5_mark 116 = .ok (.ishl, 1) := by decide +kernel
theorem dX5_mark_117 : decode cX5_mark 117 = .ok (.invokevirtual 148, 3) := by decide +kernel
theorem dX5_mark_120 : decode cX5_mark 120 = .ok (.ireturn, 1) := by decide +kernel
theorem dX5_mark_121 : decode cX5_mark 121 = .ok (.aload_n 0, 1) := by decide +kernel
theorem dX5_mark_122 : decode cX5_mark 122 = .ok (.getfield 35, 3) := by decide +kernel
theorem dX5_mark_125 : decode cX5_mark 125 = .ok (.iload_n 1, 1) := by decide +kernel
theorem dX5_mark_126 : decode cX5_mark 126 = .ok (.aload_n 0, 1) := by decide +kernel
theorem dX5_mark_127 : decode cX5_mark 127 = .ok (.getfield 35, 3) := by decide +kernel
theorem dX5_mark_130 : decode cX5_mark 130 = .ok (.getfield 151, 3) := by decide +kernel
theorem dX5_mark_133 : decode cX5_mark 133 = .ok (.iload_n 1, 1) := by decide +kernel
theorem dX5_mark_134 : decode cX5_mark 134 = .ok (.iaload, 1) := by decide +kernel
theorem dX5_mark_135 : decode cX5_mark 135 = .ok (.invokevirtual 148, 3) := by decide +kernel
theorem dX5_mark_138 : decode cX5_mark 138 = .ok (.ireturn, 1) := by decide +kernel
theorem dX5_mark_139 : decode cX5_mark 139 = .ok (.aload_n 0, 1) := by decide +kernel
theorem dX5_mark_140 : decode cX5_mark 140 = .ok (.getfield 35, 3) := by decide +kernel
theorem dX5_mark_143 : decode cX5_mark 143 = .ok (.getfield 151, 3) := by decide +kernel
theorem dX5_mark_146 : decode cX5_mark 146 = .ok (.iload_n 1, 1) := by decide +kernel
theorem dX5_mark_147 : decode cX5_mark 147 = .ok (.iaload, 1) := by decide +kernel
theorem dX5_mark_148 : decode cX5_mark 148 = .ok (.invokestatic 154, 3) := by decide +kernel
theorem dX5_mark_151 : decode cX5_mark 151 = .ok (.ireturn, 1) := by decide +kernel
theorem dX5_deal_0 : decode cX5_deal 0 = .ok (.iload_n 1, 1) := by decide +kernel
theorem dX5_deal_1 : decode cX5_deal 1 = .ok (.invokestatic 78, 3) := by decide +kernel
theorem dX5_deal_4 : decode cX5_deal 4 = .ok (.ifCond .ne 5, 3) := by decide +kernel
theorem dX5_deal_7 : decode cX5_deal 7 = .ok (.iconst (-1), 1) := by decide +kernel
theorem dX5_deal_8 : decode cX5_deal 8 = .ok (.ireturn, 1) := by decide +kernel
theorem dX5_deal_9 : decode cX5_deal 9 = .ok (.aload_n 0, 1) := by decide +kernel
theorem dX5_deal_10 : decode cX5_deal 10 = .ok (.getfield 45, 3) := by decide +kernel
theorem dX5_deal_13 : decode cX5_deal 13 = .ok (.getfield 127, 3) := by decide +kernel
theorem dX5_deal_16 : decode cX5_deal 16 = .ok (.ifCond .ne 6, 3) := by decide +kernel
theorem dX5_deal_19 : decode cX5_deal 19 = .ok (.bipush (-4), 2) := by decide +kernel
theorem dX5_deal_21 : decode cX5_deal 21 = .ok (.ireturn, 1) := by decide +kernel
theorem dX5_deal_22 : decode cX5_deal 22 = .ok (.aload_n 0, 1) := by decide +kernel
theorem dX5_deal_23 : decode cX5_deal 23 = .ok (.getfield 11, 3) := by decide +kernel
theorem dX5_deal_26 : decode cX5_deal 26 = .ok (.iload_n 1, 1) := by decide +kernel
theorem dX5_deal_27 : decode cX5_deal 27 = .ok (.aaload, 1) := by decide +kernel
theorem dX5_deal_28 : decode cX5_deal 28 = .ok (.astore_n 2, 1) := by decide +kernel
theorem dX5_deal_29 : decode cX5_deal 29 = .ok (.aload_n 2, 1) := by decide +kernel
theorem dX5_deal_30 : decode cX5_deal 30 = .ok (.getfield 90, 3) := by decide +kernel
theorem dX5_deal_33 : decode cX5_deal 33 = .ok (.iconst (-1), 1) := by decide +kernel
theorem dX5_deal_34 : decode cX5_deal 34 = .ok (.if_icmp .ne 9, 3) := by decide +kernel
theorem dX5_deal_37 : decode cX5_deal 37 = .ok (.aload_n 0, 1) := by decide +kernel
theorem dX5_deal_38 : decode cX5_deal 38 = .ok (.iconst 1, 1) := by decide +kernel
theorem dX5_deal_39 : decode cX5_deal 39 = .ok (.invokevirtual 82, 3) := by decide +kernel
theorem dX5_deal_42 : decode cX5_deal 42 = .ok (.ireturn, 1) := by decide +kernel
theorem dX5_deal_43 : decode cX5_deal 43 = .ok (.aload_n 2, 1) := by decide +kernel
theorem dX5_deal_44 : decode cX5_deal 44 = .ok (.getfield 90, 3) := by decide +kernel
theorem dX5_deal_47 : decode cX5_deal 47 = .ok (.aload_n 0, 1) := by decide +kernel
theorem dX5_deal_48 : decode cX5_deal 48 = .ok (.getfield 45, 3) := by decide +kernel
theorem dX5_deal_51 : decode cX5_deal 51 = .ok (.getfield 127, 3) := by decide +kernel
theorem dX5_deal_54 : decode cX5_deal 54 = .ok (.if_icmp .eq 9, 3) := by decide +kernel
theorem dX5_deal_57 : decode cX5_deal 57 = .ok (.aload_n 0, 1) := by decide +kernel
theorem dX5_deal_58 : decode cX5_deal 58 = .ok (.iconst 5, 1) := by decide +kernel
theorem dX5_deal_59 : decode cX5_deal 59 = .ok (.invokevirtual 82, 3) := by decide +kernel
theorem dX5_deal_62 : decode cX5_deal 62 = .ok (.ireturn, 1) := by decide +kernel
theorem dX5_deal_63 : decode cX5_deal 63 = .ok (.aload_n 2, 1) := by decide +kernel
theorem dX5_deal_64 : decode cX5_deal 64 = .ok (.iconst 4, 1) := by decide +kernel
theorem dX5_deal_65 : decode cX5_deal 65 = .ok (.invokevirtual 159, 3) := by decide +kernel
theorem dX5_deal_68 : decode cX5_deal 68 = .ok (.ifCond .eq 18, 3) := by decide +kernel
theorem dX5_deal_71 : decode cX5_deal 71 = .ok (.aload_n 0, 1) := by decide +kernel
theorem dX5_deal_72 : decode cX5_deal 72 = .ok (.getfield 45, 3) := by decide +kernel
theorem dX5_deal_75 : decode cX5_deal 75 = .ok (.aload_n 2, 1) := by decide +kernel
theorem dX5_deal_76 : decode cX5_deal 76 = .ok (.getfield 94, 3) := by decide +kernel
theorem dX5_deal_79 : decode cX5_deal 79 = .ok (.iconst 0, 1) := by decide +kernel
theorem dX5_deal_80 : decode cX5_deal 80 = .ok (.invokevirtual 162, 3) := by decide +kernel
theorem dX5_deal_83 : decode cX5_deal 83 = .ok (.ifCond .ne 9, 3) := by decide +kernel
theorem dX5_deal_86 : decode cX5_deal 86 = .ok (.aload_n 0, 1) := by decide +kernel
theorem dX5_deal_87 : decode cX5_deal 87 = .ok (.iconst 3, 1) := by decide +kernel
theorem dX5_deal_88 : decode cX5_deal 88 = .ok (.invokevirtual 82, 3) := by decide +kernel
theorem dX5_deal_91 : decode cX5_deal 91 = .ok (.ireturn, 1) := by decide +kernel
theorem dX5_deal_92 : decode cX5_deal 92 = .ok (.aload_n 0, 1) := by decide +kernel
theorem dX5_deal_93 : decode cX5_deal 93 = .ok (.getfield 28, 3) := by decide +kernel
theorem dX5_deal_96 : decode cX5_deal 96 = .ok (.getfield 75, 3) := by decide +kernel
theorem dX5_deal_99 : decode cX5_deal 99 = .ok (.bipush 40, 2) := by decide +kernel
theorem dX5_deal_101 : decode cX5_deal 101 = .ok (.if_icmp .lt 6, 3) := by decide +kernel
theorem dX5_deal_104 : decode cX5_deal 104 = .ok (.bipush (-2), 2) := by decide +kernel
theorem dX5_deal_106 : decode cX5_deal 106 = .ok (.ireturn, 1) := by decide +kernel
theorem dX5_deal_107 : decode cX5_deal 107 = .ok (.aload_n 0, 1) := by decide +kernel
theorem dX5_deal_108 : decode cX5_deal 108 = .ok (.iconst 0, 1) := by decide +kernel
theorem dX5_deal_109 : decode cX5_deal 109 = .ok (.aload_n 0, 1) := by decide +kernel
theorem dX5_deal_110 : decode cX5_deal 110 = .ok (.getfield 45, 3) := by decide +kernel
theorem dX5_deal_113 : decode cX5_deal 113 = .ok (.aload_n 2, 1) := by decide +kernel
theorem dX5_deal_114 : decode cX5_deal 114 = .ok (.getfield 94, 3) := by decide +kernel
theorem dX5_deal_117 : decode cX5_deal 117 = .ok (.invokevirtual 166, 3) := by decide +kernel
theorem dX5_deal_120 : decode cX5_deal 120 = .ok (.invokevirtual 170, 3) := by decide +kernel
theorem dX5_deal_123 : decode cX5_deal 123 = .ok (.aload_n 0, 1) := by decide +kernel
theorem dX5_deal_124 : decode cX5_deal 124 = .ok (.getfield 35, 3) := by decide +kernel
theorem dX5_deal_127 : decode cX5_deal 127 = .ok (.getfield 174, 3) := by decide +kernel
theorem dX5_deal_130 : decode cX5_deal 130 = .ok (.ireturn, 1) := by decide +kernel
theorem dX5_noon_0 : decode cX5_noon 0 = .ok (.aload_n 0, 1) := by decide +kernel
theorem dX5_noon_1 : decode cX5_noon 1 = .ok (.getfield 45, 3) := by decide +kernel
theorem dX5_noon_4 : decode cX5_noon 4 = .ok (.getfield 127, 3) := by decide +kernel
theorem dX5_noon_7 : decode cX5_noon 7 = .ok (.ifCond .eq 13, 3) := by decide +kernel
theorem dX5_noon_10 : decode cX5_noon 10 = .ok (.aload_n 0, 1) := by decide +kernel
theorem dX5_noon_11 : decode cX5_noon 11 = .ok (.getfield 35, 3) := by decide +kernel
theorem dX5_noon_14 : decode cX5_noon 14 = .ok (.getfield 177, 3) := by decide +kernel
theorem dX5_noon_17 : decode cX5_noon 17 = .ok (.ifCond .eq 6, 3) := by decide +kernel
theorem dX5_noon_20 : decode cX5_noon 20 = .ok (.bipush (-4), 2) := by decide +kernel
theorem dX5_noon_22 : decode cX5_noon 22 = .ok (.ireturn, 1) := by decide +kernel
theorem dX5_noon_23 : decode cX5_noon 23 = .ok (.aload_n 0, 1) := by decide +kernel
theorem dX5_noon_24 : decode cX5_noon 24 = .ok (.getfield 28, 3) := by decide +kernel
theorem dX5_noon_27 : decode cX5_noon 27 = .ok (.getfield 75, 3) := by decide +kernel
theorem dX5_noon_30 : decode cX5_noon 30 = .ok (.bipush 40, 2) := by decide +kernel
theorem dX5_noon_32 : decode cX5_noon 32 = .ok (.if_icmp .lt 6, 3) := by decide +kernel
theorem dX5_noon_35 : decode cX5_noon 35 = .ok (.bipush (-2), 2) := by decide +kernel
theorem dX5_noon_37 : decode cX5_noon 37 = .ok (.ireturn, 1) := by decide +kernel
theorem dX5_noon_38 : decode cX5_noon 38 = .ok (.aload_n 0, 1) := by decide +kernel
theorem dX5_noon_39 : decode cX5_noon 39 = .ok (.iconst 1, 1) := by decide +kernel
theorem dX5_noon_40 : decode cX5_noon 40 = .ok (.iconst 0, 1) := by decide +kernel
theorem dX5_noon_41 : decode cX5_noon 41 = .ok (.invokevirtual 170, 3) := by decide +kernel
theorem dX5_noon_44 : decode cX5_noon 44 = .ok (.iconst 0, 1) := by decide +kernel
theorem dX5_noon_45 : decode cX5_noon 45 = .ok (.istore_n 1, 1) := by decide +kernel
theorem dX5_noon_46 : decode cX5_noon 46 = .ok (.iconst 0, 1) := by decide +kernel
theorem dX5_noon_47 : decode cX5_noon 47 = .ok (.istore_n 2, 1) := by decide +kernel
theorem dX5_noon_48 : decode cX5_noon 48 = .ok (.iload_n 2, 1) := by decide +kernel
theorem dX5_noon_49 : decode cX5_noon 49 = .ok (.aload_n 0, 1) := by decide +kernel
theorem dX5_noon_50 : decode cX5_noon 50 = .ok (.getfield 45, 3) := by decide +kernel
theorem dX5_noon_53 : decode cX5_noon 53 = .ok (.getfield 127, 3) := by decide +kernel
theorem dX5_noon_56 : decode cX5_noon 56 = .ok (.if_icmp .ge 30, 3) := by decide +kernel
theorem dX5_noon_59 : decode cX5_noon 59 = .ok (.aload_n 0, 1) := by decide +kernel
theorem dX5_noon_60 : decode cX5_noon 60 = .ok (.getfield 45, 3) := by decide +kernel
theorem dX5_noon_63 : decode cX5_noon 63 = .ok (.iload_n 2, 1) := by decide +kernel
theorem dX5_noon_64 : decode cX5_noon 64 = .ok (.aload_n 0, 1) := by decide +kernel
theorem dX5_noon_65 : decode cX5_noon 65 = .ok (.getfield 35, 3) := by decide +kernel
theorem dX5_noon_68 : decode cX5_noon 68 = .ok (.getfield 138, 3) := by decide +kernel
theorem dX5_noon_71 : decode cX5_noon 71 = .ok (.invokevirtual 141, 3) := by decide +kernel
theorem dX5_noon_74 : decode cX5_noon 74 = .ok (.ifCond .le 6, 3) := by decide +kernel
theorem dX5_noon_77 : decode cX5_noon 77 = .ok (.iinc 1 1, 3) := by decide +kernel
theorem dX5_noon_80 : decode cX5_noon 80 = .ok (.iinc 2 1, 3) := by decide +kernel
theorem dX5_noon_83 : decode cX5_noon 83 = .ok (.goto (-35), 3) := by decide +kernel
theorem dX5_noon_86 : decode cX5_noon 86 = .ok (.iload_n 1, 1) := by decide +kernel
theorem dX5_noon_87 : decode cX5_noon 87 = .ok (.ireturn, 1) := by decide +kernel
theorem dX5_sign_0 : decode cX5_sign 0 = .ok (.aload_n 0, 1) := by decide +kernel
theorem dX5_sign_1 : decode cX5_sign 1 = .ok (.iload_n 1, 1) := by decide +kernel
theorem dX5_sign_2 : decode cX5_sign 2 = .ok (.iload_n 2, 1) := by decide +kernel
theorem dX5_sign_3 : decode cX5_sign 3 = .ok (.invokevirtual 181, 3) := by decide +kernel
theorem dX5_sign_6 : decode cX5_sign 6 = .ok (.ifCond .ne 5, 3) := by decide +kernel
theorem dX5_sign_9 : decode cX5_sign 9 = .ok (.iconst (-1), 1) := by decide +kernel
theorem dX5_sign_10 : decode cX5_sign 10 = .ok (.ireturn, 1) := by decide +kernel
theorem dX5_sign_11 : decode cX5_sign 11 = .ok (.aload_n 0, 1) := by decide +kernel
theorem dX5_sign_12 : decode cX5_sign 12 = .ok (.getfield 35, 3) := by decide +kernel
theorem dX5_sign_15 : decode cX5_sign 15 = .ok (.getfield 184, 3) := by decide +kernel
theorem dX5_sign_18 : decode cX5_sign 18 = .ok (.iload_n 1, 1) := by decide +kernel
theorem dX5_sign_19 : decode cX5_sign 19 = .ok (.iaload, 1) := by decide +kernel
theorem dX5_sign_20 : decode cX5_sign 20 = .ok (.iload_n 2, 1) := by decide +kernel
theorem dX5_sign_21 : decode cX5_sign 21 = .ok (.invokestatic 187, 3) := by decide +kernel
theorem dX5_sign_24 : decode cX5_sign 24 = .ok (.ifCond .eq 6, 3) := by decide +kernel
theorem dX5_sign_27 : decode cX5_sign 27 = .ok (.bipush (-4), 2) := by decide +kernel
theorem dX5_sign_29 : decode cX5_sign 29 = .ok (.ireturn, 1) := by decide +kernel
theorem dX5_sign_30 : decode cX5_sign 30 = .ok (.aload_n 0, 1) := by decide +kernel
theorem dX5_sign_31 : decode cX5_sign 31 = .ok (.getfield 28, 3) := by decide +kernel
theorem dX5_sign_34 : decode cX5_sign 34 = .ok (.getfield 75, 3) := by decide +kernel
theorem dX5_sign_37 : decode cX5_sign 37 = .ok (.bipush 40, 2) := by decide +kernel
theorem dX5_sign_39 : decode cX5_sign 39 = .ok (.if_icmp .lt 6, 3) := by decide +kernel
theorem dX5_sign_42 : decode cX5_sign 42 = .ok (.bipush (-2), 2) := by decide +kernel
theorem dX5_sign_44 : decode cX5_sign 44 = .ok (.ireturn, 1) := by decide +kernel
theorem dX5_sign_45 : decode cX5_sign 45 = .ok (.aload_n 0, 1) := by decide +kernel
theorem dX5_sign_46 : decode cX5_sign 46 = .ok (.iconst 2, 1) := by decide +kernel
theorem dX5_sign_47 : decode cX5_sign 47 = .ok (.iload_n 1, 1) := by decide +kernel
theorem dX5_sign_48 : decode cX5_sign 48 = .ok (.bipush 6, 2) := by decide +kernel
theorem dX5_sign_50 : decode cX5_sign 50 = .ok (.imul, 1) := by decide +kernel
theorem dX5_sign_51 : decode cX5_sign 51 = .ok (.iload_n 2, 1) := by decide +kernel
theorem dX5_sign_52 : decode cX5_sign 52 = .ok (.iadd, 1) := by decide +kernel
theorem dX5_sign_53 : decode cX5_sign 53 = .ok (.invokevirtual 170, 3) := by decide +kernel
theorem dX5_sign_56 : decode cX5_sign 56 = .ok (.aload_n 0, 1) := by decide +kernel
theorem dX5_sign_57 : decode cX5_sign 57 = .ok (.getfield 35, 3) := by decide +kernel
theorem dX5_sign_60 : decode cX5_sign 60 = .ok (.invokevirtual 190, 3) := by decide +kernel
theorem dX5_sign_63 : decode cX5_sign 63 = .ok (.ireturn, 1) := by decide +kernel
theorem dX5_undo_0 : decode cX5_undo 0 = .ok (.iload_n 1, 1) := by decide +kernel
theorem dX5_undo_1 : decode cX5_undo 1 = .ok (.ifCond .lt 14, 3) := by decide +kernel
theorem dX5_undo_4 : decode cX5_undo 4 = .ok (.iload_n 1, 1) := by decide +kernel
theorem dX5_undo_5 : decode cX5_undo 5 = .ok (.aload_n 0, 1) := by decide +kernel
theorem dX5_undo_6 : decode cX5_undo 6 = .ok (.getfield 28, 3) := by decide +kernel
theorem dX5_undo_9 : decode cX5_undo 9 = .ok (.getfield 75, 3) := by decide +kernel
theorem dX5_undo_12 : decode cX5_undo 12 = .ok (.if_icmp .le 5, 3) := by decide +kernel
theorem dX5_undo_15 : decode cX5_undo 15 = .ok (.iconst (-1), 1) := by decide +kernel
theorem dX5_undo_16 : decode cX5_undo 16 = .ok (.ireturn, 1) := by decide +kernel
theorem dX5_undo_17 : decode cX5_undo 17 = .ok (.aload_n 0, 1) := by decide +kernel
theorem dX5_undo_18 : decode cX5_undo 18 = .ok (.getfield 28, 3) := by decide +kernel
theorem dX5_undo_21 : decode cX5_undo 21 = .ok (.getfield 75, 3) := by decide +kernel
theorem dX5_undo_24 : decode cX5_undo 24 = .ok (.iload_n 1, 1) := by decide +kernel
theorem dX5_undo_25 : decode cX5_undo 25 = .ok (.isub, 1) := by decide +kernel
theorem dX5_undo_26 : decode cX5_undo 26 = .ok (.istore_n 2, 1) := by decide +kernel
theorem dX5_undo_27 : decode cX5_undo 27 = .ok (.aload_n 0, 1) := by decide +kernel
theorem dX5_undo_28 : decode cX5_undo 28 = .ok (.getfield 28, 3) := by decide +kernel
theorem dX5_undo_31 : decode cX5_undo 31 = .ok (.iload_n 1, 1) := by decide +kernel
theorem dX5_undo_32 : decode cX5_undo 32 = .ok (.putfield 75, 3) := by decide +kernel
theorem dX5_undo_35 : decode cX5_undo 35 = .ok (.aload_n 0, 1) := by decide +kernel
theorem dX5_undo_36 : decode cX5_undo 36 = .ok (.invokevirtual 124, 3) := by decide +kernel
theorem dX5_undo_39 : decode cX5_undo 39 = .ok (.iload_n 2, 1) := by decide +kernel
theorem dX5_undo_40 : decode cX5_undo 40 = .ok (.ireturn, 1) := by decide +kernel
theorem dX5_keep_0 : decode cX5_keep 0 = .ok (.iload_n 1, 1) := by decide +kernel
theorem dX5_keep_1 : decode cX5_keep 1 = .ok (.ifCond .lt 8, 3) := by decide +kernel
theorem dX5_keep_4 : decode cX5_keep 4 = .ok (.iload_n 1, 1) := by decide +kernel
theorem dX5_keep_5 : decode cX5_keep 5 = .ok (.iconst 3, 1) := by decide +kernel
theorem dX5_keep_6 : decode cX5_keep 6 = .ok (.if_icmp .lt 5, 3) := by decide +kernel
theorem dX5_keep_9 : decode cX5_keep 9 = .ok (.iconst (-1), 1) := by decide +kernel
theorem dX5_keep_10 : decode cX5_keep 10 = .ok (.ireturn, 1) := by decide +kernel
theorem dX5_keep_11 : decode cX5_keep 11 = .ok (.aload_n 0, 1) := by decide +kernel
theorem dX5_keep_12 : decode cX5_keep 12 = .ok (.getfield 45, 3) := by decide +kernel
theorem dX5_keep_15 : decode cX5_keep 15 = .ok (.getfield 127, 3) := by decide +kernel
theorem dX5_keep_18 : decode cX5_keep 18 = .ok (.ifCond .ne 6, 3) := by decide +kernel
theorem dX5_keep_21 : decode cX5_keep 21 = .ok (.bipush (-4), 2) := by decide +kernel
theorem dX5_keep_23 : decode cX5_keep 23 = .ok (.ireturn, 1) := by decide +kernel
theorem dX5_keep_24 : decode cX5_keep 24 = .ok (.aload_n 0, 1) := by decide +kernel
theorem dX5_keep_25 : decode cX5_keep 25 = .ok (.getfield 23, 3) := by decide +kernel
theorem dX5_keep_28 : decode cX5_keep 28 = .ok (.iload_n 1, 1) := by decide +kernel
theorem dX5_keep_29 : decode cX5_keep 29 = .ok (.aaload, 1) := by decide +kernel
theorem dX5_keep_30 : decode cX5_keep 30 = .ok (.aload_n 0, 1) := by decide +kernel
theorem dX5_keep_31 : decode cX5_keep 31 = .ok (.getfield 28, 3) := by decide +kernel
theorem dX5_keep_34 : decode cX5_keep 34 = .ok (.invokevirtual 194, 3) := by decide +kernel
theorem dX5_keep_37 : decode cX5_keep 37 = .ok (.aload_n 0, 1) := by decide +kernel
theorem dX5_keep_38 : decode cX5_keep 38 = .ok (.getfield 28, 3) := by decide +kernel
theorem dX5_keep_41 : decode cX5_keep 41 = .ok (.getfield 75, 3) := by decide +kernel
theorem dX5_keep_44 : decode cX5_keep 44 = .ok (.ireturn, 1) := by decide +kernel
theorem dX5_on_0 : decode cX5_on 0 = .ok (.iload_n 1, 1) := by decide +kernel
theorem dX5_on_1 : decode cX5_on 1 = .ok (.ifCond .lt 8, 3) := by decide +kernel
theorem dX5_on_4 : decode cX5_on 4 = .ok (.iload_n 1, 1) := by decide +kernel
theorem dX5_on_5 : decode cX5_on 5 = .ok (.iconst 3, 1) := by decide +kernel
theorem dX5_on_6 : decode cX5_on 6 = .ok (.if_icmp .lt 5, 3) := by decide +kernel
theorem dX5_on_9 : decode cX5_on 9 = .ok (.iconst (-1), 1) := by decide +kernel
theorem dX5_on_10 : decode cX5_on 10 = .ok (.ireturn, 1) := by decide +kernel
theorem dX5_on_11 : decode cX5_on 11 = .ok (.aload_n 0, 1) := by decide +kernel
theorem dX5_on_12 : decode cX5_on 12 = .ok (.getfield 23, 3) := by decide +kernel
theorem dX5_on_15 : decode cX5_on 15 = .ok (.iload_n 1, 1) := by decide +kernel
theorem dX5_on_16 : decode cX5_on 16 = .ok (.aaload, 1) := by decide +kernel
theorem dX5_on_17 : decode cX5_on 17 = .ok (.getfield 75, 3) := by decide +kernel
theorem dX5_on_20 : decode cX5_on 20 = .ok (.iconst (-1), 1) := by decide +kernel
theorem dX5_on_21 : decode cX5_on 21 = .ok (.if_icmp .ne 9, 3) := by decide +kernel
theorem dX5_on_24 : decode cX5_on 24 = .ok (.aload_n 0, 1) := by decide +kernel
theorem dX5_on_25 : decode cX5_on 25 = .ok (.iconst 1, 1) := by decide +kernel
theorem dX5_on_26 : decode cX5_on 26 = .ok (.invokevirtual 82, 3) := by decide +kernel
theorem dX5_on_29 : decode cX5_on 29 = .ok (.ireturn, 1) := by decide +kernel
theorem dX5_on_30 : decode cX5_on 30 = .ok (.aload_n 0, 1) := by decide +kernel
theorem dX5_on_31 : decode cX5_on 31 = .ok (.getfield 28, 3) := by decide +kernel
theorem dX5_on_34 : decode cX5_on 34 = .ok (.aload_n 0, 1) := by decide +kernel
theorem dX5_on_35 : decode cX5_on 35 = .ok (.getfield 23, 3) := by decide +kernel
theorem dX5_on_38 : decode cX5_on 38 = .ok (.iload_n 1, 1) := by decide +kernel
theorem dX5_on_39 : decode cX5_on 39 = .ok (.aaload, 1) := by decide +kernel
theorem dX5_on_40 : decode cX5_on 40 = .ok (.invokevirtual 194, 3) := by decide +kernel
theorem dX5_on_43 : decode cX5_on 43 = .ok (.aload_n 0, 1) := by decide +kernel
theorem dX5_on_44 : decode cX5_on 44 = .ok (.invokevirtual 124, 3) := by decide +kernel
theorem dX5_on_47 : decode cX5_on 47 = .ok (.aload_n 0, 1) := by decide +kernel
theorem dX5_on_48 : decode cX5_on 48 = .ok (.getfield 28, 3) := by decide +kernel
theorem dX5_on_51 : decode cX5_on 51 = .ok (.getfield 75, 3) := by decide +kernel
theorem dX5_on_54 : decode cX5_on 54 = .ok (.ireturn, 1) := by decide +kernel
theorem dX5_tells_0 : decode cX5_tells 0 = .ok (.aload_n 0, 1) := by decide +kernel
theorem dX5_tells_1 : decode cX5_tells 1 = .ok (.iload_n 1, 1) := by decide +kernel
theorem dX5_tells_2 : decode cX5_tells 2 = .ok (.iload_n 2, 1) := by decide +kernel
theorem dX5_tells_3 : decode cX5_tells 3 = .ok (.invokevirtual 181, 3) := by decide +kernel
theorem dX5_tells_6 : decode cX5_tells 6 = .ok (.ifCond .ne 5, 3) := by decide +kernel
theorem dX5_tells_9 : decode cX5_tells 9 = .ok (.iconst (-1), 1) := by decide +kernel
theorem dX5_tells_10 : decode cX5_tells 10 = .ok (.ireturn, 1) := by decide +kernel
theorem dX5_tells_11 : decode cX5_tells 11 = .ok (.aload_n 0, 1) := by decide +kernel
theorem dX5_tells_12 : decode cX5_tells 12 = .ok (.getfield 35, 3) := by decide +kernel
theorem dX5_tells_15 : decode cX5_tells 15 = .ok (.getfield 198, 3) := by decide +kernel
theorem dX5_tells_18 : decode cX5_tells 18 = .ok (.iload_n 1, 1) := by decide +kernel
theorem dX5_tells_19 : decode cX5_tells 19 = .ok (.iaload, 1) := by decide +kernel
theorem dX5_tells_20 : decode cX5_tells 20 = .ok (.iload_n 2, 1) := by decide +kernel
theorem dX5_tells_21 : decode cX5_tells 21 = .ok (.invokestatic 187, 3) := by decide +kernel
theorem dX5_tells_24 : decode cX5_tells 24 = .ok (.ifCond .eq 7, 3) := by decide +kernel
theorem dX5_tells_27 : decode cX5_tells 27 = .ok (.iconst 1, 1) := by decide +kernel
theorem dX5_tells_28 : decode cX5_tells 28 = .ok (.goto 4, 3) := by decide +kernel
theorem dX5_tells_31 : decode cX5_tells 31 = .ok (.iconst 0, 1) := by decide +kernel
theorem dX5_tells_32 : decode cX5_tells 32 = .ok (.ireturn, 1) := by decide +kernel
theorem dX5_order_0 : decode cX5_order 0 = .ok (.aload_n 0, 1) := by decide +kernel
theorem dX5_order_1 : decode cX5_order 1 = .ok (.iload_n 1, 1) := by decide +kernel
theorem dX5_order_2 : decode cX5_order 2 = .ok (.iload_n 2, 1) := by decide +kernel
theorem dX5_order_3 : decode cX5_order 3 = .ok (.invokevirtual 181, 3) := by decide +kernel
theorem dX5_order_6 : decode cX5_order 6 = .ok (.ifCond .eq 10, 3) := by decide +kernel
theorem dX5_order_9 : decode cX5_order 9 = .ok (.iload_n 3, 1) := by decide +kernel
theorem dX5_order_10 : decode cX5_order 10 = .ok (.invokestatic 78, 3) := by decide +kernel
theorem dX5_order_13 : decode cX5_order 13 = .ok (.ifCond .ne 5, 3) := by decide +kernel
theorem dX5_order_16 : decode cX5_order 16 = .ok (.iconst (-1), 1) := by decide +kernel
theorem dX5_order_17 : decode cX5_order 17 = .ok (.ireturn, 1) := by decide +kernel
theorem dX5_order_18 : decode cX5_order 18 = .ok (.aload_n 0, 1) := by decide +kernel
theorem dX5_order_19 : decode cX5_order 19 = .ok (.getfield 35, 3) := by decide +kernel
theorem dX5_order_22 : decode cX5_order 22 = .ok (.iload_n 1, 1) := by decide +kernel
theorem dX5_order_23 : decode cX5_order 23 = .ok (.iload_n 2, 1) := by decide +kernel
theorem dX5_order_24 : decode cX5_order 24 = .ok (.invokevirtual 201, 3) := by decide +kernel
theorem dX5_order_27 : decode cX5_order 27 = .ok (.istore 4, 2) := by decide +kernel
theorem dX5_order_29 : decode cX5_order 29 = .ok (.iload 4, 2) := by decide +kernel
theorem dX5_order_31 : decode cX5_order 31 = .ok (.bipush (-9), 2) := by decide +kernel
theorem dX5_order_33 : decode cX5_order 33 = .ok (.if_icmp .ne 6, 3) := by decide +kernel
theorem dX5_order_36 : decode cX5_order 36 = .ok (.bipush (-9), 2) := by decide +kernel
theorem dX5_order_38 : decode cX5_order 38 = .ok (.ireturn, 1) := by decide +kernel
theorem dX5_order_39 : decode cX5_order 39 = .ok (.aload_n 0, 1) := by decide +kernel
theorem dX5_order_40 : decode cX5_order 40 = .ok (.iload_n 1, 1) := by decide +kernel
theorem dX5_order_41 : decode cX5_order 41 = .ok (.iload_n 2, 1) := by decide +kernel
theorem dX5_order_42 : decode cX5_order 42 = .ok (.iload 4, 2) := by decide +kernel
theorem dX5_order_44 : decode cX5_order 44 = .ok (.aload_n 0, 1) := by decide +kernel
theorem dX5_order_45 : decode cX5_order 45 = .ok (.getfield 11, 3) := by decide +kernel
theorem dX5_order_48 : decode cX5_order 48 = .ok (.iload_n 3, 1) := by decide +kernel
theorem dX5_order_49 : decode cX5_order 49 = .ok (.aaload, 1) := by decide +kernel
theorem dX5_order_50 : decode cX5_order 50 = .ok (.invokevirtual 204, 3) := by decide +kernel
theorem dX5_order_53 : decode cX5_order 53 = .ok (.iload 4, 2) := by decide +kernel
theorem dX5_order_55 : decode cX5_order 55 = .ok (.ireturn, 1) := by decide +kernel
theorem dX5_needs_0 : decode cX5_needs 0 = .ok (.aload_n 0, 1) := by decide +kernel
theorem dX5_needs_1 : decode cX5_needs 1 = .ok (.iload_n 1, 1) := by decide +kernel
theorem dX5_needs_2 : decode cX5_needs 2 = .ok (.iload_n 2, 1) := by decide +kernel
theorem dX5_needs_3 : decode cX5_needs 3 = .ok (.invokevirtual 181, 3) := by decide +kernel
theorem dX5_needs_6 : decode cX5_needs 6 = .ok (.ifCond .ne 5, 3) := by decide +kernel
theorem dX5_needs_9 : decode cX5_needs 9 = .ok (.iconst (-1), 1) := by decide +kernel
theorem dX5_needs_10 : decode cX5_needs 10 = .ok (.ireturn, 1) := by decide +kernel
theorem dX5_needs_11 : decode cX5_needs 11 = .ok (.aload_n 0, 1) := by decide +kernel
theorem dX5_needs_12 : decode cX5_needs 12 = .ok (.getfield 45, 3) := by decide +kernel
theorem dX5_needs_15 : decode cX5_needs 15 = .ok (.invokevirtual 208, 3) := by decide +kernel
theorem dX5_needs_18 : decode cX5_needs 18 = .ok (.iconst 1, 1) := by decide +kernel
theorem dX5_needs_19 : decode cX5_needs 19 = .ok (.iload_n 1, 1) := by decide +kernel
theorem dX5_needs_20 : decode cX5_needs 20 = .ok (.ishl, 1) := by decide +kernel
theorem dX5_needs_21 : decode cX5_needs 21 = .ok (.iconst 1, 1) := by decide +kernel
theorem dX5_needs_22 : decode cX5_needs 22 = .ok (.iload_n 2, 1) := by decide +kernel
theorem dX5_needs_23 : decode cX5_needs 23 = .ok (.ishl, 1) := by decide +kernel
theorem dX5_needs_24 : decode cX5_needs 24 = .ok (.ior, 1) := by decide +kernel
theorem dX5_needs_25 : decode cX5_needs 25 = .ok (.iconst (-1), 1) := by decide +kernel
theorem dX5_needs_26 : decode cX5_needs 26 = .ok (.ixor, 1) := by decide +kernel
theorem dX5_needs_27 : decode cX5_needs 27 = .ok (.iand, 1) := by decide +kernel
theorem dX5_needs_28 : decode cX5_needs 28 = .ok (.istore_n 3, 1) := by decide +kernel
theorem dX5_needs_29 : decode cX5_needs 29 = .ok (.aload_n 0, 1) := by decide +kernel
theorem dX5_needs_30 : decode cX5_needs 30 = .ok (.getfield 35, 3) := by decide +kernel
theorem dX5_needs_33 : decode cX5_needs 33 = .ok (.iload_n 1, 1) := by decide +kernel
theorem dX5_needs_34 : decode cX5_needs 34 = .ok (.iload_n 2, 1) := by decide +kernel
theorem dX5_needs_35 : decode cX5_needs 35 = .ok (.iload_n 3, 1) := by decide +kernel
theorem dX5_needs_36 : decode cX5_needs 36 = .ok (.invokevirtual 211, 3) := by decide +kernel
theorem dX5_needs_39 : decode cX5_needs 39 = .ok (.ifCond .ne 10, 3) := by decide +kernel
theorem dX5_needs_42 : decode cX5_needs 42 = .ok (.aload_n 0, 1) := by decide +kernel
theorem dX5_needs_43 : decode cX5_needs 43 = .ok (.iconst 0, 1) := by decide +kernel
theorem dX5_needs_44 : decode cX5_needs 44 = .ok (.putfield 63, 3) := by decide +kernel
theorem dX5_needs_47 : decode cX5_needs 47 = .ok (.iload_n 3, 1) := by decide +kernel
theorem dX5_needs_48 : decode cX5_needs 48 = .ok (.ireturn, 1) := by decide +kernel
theorem dX5_needs_49 : decode cX5_needs 49 = .ok (.aload_n 0, 1) := by decide +kernel
theorem dX5_needs_50 : decode cX5_needs 50 = .ok (.iconst 1, 1) := by decide +kernel
theorem dX5_needs_51 : decode cX5_needs 51 = .ok (.putfield 63, 3) := by decide +kernel
theorem dX5_needs_54 : decode cX5_needs 54 = .ok (.iconst 0, 1) := by decide +kernel
theorem dX5_needs_55 : decode cX5_needs 55 = .ok (.istore 4, 2) := by decide +kernel
theorem dX5_needs_57 : decode cX5_needs 57 = .ok (.iconst 0, 1) := by decide +kernel
theorem dX5_needs_58 : decode cX5_needs 58 = .ok (.istore 5, 2) := by decide +kernel
theorem dX5_needs_60 : decode cX5_needs 60 = .ok (.iload 5, 2) := by decide +kernel
theorem dX5_needs_62 : decode cX5_needs 62 = .ok (.aload_n 0, 1) := by decide +kernel
theorem dX5_needs_63 : decode cX5_needs 63 = .ok (.getfield 45, 3) := by decide +kernel
theorem dX5_needs_66 : decode cX5_needs 66 = .ok (.getfield 127, 3) := by decide +kernel
theorem dX5_needs_69 : decode cX5_needs 69 = .ok (.if_icmp .ge 47, 3) := by decide +kernel
theorem dX5_needs_72 : decode cX5_needs 72 = .ok (.iload_n 3, 1) := by decide +kernel
theorem dX5_needs_73 : decode cX5_needs 73 = .ok (.iload 5, 2) := by decide +kernel
theorem dX5_needs_75 : decode cX5_needs 75 = .ok (.invokestatic 187, 3) := by decide +kernel
theorem dX5_needs_78 : decode cX5_needs 78 = .ok (.ifCond .eq 32, 3) := by decide +kernel
theorem dX5_needs_81 : decode cX5_needs 81 = .ok (.aload_n 0, 1) := by decide +kernel
theorem dX5_needs_82 : decode cX5_needs 82 = .ok (.getfield 35, 3) := by decide +kernel
theorem dX5_needs_85 : decode cX5_needs 85 = .ok (.iload_n 1, 1) := by decide +kernel
theorem dX5_needs_86 : decode cX5_needs 86 = .ok (.iload_n 2, 1) := by decide +kernel
theorem dX5_needs_87 : decode cX5_needs 87 = .ok (.iload_n 3, 1) := by decide +kernel
theorem dX5_needs_88 : decode cX5_needs 88 = .ok (.iconst 1, 1) := by decide +kernel
theorem dX5_needs_89 : decode cX5_needs 89 = .ok (.iload 5, 2) := by decide +kernel
theorem dX5_needs_91 : decode cX5_needs 91 = .ok (.ishl, 1) := by decide +kernel
theorem dX5_needs_92 : decode cX5_needs 92 = .ok (.iconst (-1), 1) := by decide +kernel
theorem dX5_needs_93 : decode cX5_needs 93 = .ok (.ixor, 1) := by decide +kernel
theorem dX5_needs_94 : decode cX5_needs 94 = .ok (.iand, 1) := by decide +kernel
theorem dX5_needs_95 : decode cX5_needs 95 = .ok (.invokevirtual 211, 3) := by decide +kernel
theorem dX5_needs_98 : decode cX5_needs 98 = .ok (.ifCond .ne 12, 3) := by decide +kernel
theorem dX5_needs_101 : decode cX5_needs 101 = .ok (.iload 4, 2) := by decide +kernel
theorem dX5_needs_103 : decode cX5_needs 103 = .ok (.iconst 1, 1) := by decide +kernel
theorem dX5_needs_104 : decode cX5_needs 104 = .ok (.iload 5, 2) := by decide +kernel
theorem dX5_needs_106 : decode cX5_needs 106 = .ok (.ishl, 1) := by decide +kernel
theorem dX5_needs_107 : decode cX5_needs 107 = .ok (.ior, 1) := by decide +kernel
theorem dX5_needs_108 : decode cX5_needs 108 = .ok (.istore 4, 2) := by decide +kernel
theorem dX5_needs_110 : decode cX5_needs 110 = .ok (.iinc 5 1, 3) := by decide +kernel
theorem dX5_needs_113 : decode cX5_needs 113 = .ok (.goto (-53), 3) := by decide +kernel
theorem dX5_needs_116 : decode cX5_needs 116 = .ok (.iload 4, 2) := by decide +kernel
theorem dX5_needs_118 : decode cX5_needs 118 = .ok (.ireturn, 1) := by decide +kernel
theorem dX5_crew_0 : decode cX5_crew 0 = .ok (.aload_n 0, 1) := by decide +kernel
theorem dX5_crew_1 : decode cX5_crew 1 = .ok (.getfield 45, 3) := by decide +kernel
theorem dX5_crew_4 : decode cX5_crew 4 = .ok (.getfield 127, 3) := by decide +kernel
theorem dX5_crew_7 : decode cX5_crew 7 = .ok (.ifCond .ne 6, 3) := by decide +kernel
theorem dX5_crew_10 : decode cX5_crew 10 = .ok (.bipush (-4), 2) := by decide +kernel
theorem dX5_crew_12 : decode cX5_crew 12 = .ok (.ireturn, 1) := by decide +kernel
theorem dX5_crew_13 : decode cX5_crew 13 = .ok (.iconst 0, 1) := by decide +kernel
theorem dX5_crew_14 : decode cX5_crew 14 = .ok (.istore_n 1, 1) := by decide +kernel
theorem dX5_crew_15 : decode cX5_crew 15 = .ok (.iconst 0, 1) := by decide +kernel
theorem dX5_crew_16 : decode cX5_crew 16 = .ok (.istore_n 2, 1) := by decide +kernel
theorem dX5_crew_17 : decode cX5_crew 17 = .ok (.iconst 1, 1) := by decide +kernel
theorem dX5_crew_18 : decode cX5_crew 18 = .ok (.istore_n 3, 1) := by decide +kernel
theorem dX5_crew_19 : decode cX5_crew 19 = .ok (.iload_n 3, 1) := by decide +kernel
theorem dX5_crew_20 : decode cX5_crew 20 = .ok (.aload_n 0, 1) := by decide +kernel
theorem dX5_crew_21 : decode cX5_crew 21 = .ok (.getfield 45, 3) := by decide +kernel
theorem dX5_crew_24 : decode cX5_crew 24 = .ok (.invokevirtual 208, 3) := by decide +kernel
theorem dX5_crew_27 : decode cX5_crew 27 = .ok (.if_icmp .gt 37, 3) := by decide +kernel
theorem dX5_crew_30 : decode cX5_crew 30 = .ok (.iload_n 3, 1) := by decide +kernel
theorem dX5_crew_31 : decode cX5_crew 31 = .ok (.invokestatic 154, 3) := by decide +kernel
theorem dX5_crew_34 : decode cX5_crew 34 = .ok (.istore 4, 2) := by decide +kernel
theorem dX5_crew_36 : decode cX5_crew 36 = .ok (.iload 4, 2) := by decide +kernel
theorem dX5_crew_38 : decode cX5_crew 38 = .ok (.iload_n 2, 1) := by decide +kernel
theorem dX5_crew_39 : decode cX5_crew 39 = .ok (.if_icmp .le 19, 3) := by decide +kernel
theorem dX5_crew_42 : decode cX5_crew 42 = .ok (.aload_n 0, 1) := by decide +kernel
theorem dX5_crew_43 : decode cX5_crew 43 = .ok (.getfield 35, 3) := by decide +kernel
theorem dX5_crew_46 : decode cX5_crew 46 = .ok (.iload_n 3, 1) := by decide +kernel
theorem dX5_crew_47 : decode cX5_crew 47 = .ok (.invokevirtual 215, 3) := by decide +kernel
theorem dX5_crew_50 : decode cX5_crew 50 = .ok (.ifCond .eq 8, 3) := by decide +kernel
theorem dX5_crew_53 : decode cX5_crew 53 = .ok (.iload_n 3, 1) := by decide +kernel
theorem dX5_crew_54 : decode cX5_crew 54 = .ok (.istore_n 1, 1) := by decide +kernel
theorem dX5_crew_55 : decode cX5_crew 55 = .ok (.iload 4, 2) := by decide +kernel
theorem dX5_crew_57 : decode cX5_crew 57 = .ok (.istore_n 2, 1) := by decide +kernel
theorem dX5_crew_58 : decode cX5_crew 58 = .ok (.iinc 3 1, 3) := by decide +kernel
theorem dX5_crew_61 : decode cX5_crew 61 = .ok (.goto (-42), 3) := by decide +kernel
theorem dX5_crew_64 : decode cX5_crew 64 = .ok (.aload_n 0, 1) := by decide +kernel
theorem dX5_crew_65 : decode cX5_crew 65 = .ok (.iload_n 1, 1) := by decide +kernel
theorem dX5_crew_66 : decode cX5_crew 66 = .ok (.putfield 63, 3) := by decide +kernel
theorem dX5_crew_69 : decode cX5_crew 69 = .ok (.iload_n 2, 1) := by decide +kernel
theorem dX5_crew_70 : decode cX5_crew 70 = .ok (.ireturn, 1) := by decide +kernel
theorem dX5_reach_0 : decode cX5_reach 0 = .ok (.aload_n 0, 1) := by decide +kernel
theorem dX5_reach_1 : decode cX5_reach 1 = .ok (.getfield 45, 3) := by decide +kernel
theorem dX5_reach_4 : decode cX5_reach 4 = .ok (.iload_n 1, 1) := by decide +kernel
theorem dX5_reach_5 : decode cX5_reach 5 = .ok (.invokevirtual 130, 3) := by decide +kernel
theorem dX5_reach_8 : decode cX5_reach 8 = .ok (.ifCond .ne 5, 3) := by decide +kernel
theorem dX5_reach_11 : decode cX5_reach 11 = .ok (.iconst (-1), 1) := by decide +kernel
theorem dX5_reach_12 : decode cX5_reach 12 = .ok (.ireturn, 1) := by decide +kernel
theorem dX5_reach_13 : decode cX5_reach 13 = .ok (.aload_n 0, 1) := by decide +kernel
theorem dX5_reach_14 : decode cX5_reach 14 = .ok (.getfield 35, 3) := by decide +kernel
theorem dX5_reach_17 : decode cX5_reach 17 = .ok (.iload_n 1, 1) := by decide +kernel
theorem dX5_reach_18 : decode cX5_reach 18 = .ok (.bipush 63, 2) := by decide +kernel
theorem dX5_reach_20 : decode cX5_reach 20 = .ok (.bipush 6, 2) := by decide +kernel
theorem dX5_reach_22 : decode cX5_reach 22 = .ok (.invokevirtual 218, 3) := by decide +kernel
theorem dX5_reach_25 : decode cX5_reach 25 = .ok (.ireturn, 1) := by decide +kernel
theorem dX5_crier_0 : decode cX5_crier 0 = .ok (.aload_n 0, 1) := by decide +kernel
theorem dX5_crier_1 : decode cX5_crier 1 = .ok (.getfield 45, 3) := by decide +kernel
theorem dX5_crier_4 : decode cX5_crier 4 = .ok (.getfield 127, 3) := by decide +kernel
theorem dX5_crier_7 : decode cX5_crier 7 = .ok (.ifCond .ne 6, 3) := by decide +kernel
theorem dX5_crier_10 : decode cX5_crier 10 = .ok (.bipush (-4), 2) := by decide +kernel
theorem dX5_crier_12 : decode cX5_crier 12 = .ok (.ireturn, 1) := by decide +kernel
theorem dX5_crier_13 : decode cX5_crier 13 = .ok (.iconst 0, 1) := by decide +kernel
theorem dX5_crier_14 : decode cX5_crier 14 = .ok (.istore_n 1, 1) := by decide +kernel
theorem dX5_crier_15 : decode cX5_crier 15 = .ok (.iconst (-1), 1) := by decide +kernel
theorem dX5_crier_16 : decode cX5_crier 16 = .ok (.istore_n 2, 1) := by decide +kernel
theorem dX5_crier_17 : decode cX5_crier 17 = .ok (.iconst 0, 1) := by decide +kernel
theorem dX5_crier_18 : decode cX5_crier 18 = .ok (.istore_n 3, 1) := by decide +kernel
theorem dX5_crier_19 : decode cX5_crier 19 = .ok (.iload_n 3, 1) := by decide +kernel
theorem dX5_crier_20 : decode cX5_crier 20 = .ok (.aload_n 0, 1) := by decide +kernel
theorem dX5_crier_21 : decode cX5_crier 21 = .ok (.getfield 45, 3) := by decide +kernel
theorem dX5_crier_24 : decode cX5_crier 24 = .ok (.getfield 127, 3) := by decide +kernel
theorem dX5_crier_27 : decode cX5_crier 27 = .ok (.if_icmp .ge 39, 3) := by decide +kernel
theorem dX5_crier_30 : decode cX5_crier 30 = .ok (.aload_n 0, 1) := by decide +kernel
theorem dX5_crier_31 : decode cX5_crier 31 = .ok (.getfield 35, 3) := by decide +kernel
theorem dX5_crier_34 : decode cX5_crier 34 = .ok (.iload_n 3, 1) := by decide +kernel
theorem dX5_crier_35 : decode cX5_crier 35 = .ok (.bipush 63, 2) := by decide +kernel
theorem dX5_crier_37 : decode cX5_crier 37 = .ok (.bipush 6, 2) := by decide +kernel
theorem dX5_crier_39 : decode cX5_crier 39 = .ok (.invokevirtual 218, 3) := by decide +kernel
theorem dX5_crier_42 : decode cX5_crier 42 = .ok (.invokestatic 154, 3) := by decide +kernel
theorem dX5_crier_45 : decode cX5_crier 45 = .ok (.iconst 1, 1) := by decide +kernel
theorem dX5_crier_46 : decode cX5_crier 46 = .ok (.isub, 1) := by decide +kernel
theorem dX5_crier_47 : decode cX5_crier 47 = .ok (.istore 4, 2) := by decide +kernel
theorem dX5_crier_49 : decode cX5_crier 49 = .ok (.iload 4, 2) := by decide +kernel
theorem dX5_crier_51 : decode cX5_crier 51 = .ok (.iload_n 2, 1) := by decide +kernel
theorem dX5_crier_52 : decode cX5_crier 52 = .ok (.if_icmp .le 8, 3) := by decide +kernel
theorem dX5_crier_55 : decode cX5_crier 55 = .ok (.iload_n 3, 1) := by decide +kernel
theorem dX5_crier_56 : decode cX5_crier 56 = .ok (.istore_n 1, 1) := by decide +kernel
theorem dX5_crier_57 : decode cX5_crier 57 = .ok (.iload 4, 2) := by decide +kernel
theorem dX5_crier_59 : decode cX5_crier 59 = .ok (.istore_n 2, 1) := by decide +kernel
theorem dX5_crier_60 : decode cX5_crier 60 = .ok (.iinc 3 1, 3) := by decide +kernel
theorem dX5_crier_63 : decode cX5_crier 63 = .ok (.goto (-44), 3) := by decide +kernel
theorem dX5_crier_66 : decode cX5_crier 66 = .ok (.aload_n 0, 1) := by decide +kernel
theorem dX5_crier_67 : decode cX5_crier 67 = .ok (.iload_n 2, 1) := by decide +kernel
theorem dX5_crier_68 : decode cX5_crier 68 = .ok (.putfield 63, 3) := by decide +kernel
theorem dX5_crier_71 : decode cX5_crier 71 = .ok (.iload_n 1, 1) := by decide +kernel
theorem dX5_crier_72 : decode cX5_crier 72 = .ok (.ireturn, 1) := by decide +kernel
theorem dX5_signs_0 : decode cX5_signs 0 = .ok (.aload_n 0, 1) := by decide +kernel
theorem dX5_signs_1 : decode cX5_signs 1 = .ok (.iload_n 1, 1) := by decide +kernel
theorem dX5_signs_2 : decode cX5_signs 2 = .ok (.iload_n 2, 1) := by decide +kernel
theorem dX5_signs_3 : decode cX5_signs 3 = .ok (.invokevirtual 181, 3) := by decide +kernel
theorem dX5_signs_6 : decode cX5_signs 6 = .ok (.ifCond .ne 5, 3) := by decide +kernel
theorem dX5_signs_9 : decode cX5_signs 9 = .ok (.iconst (-1), 1) := by decide +kernel
theorem dX5_signs_10 : decode cX5_signs 10 = .ok (.ireturn, 1) := by decide +kernel
theorem dX5_signs_11 : decode cX5_signs 11 = .ok (.aload_n 0, 1) := by decide +kernel
theorem dX5_signs_12 : decode cX5_signs 12 = .ok (.getfield 39, 3) := by decide +kernel
theorem dX5_signs_15 : decode cX5_signs 15 = .ok (.aload_n 0, 1) := by decide +kernel
theorem dX5_signs_16 : decode cX5_signs 16 = .ok (.getfield 35, 3) := by decide +kernel
theorem dX5_signs_19 : decode cX5_signs 19 = .ok (.invokevirtual 222, 3) := by decide +kernel
theorem dX5_signs_22 : decode cX5_signs 22 = .ok (.aload_n 0, 1) := by decide +kernel
theorem dX5_signs_23 : decode cX5_signs 23 = .ok (.iload_n 1, 1) := by decide +kernel
theorem dX5_signs_24 : decode cX5_signs 24 = .ok (.iload_n 2, 1) := by decide +kernel
theorem dX5_signs_25 : decode cX5_signs 25 = .ok (.invokevirtual 226, 3) := by decide +kernel
theorem dX5_signs_28 : decode cX5_signs 28 = .ok (.aload_n 0, 1) := by decide +kernel
theorem dX5_signs_29 : decode cX5_signs 29 = .ok (.getfield 45, 3) := by decide +kernel
theorem dX5_signs_32 : decode cX5_signs 32 = .ok (.invokevirtual 208, 3) := by decide +kernel
theorem dX5_signs_35 : decode cX5_signs 35 = .ok (.istore_n 3, 1) := by decide +kernel
theorem dX5_signs_36 : decode cX5_signs 36 = .ok (.aload_n 0, 1) := by decide +kernel
theorem dX5_signs_37 : decode cX5_signs 37 = .ok (.getfield 45, 3) := by decide +kernel
theorem dX5_signs_40 : decode cX5_signs 40 = .ok (.invokevirtual 229, 3) := by decide +kernel
theorem dX5_signs_43 : decode cX5_signs 43 = .ok (.istore 4, 2) := by decide +kernel
theorem dX5_signs_45 : decode cX5_signs 45 = .ok (.iconst 0, 1) := by decide +kernel
theorem dX5_signs_46 : decode cX5_signs 46 = .ok (.istore 5, 2) := by decide +kernel
theorem dX5_signs_48 : decode cX5_signs 48 = .ok (.iload 5, 2) := by decide +kernel
theorem dX5_signs_50 : decode cX5_signs 50 = .ok (.iload 4, 2) := by decide +kernel
theorem dX5_signs_52 : decode cX5_signs 52 = .ok (.if_icmp .ge 66, 3) := by decide +kernel
theorem dX5_signs_55 : decode cX5_signs 55 = .ok (.aload_n 0, 1) := by decide +kernel
theorem dX5_signs_56 : decode cX5_signs 56 = .ok (.getfield 39, 3) := by decide +kernel
theorem dX5_signs_59 : decode cX5_signs 59 = .ok (.aload_n 0, 1) := by decide +kernel
theorem dX5_signs_60 : decode cX5_signs 60 = .ok (.getfield 45, 3) := by decide +kernel
theorem dX5_signs_63 : decode cX5_signs 63 = .ok (.iload 5, 2) := by decide +kernel
theorem dX5_signs_65 : decode cX5_signs 65 = .ok (.iconst 4, 1) := by decide +kernel
theorem dX5_signs_66 : decode cX5_signs 66 = .ok (.imul, 1) := by decide +kernel
theorem dX5_signs_67 : decode cX5_signs 67 = .ok (.invokevirtual 232, 3) := by decide +kernel
theorem dX5_signs_70 : decode cX5_signs 70 = .ok (.aload_n 0, 1) := by decide +kernel
theorem dX5_signs_71 : decode cX5_signs 71 = .ok (.getfield 39, 3) := by decide +kernel
theorem dX5_signs_74 : decode cX5_signs 74 = .ok (.iload_n 1, 1) := by decide +kernel
theorem dX5_signs_75 : decode cX5_signs 75 = .ok (.bipush 63, 2) := by decide +kernel
theorem dX5_signs_77 : decode cX5_signs 77 = .ok (.bipush 6, 2) := by decide +kernel
theorem dX5_signs_79 : decode cX5_signs 79 = .ok (.invokevirtual 218, 3) := by decide +kernel
theorem dX5_signs_82 : decode cX5_signs 82 = .ok (.istore 6, 2) := by decide +kernel
theorem dX5_signs_84 : decode cX5_signs 84 = .ok (.iload_n 3, 1) := by decide +kernel
theorem dX5_signs_85 : decode cX5_signs 85 = .ok (.iload 6, 2) := by decide +kernel
theorem dX5_signs_87 : decode cX5_signs 87 = .ok (.iand, 1) := by decide +kernel
theorem dX5_signs_88 : decode cX5_signs 88 = .ok (.istore_n 3, 1) := by decide +kernel
theorem dX5_signs_89 : decode cX5_signs 89 = .ok (.iload 6, 2) := by decide +kernel
theorem dX5_signs_91 : decode cX5_signs 91 = .ok (.iload_n 2, 1) := by decide +kernel
theorem dX5_signs_92 : decode cX5_signs 92 = .ok (.invokestatic 187, 3) := by decide +kernel
theorem dX5_signs_95 : decode cX5_signs 95 = .ok (.ifCond .ne 17, 3) := by decide +kernel
theorem dX5_signs_98 : decode cX5_signs 98 = .ok (.aload_n 0, 1) := by decide +kernel
theorem dX5_signs_99 : decode cX5_signs 99 = .ok (.iload 6, 2) := by decide +kernel
theorem dX5_signs_101 : decode cX5_signs 101 = .ok (.aload_n 0, 1) := by decide +kernel
theorem dX5_signs_102 : decode cX5_signs 102 = .ok (.getfield 39, 3) := by decide +kernel
theorem dX5_signs_105 : decode cX5_signs 105 = .ok (.iload_n 2, 1) := by decide +kernel
theorem dX5_signs_106 : decode cX5_signs 106 = .ok (.invokevirtual 236, 3) := by decide +kernel
theorem dX5_signs_109 : decode cX5_signs 109 = .ok (.invokevirtual 239, 3) := by decide +kernel
theorem dX5_signs_112 : decode cX5_signs 112 = .ok (.iinc 5 1, 3) := by decide +kernel
theorem dX5_signs_115 : decode cX5_signs 115 = .ok (.goto (-67), 3) := by decide +kernel
theorem dX5_signs_118 : decode cX5_signs 118 = .ok (.aload_n 0, 1) := by decide +kernel
theorem dX5_signs_119 : decode cX5_signs 119 = .ok (.iload_n 3, 1) := by decide +kernel
theorem dX5_signs_120 : decode cX5_signs 120 = .ok (.invokestatic 154, 3) := by decide +kernel
theorem dX5_signs_123 : decode cX5_signs 123 = .ok (.iconst 1, 1) := by decide +kernel
theorem dX5_signs_124 : decode cX5_signs 124 = .ok (.isub, 1) := by decide +kernel
theorem dX5_signs_125 : decode cX5_signs 125 = .ok (.putfield 63, 3) := by decide +kernel
theorem dX5_signs_128 : decode cX5_signs 128 = .ok (.iload_n 3, 1) := by decide +kernel
theorem dX5_signs_129 : decode cX5_signs 129 = .ok (.iload_n 2, 1) := by decide +kernel
theorem dX5_signs_130 : decode cX5_signs 130 = .ok (.invokestatic 187, 3) := by decide +kernel
theorem dX5_signs_133 : decode cX5_signs 133 = .ok (.ifCond .eq 5, 3) := by decide +kernel
theorem dX5_signs_136 : decode cX5_signs 136 = .ok (.iconst 0, 1) := by decide +kernel
theorem dX5_signs_137 : decode cX5_signs 137 = .ok (.ireturn, 1) := by decide +kernel
theorem dX5_signs_138 : decode cX5_signs 138 = .ok (.aload_n 0, 1) := by decide +kernel
theorem dX5_signs_139 : decode cX5_signs 139 = .ok (.invokevirtual 242, 3) := by decide +kernel
theorem dX5_signs_142 : decode cX5_signs 142 = .ok (.ifCond .eq 5, 3) := by decide +kernel
theorem dX5_signs_145 : decode cX5_signs 145 = .ok (.iconst 1, 1) := by decide +kernel
theorem dX5_signs_146 : decode cX5_signs 146 = .ok (.ireturn, 1) := by decide +kernel
theorem dX5_signs_147 : decode cX5_signs 147 = .ok (.aload_n 0, 1) := by decide +kernel
theorem dX5_signs_148 : decode cX5_signs 148 = .ok (.getfield 45, 3) := by decide +kernel
theorem dX5_signs_151 : decode cX5_signs 151 = .ok (.getfield 127, 3) := by decide +kernel
theorem dX5_signs_154 : decode cX5_signs 154 = .ok (.iconst 2, 1) := by decide +kernel
theorem dX5_signs_155 : decode cX5_signs 155 = .ok (.if_icmp .le 7, 3) := by decide +kernel
theorem dX5_signs_158 : decode cX5_signs 158 = .ok (.iconst 2, 1) := by decide +kernel
theorem dX5_signs_159 : decode cX5_signs 159 = .ok (.goto 5, 3) := by decide +kernel
theorem dX5_signs_162 : decode cX5_signs 162 = .ok (.bipush (-9), 2) := by decide +kernel
theorem dX5_signs_164 : decode cX5_signs 164 = .ok (.ireturn, 1) := by decide +kernel
theorem dX5_odds_0 : decode cX5_odds 0 = .ok (.aload_n 0, 1) := by decide +kernel
theorem dX5_odds_1 : decode cX5_odds 1 = .ok (.iload_n 1, 1) := by decide +kernel
theorem dX5_odds_2 : decode cX5_odds 2 = .ok (.iload_n 2, 1) := by decide +kernel
theorem dX5_odds_3 : decode cX5_odds 3 = .ok (.invokevirtual 181, 3) := by decide +kernel
theorem dX5_odds_6 : decode cX5_odds 6 = .ok (.ifCond .eq 12, 3) := by decide +kernel
theorem dX5_odds_9 : decode cX5_odds 9 = .ok (.iload_n 3, 1) := by decide +kernel
theorem dX5_odds_10 : decode cX5_odds 10 = .ok (.ifCond .lt 8, 3) := by decide +kernel
theorem dX5_odds_13 : decode cX5_odds 13 = .ok (.iload_n 3, 1) := by decide +kernel
theorem dX5_odds_14 : decode cX5_odds 14 = .ok (.iconst 4, 1) := by decide +kernel
theorem dX5_odds_15 : decode cX5_odds 15 = .ok (.if_icmp .le 5, 3) := by decide +kernel
theorem dX5_odds_18 : decode cX5_odds 18 = .ok (.iconst (-1), 1) := by decide +kernel
theorem dX5_odds_19 : decode cX5_odds 19 = .ok (.ireturn, 1) := by decide +kernel
theorem dX5_odds_20 : decode cX5_odds 20 = .ok (.aload_n 0, 1) := by decide +kernel
theorem dX5_odds_21 : decode cX5_odds 21 = .ok (.getfield 39, 3) := by decide +kernel
theorem dX5_odds_24 : decode cX5_odds 24 = .ok (.aload_n 0, 1) := by decide +kernel
theorem dX5_odds_25 : decode cX5_odds 25 = .ok (.getfield 35, 3) := by decide +kernel
theorem dX5_odds_28 : decode cX5_odds 28 = .ok (.invokevirtual 222, 3) := by decide +kernel
theorem dX5_odds_31 : decode cX5_odds 31 = .ok (.aload_n 0, 1) := by decide +kernel
theorem dX5_odds_32 : decode cX5_odds 32 = .ok (.getfield 45, 3) := by decide +kernel
theorem dX5_odds_35 : decode cX5_odds 35 = .ok (.invokevirtual 229, 3) := by decide +kernel
theorem dX5_odds_38 : decode cX5_odds 38 = .ok (.istore 4, 2) := by decide +kernel
theorem dX5_odds_40 : decode cX5_odds 40 = .ok (.iconst 0, 1) := by decide +kernel
theorem dX5_odds_41 : decode cX5_odds 41 = .ok (.istore 5, 2) := by decide +kernel
theorem dX5_odds_43 : decode cX5_odds 43 = .ok (.iconst 0, 1) := by decide +kernel
theorem dX5_odds_44 : decode cX5_odds 44 = .ok (.istore 6, 2) := by decide +kernel
theorem dX5_odds_46 : decode cX5_odds 46 = .ok (.iload 6, 2) := by decide +kernel
theorem dX5_odds_48 : decode cX5_odds 48 = .ok (.iload 4, 2) := by decide +kernel
theorem dX5_odds_50 : decode cX5_odds 50 = .ok (.if_icmp .ge 47, 3) := by decide +kernel
theorem dX5_odds_53 : decode cX5_odds 53 = .ok (.aload_n 0, 1) := by decide +kernel
theorem dX5_odds_54 : decode cX5_odds 54 = .ok (.getfield 39, 3) := by decide +kernel
theorem dX5_odds_57 : decode cX5_odds 57 = .ok (.aload_n 0, 1) := by decide +kernel
theorem dX5_odds_58 : decode cX5_odds 58 = .ok (.getfield 45, 3) := by decide +kernel
theorem dX5_odds_61 : decode cX5_odds 61 = .ok (.iload 6, 2) := by decide +kernel
theorem dX5_odds_63 : decode cX5_odds 63 = .ok (.iconst 4, 1) := by decide +kernel
theorem dX5_odds_64 : decode cX5_odds 64 = .ok (.imul, 1) := by decide +kernel
theorem dX5_odds_65 : decode cX5_odds 65 = .ok (.invokevirtual 232, 3) := by decide +kernel
theorem dX5_odds_68 : decode cX5_odds 68 = .ok (.aload_n 0, 1) := by decide +kernel
theorem dX5_odds_69 : decode cX5_odds 69 = .ok (.getfield 39, 3) := by decide +kernel
theorem dX5_odds_72 : decode cX5_odds 72 = .ok (.iload_n 1, 1) := by decide +kernel
theorem dX5_odds_73 : decode cX5_odds 73 = .ok (.bipush 63, 2) := by decide +kernel
theorem dX5_odds_75 : decode cX5_odds 75 = .ok (.iload_n 3, 1) := by decide +kernel
theorem dX5_odds_76 : decode cX5_odds 76 = .ok (.iconst 1, 1) := by decide +kernel
theorem dX5_odds_77 : decode cX5_odds 77 = .ok (.iadd, 1) := by decide +kernel
theorem dX5_odds_78 : decode cX5_odds 78 = .ok (.invokevirtual 218, 3) := by decide +kernel
theorem dX5_odds_81 : decode cX5_odds 81 = .ok (.iload_n 2, 1) := by decide +kernel
theorem dX5_odds_82 : decode cX5_odds 82 = .ok (.invokestatic 187, 3) := by decide +kernel
theorem dX5_odds_85 : decode cX5_odds 85 = .ok (.ifCond .eq 6, 3) := by decide +kernel
theorem dX5_odds_88 : decode cX5_odds 88 = .ok (.iinc 5 1, 3) := by decide +kernel
theorem dX5_odds_91 : decode cX5_odds 91 = .ok (.iinc 6 1, 3) := by decide +kernel
theorem dX5_odds_94 : decode cX5_odds 94 = .ok (.goto (-48), 3) := by decide +kernel
theorem dX5_odds_97 : decode cX5_odds 97 = .ok (.aload_n 0, 1) := by decide +kernel
theorem dX5_odds_98 : decode cX5_odds 98 = .ok (.iload 5, 2) := by decide +kernel
theorem dX5_odds_100 : decode cX5_odds 100 = .ok (.iload 4, 2) := by decide +kernel
theorem dX5_odds_102 : decode cX5_odds 102 = .ok (.invokevirtual 246, 3) := by decide +kernel
theorem dX5_odds_105 : decode cX5_odds 105 = .ok (.iconst 1, 1) := by decide +kernel
theorem dX5_odds_106 : decode cX5_odds 106 = .ok (.ireturn, 1) := by decide +kernel
theorem dX5_part_0 : decode cX5_part 0 = .ok (.aload_n 0, 1) := by decide +kernel
theorem dX5_part_1 : decode cX5_part 1 = .ok (.iload_n 1, 1) := by decide +kernel
theorem dX5_part_2 : decode cX5_part 2 = .ok (.iload_n 2, 1) := by decide +kernel
theorem dX5_part_3 : decode cX5_part 3 = .ok (.invokevirtual 181, 3) := by decide +kernel
theorem dX5_part_6 : decode cX5_part 6 = .ok (.ifCond .eq 24, 3) := by decide +kernel
theorem dX5_part_9 : decode cX5_part 9 = .ok (.aload_n 0, 1) := by decide +kernel
theorem dX5_part_10 : decode cX5_part 10 = .ok (.getfield 45, 3) := by decide +kernel
theorem dX5_part_13 : decode cX5_part 13 = .ok (.iload_n 3, 1) := by decide +kernel
theorem dX5_part_14 : decode cX5_part 14 = .ok (.invokevirtual 130, 3) := by decide +kernel
theorem dX5_part_17 : decode cX5_part 17 = .ok (.ifCond .eq 13, 3) := by decide +kernel
theorem dX5_part_20 : decode cX5_part 20 = .ok (.iload_n 3, 1) := by decide +kernel
theorem dX5_part_21 : decode cX5_part 21 = .ok (.iload_n 1, 1) := by decide +kernel
theorem dX5_part_22 : decode cX5_part 22 = .ok (.if_icmp .eq 8, 3) := by decide +kernel
theorem dX5_part_25 : decode cX5_part 25 = .ok (.iload_n 3, 1) := by decide +kernel
theorem dX5_part_26 : decode cX5_part 26 = .ok (.iload_n 2, 1) := by decide +kernel
theorem dX5_part_27 : decode cX5_part 27 = .ok (.if_icmp .ne 5, 3) := by decide +kernel
theorem dX5_part_30 : decode cX5_part 30 = .ok (.iconst (-1), 1) := by decide +kernel
theorem dX5_part_31 : decode cX5_part 31 = .ok (.ireturn, 1) := by decide +kernel
theorem dX5_part_32 : decode cX5_part 32 = .ok (.aload_n 0, 1) := by decide +kernel
theorem dX5_part_33 : decode cX5_part 33 = .ok (.getfield 45, 3) := by decide +kernel
theorem dX5_part_36 : decode cX5_part 36 = .ok (.invokevirtual 208, 3) := by decide +kernel
theorem dX5_part_39 : decode cX5_part 39 = .ok (.iconst 1, 1) := by decide +kernel
theorem dX5_part_40 : decode cX5_part 40 = .ok (.iload_n 1, 1) := by decide +kernel
theorem dX5_part_41 : decode cX5_part 41 = .ok (.ishl, 1) := by decide +kernel
theorem dX5_part_42 : decode cX5_part 42 = .ok (.iconst 1, 1) := by decide +kernel
theorem dX5_part_43 : decode cX5_part 43 = .ok (.iload_n 2, 1) := by decide +kernel
theorem dX5_part_44 : decode cX5_part 44 = .ok (.ishl, 1) := by decide +kernel
theorem dX5_part_45 : decode cX5_part 45 = .ok (.ior, 1) := by decide +kernel
theorem dX5_part_46 : decode cX5_part 46 = .ok (.iconst 1, 1) := by decide +kernel
theorem dX5_part_47 : decode cX5_part 47 = .ok (.iload_n 3, 1) := by decide +kernel
theorem dX5_part_48 : decode cX5_part 48 = .ok (.ishl, 1) := by decide +kernel
theorem dX5_part_49 : decode cX5_part 49 = .ok (.ior, 1) := by decide +kernel
theorem dX5_part_50 : decode cX5_part 50 = .ok (.iconst (-1), 1) := by decide +kernel
theorem dX5_part_51 : decode cX5_part 51 = .ok (.ixor, 1) := by decide +kernel
theorem dX5_part_52 : decode cX5_part 52 = .ok (.iand, 1) := by decide +kernel
theorem dX5_part_53 : decode cX5_part 53 = .ok (.istore 4, 2) := by decide +kernel
theorem dX5_part_55 : decode cX5_part 55 = .ok (.aload_n 0, 1) := by decide +kernel
theorem dX5_part_56 : decode cX5_part 56 = .ok (.getfield 35, 3) := by decide +kernel
theorem dX5_part_59 : decode cX5_part 59 = .ok (.iload_n 1, 1) := by decide +kernel
theorem dX5_part_60 : decode cX5_part 60 = .ok (.iload_n 2, 1) := by decide +kernel
theorem dX5_part_61 : decode cX5_part 61 = .ok (.iconst 0, 1) := by decide +kernel
theorem dX5_part_62 : decode cX5_part 62 = .ok (.invokevirtual 211, 3) := by decide +kernel
theorem dX5_part_65 : decode cX5_part 65 = .ok (.ifCond .ne 21, 3) := by decide +kernel
theorem dX5_part_68 : decode cX5_part 68 = .ok (.aload_n 0, 1) := by decide +kernel
theorem dX5_part_69 : decode cX5_part 69 = .ok (.getfield 35, 3) := by decide +kernel
theorem dX5_part_72 : decode cX5_part 72 = .ok (.iload_n 1, 1) := by decide +kernel
theorem dX5_part_73 : decode cX5_part 73 = .ok (.iload_n 2, 1) := by decide +kernel
theorem dX5_part_74 : decode cX5_part 74 = .ok (.iload 4, 2) := by decide +kernel
theorem dX5_part_76 : decode cX5_part 76 = .ok (.iconst 1, 1) := by decide +kernel
theorem dX5_part_77 : decode cX5_part 77 = .ok (.iload_n 3, 1) := by decide +kernel
theorem dX5_part_78 : decode cX5_part 78 = .ok (.ishl, 1) := by decide +kernel
theorem dX5_part_79 : decode cX5_part 79 = .ok (.ior, 1) := by decide +kernel
theorem dX5_part_80 : decode cX5_part 80 = .ok (.invokevirtual 211, 3) := by decide +kernel
theorem dX5_part_83 : decode cX5_part 83 = .ok (.ifCond .ne 6, 3) := by decide +kernel
theorem dX5_part_86 : decode cX5_part 86 = .ok (.bipush (-4), 2) := by decide +kernel
theorem dX5_part_88 : decode cX5_part 88 = .ok (.ireturn, 1) := by decide +kernel
theorem dX5_part_89 : decode cX5_part 89 = .ok (.iload 4, 2) := by decide +kernel
theorem dX5_part_91 : decode cX5_part 91 = .ok (.invokestatic 154, 3) := by decide +kernel
theorem dX5_part_94 : decode cX5_part 94 = .ok (.istore 5, 2) := by decide +kernel
theorem dX5_part_96 : decode cX5_part 96 = .ok (.iconst 0, 1) := by decide +kernel
theorem dX5_part_97 : decode cX5_part 97 = .ok (.istore 6, 2) := by decide +kernel
theorem dX5_part_99 : decode cX5_part 99 = .ok (.iconst 0, 1) := by decide +kernel
theorem dX5_part_100 : decode cX5_part 100 = .ok (.istore 7, 2) := by decide +kernel
theorem dX5_part_102 : decode cX5_part 102 = .ok (.iload 7, 2) := by decide +kernel
theorem dX5_part_104 : decode cX5_part 104 = .ok (.iload 4, 2) := by decide +kernel
theorem dX5_part_106 : decode cX5_part 106 = .ok (.if_icmp .gt 83, 3) := by decide +kernel
theorem dX5_part_109 : decode cX5_part 109 = .ok (.iload 7, 2) := by decide +kernel
theorem dX5_part_111 : decode cX5_part 111 = .ok (.iload 4, 2) := by decide +kernel
theorem dX5_part_113 : decode cX5_part 113 = .ok (.iconst (-1), 1) := by decide +kernel
theorem dX5_part_114 : decode cX5_part 114 = .ok (.ixor, 1) := by decide +kernel
theorem dX5_part_115 : decode cX5_part 115 = .ok (.iand, 1) := by decide +kernel
theorem dX5_part_116 : decode cX5_part 116 = .ok (.ifCond .ne 67, 3) := by decide +kernel
theorem dX5_part_119 : decode cX5_part 119 = .ok (.aload_n 0, 1) := by decide +kernel
theorem dX5_part_120 : decode cX5_part 120 = .ok (.getfield 35, 3) := by decide +kernel
theorem dX5_part_123 : decode cX5_part 123 = .ok (.iload_n 1, 1) := by decide +kernel
theorem dX5_part_124 : decode cX5_part 124 = .ok (.iload_n 2, 1) := by decide +kernel
theorem dX5_part_125 : decode cX5_part 125 = .ok (.iload 7, 2) := by decide +kernel
theorem dX5_part_127 : decode cX5_part 127 = .ok (.invokevirtual 211, 3) := by decide +kernel
theorem dX5_part_130 : decode cX5_part 130 = .ok (.ifCond .eq 6, 3) := by decide +kernel
theorem dX5_part_133 : decode cX5_part 133 = .ok (.goto 50, 3) := by decide +kernel
theorem dX5_part_136 : decode cX5_part 136 = .ok (.aload_n 0, 1) := by decide +kernel
theorem dX5_part_137 : decode cX5_part 137 = .ok (.getfield 35, 3) := by decide +kernel
theorem dX5_part_140 : decode cX5_part 140 = .ok (.iload_n 1, 1) := by decide +kernel
theorem dX5_part_141 : decode cX5_part 141 = .ok (.iload_n 2, 1) := by decide +kernel
theorem dX5_part_142 : decode cX5_part 142 = .ok (.iload 7, 2) := by decide +kernel
theorem dX5_part_144 : decode cX5_part 144 = .ok (.iconst 1, 1) := by decide +kernel
theorem dX5_part_145 : decode cX5_part 145 = .ok (.iload_n 3, 1) := by decide +kernel
theorem dX5_part_146 : decode cX5_part 146 = .ok (.ishl, 1) := by decide +kernel
theorem dX5_part_147 : decode cX5_part 147 = .ok (.ior, 1) := by decide +kernel
theorem dX5_part_148 : decode cX5_part 148 = .ok (.invokevirtual 211, 3) := by decide +kernel
theorem dX5_part_151 : decode cX5_part 151 = .ok (.ifCond .ne 6, 3) := by decide +kernel
theorem dX5_part_154 : decode cX5_part 154 = .ok (.goto 29, 3) := by decide +kernel
theorem dX5_part_157 : decode cX5_part 157 = .ok (.iload 7, 2) := by decide +kernel
theorem dX5_part_159 : decode cX5_part 159 = .ok (.invokestatic 154, 3) := by decide +kernel
theorem dX5_part_162 : decode cX5_part 162 = .ok (.istore 8, 2) := by decide +kernel
theorem dX5_part_164 : decode cX5_part 164 = .ok (.iload 6, 2) := by decide +kernel
theorem dX5_part_166 : decode cX5_part 166 = .ok (.iload 8, 2) := by decide +kernel
theorem dX5_part_168 : decode cX5_part 168 = .ok (.invokestatic 249, 3) := by decide +kernel
theorem dX5_part_171 : decode cX5_part 171 = .ok (.iload 5, 2) := by decide +kernel
theorem dX5_part_173 : decode cX5_part 173 = .ok (.iload 8, 2) := by decide +kernel
theorem dX5_part_175 : decode cX5_part 175 = .ok (.isub, 1) := by decide +kernel
theorem dX5_part_176 : decode cX5_part 176 = .ok (.invokestatic 249, 3) := by decide +kernel
theorem dX5_part_179 : decode cX5_part 179 = .ok (.imul, 1) := by decide +kernel
theorem dX5_part_180 : decode cX5_part 180 = .ok (.iadd, 1) := by decide +kernel
theorem dX5_part_181 : decode cX5_part 181 = .ok (.istore 6, 2) := by decide +kernel
theorem dX5_part_183 : decode cX5_part 183 = .ok (.iinc 7 1, 3) := by decide +kernel
theorem dX5_part_186 : decode cX5_part 186 = .ok (.goto (-84), 3) := by decide +kernel
theorem dX5_part_189 : decode cX5_part 189 = .ok (.aload_n 0, 1) := by decide +kernel
theorem dX5_part_190 : decode cX5_part 190 = .ok (.iload 6, 2) := by decide +kernel
theorem dX5_part_192 : decode cX5_part 192 = .ok (.iload 5, 2) := by decide +kernel
theorem dX5_part_194 : decode cX5_part 194 = .ok (.iconst 1, 1) := by decide +kernel
theorem dX5_part_195 : decode cX5_part 195 = .ok (.iadd, 1) := by decide +kernel
theorem dX5_part_196 : decode cX5_part 196 = .ok (.invokestatic 249, 3) := by decide +kernel
theorem dX5_part_199 : decode cX5_part 199 = .ok (.invokevirtual 246, 3) := by decide +kernel
theorem dX5_part_202 : decode cX5_part 202 = .ok (.iconst 1, 1) := by decide +kernel
theorem dX5_part_203 : decode cX5_part 203 = .ok (.ireturn, 1) := by decide +kernel
theorem dX5_houses_0 : decode cX5_houses 0 = .ok (.iload_n 1, 1) := by decide +kernel
theorem dX5_houses_1 : decode cX5_houses 1 = .ok (.invokestatic 78, 3) := by decide +kernel
theorem dX5_houses_4 : decode cX5_houses 4 = .ok (.ifCond .ne 5, 3) := by decide +kernel
theorem dX5_houses_7 : decode cX5_houses 7 = .ok (.iconst (-1), 1) := by decide +kernel
theorem dX5_houses_8 : decode cX5_houses 8 = .ok (.ireturn, 1) := by decide +kernel
theorem dX5_houses_9 : decode cX5_houses 9 = .ok (.aload_n 0, 1) := by decide +kernel
theorem dX5_houses_10 : decode cX5_houses 10 = .ok (.aload_n 0, 1) := by decide +kernel
theorem dX5_houses_11 : decode cX5_houses 11 = .ok (.getfield 11, 3) := by decide +kernel
theorem dX5_houses_14 : decode cX5_houses 14 = .ok (.iload_n 1, 1) := by decide +kernel
theorem dX5_houses_15 : decode cX5_houses 15 = .ok (.aaload, 1) := by decide +kernel
theorem dX5_houses_16 : decode cX5_houses 16 = .ok (.invokevirtual 252, 3) := by decide +kernel
theorem dX5_houses_19 : decode cX5_houses 19 = .ok (.istore_n 2, 1) := by decide +kernel
theorem dX5_houses_20 : decode cX5_houses 20 = .ok (.iload_n 2, 1) := by decide +kernel
theorem dX5_houses_21 : decode cX5_houses 21 = .ok (.ifCond .eq 5, 3) := by decide +kernel
theorem dX5_houses_24 : decode cX5_houses 24 = .ok (.iload_n 2, 1) := by decide +kernel
theorem dX5_houses_25 : decode cX5_houses 25 = .ok (.ireturn, 1) := by decide +kernel
theorem dX5_houses_26 : decode cX5_houses 26 = .ok (.aload_n 0, 1) := by decide +kernel
theorem dX5_houses_27 : decode cX5_houses 27 = .ok (.aload_n 0, 1) := by decide +kernel
theorem dX5_houses_28 : decode cX5_houses 28 = .ok (.getfield 11, 3) := by decide +kernel
theorem dX5_houses_31 : decode cX5_houses 31 = .ok (.iload_n 1, 1) := by decide +kernel
theorem dX5_houses_32 : decode cX5_houses 32 = .ok (.aaload, 1) := by decide +kernel
theorem dX5_houses_33 : decode cX5_houses 33 = .ok (.invokevirtual 256, 3) := by decide +kernel
theorem dX5_houses_36 : decode cX5_houses 36 = .ok (.istore_n 3, 1) := by decide +kernel
theorem dX5_houses_37 : decode cX5_houses 37 = .ok (.iconst 0, 1) := by decide +kernel
theorem dX5_houses_38 : decode cX5_houses 38 = .ok (.istore 4, 2) := by decide +kernel
theorem dX5_houses_40 : decode cX5_houses 40 = .ok (.iconst 0, 1) := by decide +kernel
theorem dX5_houses_41 : decode cX5_houses 41 = .ok (.istore 5, 2) := by decide +kernel
theorem dX5_houses_43 : decode cX5_houses 43 = .ok (.iconst 0, 1) := by decide +kernel
theorem dX5_houses_44 : decode cX5_houses 44 = .ok (.istore 6, 2) := by decide +kernel
theorem dX5_houses_46 : decode cX5_houses 46 = .ok (.iload 6, 2) := by decide +kernel
theorem dX5_houses_48 : decode cX5_houses 48 = .ok (.aload_n 0, 1) := by decide +kernel
theorem dX5_houses_49 : decode cX5_houses 49 = .ok (.getfield 45, 3) := by decide +kernel
theorem dX5_houses_52 : decode cX5_houses 52 = .ok (.getfield 127, 3) := by decide +kernel
theorem dX5_houses_55 : decode cX5_houses 55 = .ok (.if_icmp .ge 77, 3) := by decide +kernel
theorem dX5_houses_58 : decode cX5_houses 58 = .ok (.iload 6, 2) := by decide +kernel
theorem dX5_houses_60 : decode cX5_houses 60 = .ok (.iconst 1, 1) := by decide +kernel
theorem dX5_houses_61 : decode cX5_houses 61 = .ok (.iadd, 1) := by decide +kernel
theorem dX5_houses_62 : decode cX5_houses 62 = .ok (.istore 7, 2) := by decide +kernel
theorem dX5_houses_64 : decode cX5_houses 64 = .ok (.iload 7, 2) := by decide +kernel
theorem dX5_houses_66 : decode cX5_houses 66 = .ok (.aload_n 0, 1) := by decide +kernel
theorem dX5_houses_67 : decode cX5_houses 67 = .ok (.getfield 45, 3) := by decide +kernel
theorem dX5_houses_70 : decode cX5_houses 70 = .ok (.getfield 127, 3) := by decide +kernel
theorem dX5_houses_73 : decode cX5_houses 73 = .ok (.if_icmp .ge 53, 3) := by decide +kernel
theorem dX5_houses_76 : decode cX5_houses 76 = .ok (.aload_n 0, 1) := by decide +kernel
theorem dX5_houses_77 : decode cX5_houses 77 = .ok (.getfield 11, 3) := by decide +kernel
theorem dX5_houses_80 : decode cX5_houses 80 = .ok (.iload_n 1, 1) := by decide +kernel
theorem dX5_houses_81 : decode cX5_houses 81 = .ok (.aaload, 1) := by decide +kernel
theorem dX5_houses_82 : decode cX5_houses 82 = .ok (.iload 6, 2) := by decide +kernel
theorem dX5_houses_84 : decode cX5_houses 84 = .ok (.iload 7, 2) := by decide +kernel
theorem dX5_houses_86 : decode cX5_houses 86 = .ok (.aload_n 0, 1) := by decide +kernel
theorem dX5_houses_87 : decode cX5_houses 87 = .ok (.getfield 45, 3) := by decide +kernel
theorem dX5_houses_90 : decode cX5_houses 90 = .ok (.getfield 127, 3) := by decide +kernel
theorem dX5_houses_93 : decode cX5_houses 93 = .ok (.iload_n 3, 1) := by decide +kernel
theorem dX5_houses_94 : decode cX5_houses 94 = .ok (.invokevirtual 259, 3) := by decide +kernel
theorem dX5_houses_97 : decode cX5_houses 97 = .ok (.ifCond .ne 6, 3) := by decide +kernel
theorem dX5_houses_100 : decode cX5_houses 100 = .ok (.goto 20, 3) := by decide +kernel
theorem dX5_houses_103 : decode cX5_houses 103 = .ok (.iinc 4 1, 3) := by decide +kernel
theorem dX5_houses_106 : decode cX5_houses 106 = .ok (.iload 5, 2) := by decide +kernel
theorem dX5_houses_108 : decode cX5_houses 108 = .ok (.iconst 1, 1) := by decide +kernel
theorem dX5_houses_109 : decode cX5_houses 109 = .ok (.iload 6, 2) := by decide +kernel
theorem dX5_houses_111 : decode cX5_houses 111 = .ok (.ishl, 1) := by decide +kernel
theorem dX5_houses_112 : decode cX5_houses 112 = .ok (.iconst 1, 1) := by decide +kernel
theorem dX5_houses_113 : decode cX5_houses 113 = .ok (.iload 7, 2) := by decide +kernel
theorem dX5_houses_115 : decode cX5_houses 115 = .ok (.ishl, 1) := by decide +kernel
theorem dX5_houses_116 : decode cX5_houses 116 = .ok (.ior, 1) := by decide +kernel
theorem dX5_houses_117 : decode cX5_houses 117 = .ok (.ior, 1) := by decide +kernel
theorem dX5_houses_118 : decode cX5_houses 118 = .ok (.istore 5, 2) := by decide +kernel
theorem dX5_houses_120 : decode cX5_houses 120 = .ok (.iinc 7 1, 3) := by decide +kernel
theorem dX5_houses_123 : decode cX5_houses 123 = .ok (.goto (-59), 3) := by decide +kernel
theorem dX5_houses_126 : decode cX5_houses 126 = .ok (.iinc 6 1, 3) := by decide +kernel
theorem dX5_houses_129 : decode cX5_houses 129 = .ok (.goto (-83), 3) := by decide +kernel
theorem dX5_houses_132 : decode cX5_houses 132 = .ok (.aload_n 0, 1) := by decide +kernel
theorem dX5_houses_133 : decode cX5_houses 133 = .ok (.iload 5, 2) := by decide +kernel
theorem dX5_houses_135 : decode cX5_houses 135 = .ok (.putfield 63, 3) := by decide +kernel
theorem dX5_houses_138 : decode cX5_houses 138 = .ok (.iload 4, 2) := by decide +kernel
theorem dX5_houses_140 : decode cX5_houses 140 = .ok (.ireturn, 1) := by decide +kernel
theorem dX5_rule_0 : decode cX5_rule 0 = .ok (.iload_n 1, 1) := by decide +kernel
theorem dX5_rule_1 : decode cX5_rule 1 = .ok (.invokestatic 78, 3) := by decide +kernel
theorem dX5_rule_4 : decode cX5_rule 4 = .ok (.ifCond .eq 12, 3) := by decide +kernel
theorem dX5_rule_7 : decode cX5_rule 7 = .ok (.iload_n 2, 1) := by decide +kernel
theorem dX5_rule_8 : decode cX5_rule 8 = .ok (.ifCond .lt 8, 3) := by decide +kernel
theorem dX5_rule_11 : decode cX5_rule 11 = .ok (.iload_n 2, 1) := by decide +kernel
theorem dX5_rule_12 : decode cX5_rule 12 = .ok (.iconst 4, 1) := by decide +kernel
theorem dX5_rule_13 : decode cX5_rule 13 = .ok (.if_icmp .lt 5, 3) := by decide +kernel
theorem dX5_rule_16 : decode cX5_rule 16 = .ok (.iconst (-1), 1) := by decide +kernel
theorem dX5_rule_17 : decode cX5_rule 17 = .ok (.ireturn, 1) := by decide +kernel
theorem dX5_rule_18 : decode cX5_rule 18 = .ok (.aload_n 0, 1) := by decide +kernel
theorem dX5_rule_19 : decode cX5_rule 19 = .ok (.aload_n 0, 1) := by decide +kernel
theorem dX5_rule_20 : decode cX5_rule 20 = .ok (.getfield 11, 3) := by decide +kernel
theorem dX5_rule_23 : decode cX5_rule 23 = .ok (.iload_n 1, 1) := by decide +kernel
theorem dX5_rule_24 : decode cX5_rule 24 = .ok (.aaload, 1) := by decide +kernel
theorem dX5_rule_25 : decode cX5_rule 25 = .ok (.invokevirtual 252, 3) := by decide +kernel
theorem dX5_rule_28 : decode cX5_rule 28 = .ok (.istore_n 3, 1) := by decide +kernel
theorem dX5_rule_29 : decode cX5_rule 29 = .ok (.iload_n 3, 1) := by decide +kernel
theorem dX5_rule_30 : decode cX5_rule 30 = .ok (.ifCond .eq 5, 3) := by decide +kernel
theorem dX5_rule_33 : decode cX5_rule 33 = .ok (.iload_n 3, 1) := by decide +kernel
theorem dX5_rule_34 : decode cX5_rule 34 = .ok (.ireturn, 1) := by decide +kernel
theorem dX5_rule_35 : decode cX5_rule 35 = .ok (.aload_n 0, 1) := by decide +kernel
theorem dX5_rule_36 : decode cX5_rule 36 = .ok (.aload_n 0, 1) := by decide +kernel
theorem dX5_rule_37 : decode cX5_rule 37 = .ok (.getfield 11, 3) := by decide +kernel
theorem dX5_rule_40 : decode cX5_rule 40 = .ok (.iload_n 1, 1) := by decide +kernel
theorem dX5_rule_41 : decode cX5_rule 41 = .ok (.aaload, 1) := by decide +kernel
theorem dX5_rule_42 : decode cX5_rule 42 = .ok (.invokevirtual 256, 3) := by decide +kernel
theorem dX5_rule_45 : decode cX5_rule 45 = .ok (.istore 4, 2) := by decide +kernel
