theorem dX5_rule_47 : decode cX5_rule 47 = .ok (.iconst 0, 1) := by decide +kernel
theorem dX5_rule_48 : decode cX5_rule 48 = .ok (.istore 5, 2) := by decide +kernel
theorem dX5_rule_50 : decode cX5_rule 50 = .ok (.iconst 0, 1) := by decide +kernel
theorem dX5_rule_51 : decode cX5_rule 51 = .ok (.istore 6, 2) := by decide +kernel
theorem dX5_rule_53 : decode cX5_rule 53 = .ok (.iload 6, 2) := by decide +kernel
theorem dX5_rule_55 : decode cX5_rule 55 = .ok (.aload_n 0, 1) := by decide +kernel
theorem dX5_rule_56 : decode cX5_rule 56 = .ok (.getfield 45, 3) := by decide +kernel
theorem dX5_rule_59 : decode cX5_rule 59 = .ok (.getfield 127, 3) := by decide +kernel
theorem dX5_rule_62 : decode cX5_rule 62 = .ok (.if_icmp .ge 42, 3) := by decide +kernel
theorem dX5_rule_65 : decode cX5_rule 65 = .ok (.aload_n 0, 1) := by decide +kernel
theorem dX5_rule_66 : decode cX5_rule 66 = .ok (.getfield 11, 3) := by decide +kernel
theorem dX5_rule_69 : decode cX5_rule 69 = .ok (.iload_n 1, 1) := by decide +kernel
theorem dX5_rule_70 : decode cX5_rule 70 = .ok (.aaload, 1) := by decide +kernel
theorem dX5_rule_71 : decode cX5_rule 71 = .ok (.iload 6, 2) := by decide +kernel
theorem dX5_rule_73 : decode cX5_rule 73 = .ok (.aload_n 0, 1) := by decide +kernel
theorem dX5_rule_74 : decode cX5_rule 74 = .ok (.getfield 45, 3) := by decide +kernel
theorem dX5_rule_77 : decode cX5_rule 77 = .ok (.getfield 127, 3) := by decide +kernel
theorem dX5_rule_80 : decode cX5_rule 80 = .ok (.iload 4, 2) := by decide +kernel
theorem dX5_rule_82 : decode cX5_rule 82 = .ok (.iload_n 2, 1) := by decide +kernel
theorem dX5_rule_83 : decode cX5_rule 83 = .ok (.invokevirtual 263, 3) := by decide +kernel
theorem dX5_rule_86 : decode cX5_rule 86 = .ok (.ifCond .eq 12, 3) := by decide +kernel
theorem dX5_rule_89 : decode cX5_rule 89 = .ok (.iload 5, 2) := by decide +kernel
theorem dX5_rule_91 : decode cX5_rule 91 = .ok (.iconst 1, 1) := by decide +kernel
theorem dX5_rule_92 : decode cX5_rule 92 = .ok (.iload 6, 2) := by decide +kernel
theorem dX5_rule_94 : decode cX5_rule 94 = .ok (.ishl, 1) := by decide +kernel
theorem dX5_rule_95 : decode cX5_rule 95 = .ok (.ior, 1) := by decide +kernel
theorem dX5_rule_96 : decode cX5_rule 96 = .ok (.istore 5, 2) := by decide +kernel
theorem dX5_rule_98 : decode cX5_rule 98 = .ok (.iinc 6 1, 3) := by decide +kernel
theorem dX5_rule_101 : decode cX5_rule 101 = .ok (.goto (-48), 3) := by decide +kernel
theorem dX5_rule_104 : decode cX5_rule 104 = .ok (.iload 5, 2) := by decide +kernel
theorem dX5_rule_106 : decode cX5_rule 106 = .ok (.ireturn, 1) := by decide +kernel
theorem dX5_broken_0 : decode cX5_broken 0 = .ok (.iload_n 1, 1) := by decide +kernel
theorem dX5_broken_1 : decode cX5_broken 1 = .ok (.invokestatic 78, 3) := by decide +kernel
theorem dX5_broken_4 : decode cX5_broken 4 = .ok (.ifCond .ne 5, 3) := by decide +kernel
theorem dX5_broken_7 : decode cX5_broken 7 = .ok (.iconst (-1), 1) := by decide +kernel
theorem dX5_broken_8 : decode cX5_broken 8 = .ok (.ireturn, 1) := by decide +kernel
theorem dX5_broken_9 : decode cX5_broken 9 = .ok (.aload_n 0, 1) := by decide +kernel
theorem dX5_broken_10 : decode cX5_broken 10 = .ok (.aload_n 0, 1) := by decide +kernel
theorem dX5_broken_11 : decode cX5_broken 11 = .ok (.getfield 11, 3) := by decide +kernel
theorem dX5_broken_14 : decode cX5_broken 14 = .ok (.iload_n 1, 1) := by decide +kernel
theorem dX5_broken_15 : decode cX5_broken 15 = .ok (.aaload, 1) := by decide +kernel
theorem dX5_broken_16 : decode cX5_broken 16 = .ok (.invokevirtual 252, 3) := by decide +kernel
theorem dX5_broken_19 : decode cX5_broken 19 = .ok (.istore_n 2, 1) := by decide +kernel
theorem dX5_broken_20 : decode cX5_broken 20 = .ok (.iload_n 2, 1) := by decide +kernel
theorem dX5_broken_21 : decode cX5_broken 21 = .ok (.ifCond .eq 5, 3) := by decide +kernel
theorem dX5_broken_24 : decode cX5_broken 24 = .ok (.iload_n 2, 1) := by decide +kernel
theorem dX5_broken_25 : decode cX5_broken 25 = .ok (.ireturn, 1) := by decide +kernel
theorem dX5_broken_26 : decode cX5_broken 26 = .ok (.aload_n 0, 1) := by decide +kernel
theorem dX5_broken_27 : decode cX5_broken 27 = .ok (.aload_n 0, 1) := by decide +kernel
theorem dX5_broken_28 : decode cX5_broken 28 = .ok (.getfield 11, 3) := by decide +kernel
theorem dX5_broken_31 : decode cX5_broken 31 = .ok (.iload_n 1, 1) := by decide +kernel
theorem dX5_broken_32 : decode cX5_broken 32 = .ok (.aaload, 1) := by decide +kernel
theorem dX5_broken_33 : decode cX5_broken 33 = .ok (.invokevirtual 256, 3) := by decide +kernel
theorem dX5_broken_36 : decode cX5_broken 36 = .ok (.istore_n 3, 1) := by decide +kernel
theorem dX5_broken_37 : decode cX5_broken 37 = .ok (.iconst 0, 1) := by decide +kernel
theorem dX5_broken_38 : decode cX5_broken 38 = .ok (.istore 4, 2) := by decide +kernel
theorem dX5_broken_40 : decode cX5_broken 40 = .ok (.iload 4, 2) := by decide +kernel
theorem dX5_broken_42 : decode cX5_broken 42 = .ok (.iload_n 3, 1) := by decide +kernel
theorem dX5_broken_43 : decode cX5_broken 43 = .ok (.if_icmp .ge 41, 3) := by decide +kernel
theorem dX5_broken_46 : decode cX5_broken 46 = .ok (.aload_n 0, 1) := by decide +kernel
theorem dX5_broken_47 : decode cX5_broken 47 = .ok (.getfield 45, 3) := by decide +kernel
theorem dX5_broken_50 : decode cX5_broken 50 = .ok (.aload_n 0, 1) := by decide +kernel
theorem dX5_broken_51 : decode cX5_broken 51 = .ok (.getfield 11, 3) := by decide +kernel
theorem dX5_broken_54 : decode cX5_broken 54 = .ok (.iload_n 1, 1) := by decide +kernel
theorem dX5_broken_55 : decode cX5_broken 55 = .ok (.aaload, 1) := by decide +kernel
theorem dX5_broken_56 : decode cX5_broken 56 = .ok (.getfield 94, 3) := by decide +kernel
theorem dX5_broken_59 : decode cX5_broken 59 = .ok (.iload 4, 2) := by decide +kernel
theorem dX5_broken_61 : decode cX5_broken 61 = .ok (.aload_n 0, 1) := by decide +kernel
theorem dX5_broken_62 : decode cX5_broken 62 = .ok (.getfield 45, 3) := by decide +kernel
theorem dX5_broken_65 : decode cX5_broken 65 = .ok (.getfield 127, 3) := by decide +kernel
theorem dX5_broken_68 : decode cX5_broken 68 = .ok (.imul, 1) := by decide +kernel
theorem dX5_broken_69 : decode cX5_broken 69 = .ok (.invokevirtual 162, 3) := by decide +kernel
theorem dX5_broken_72 : decode cX5_broken 72 = .ok (.ifCond .ne 6, 3) := by decide +kernel
theorem dX5_broken_75 : decode cX5_broken 75 = .ok (.iload 4, 2) := by decide +kernel
theorem dX5_broken_77 : decode cX5_broken 77 = .ok (.ireturn, 1) := by decide +kernel
theorem dX5_broken_78 : decode cX5_broken 78 = .ok (.iinc 4 1, 3) := by decide +kernel
theorem dX5_broken_81 : decode cX5_broken 81 = .ok (.goto (-41), 3) := by decide +kernel
theorem dX5_broken_84 : decode cX5_broken 84 = .ok (.bipush (-9), 2) := by decide +kernel
theorem dX5_broken_86 : decode cX5_broken 86 = .ok (.ireturn, 1) := by decide +kernel
theorem dX5_shouted_0 : decode cX5_shouted 0 = .ok (.aload_n 0, 1) := by decide +kernel
theorem dX5_shouted_1 : decode cX5_shouted 1 = .ok (.getfield 45, 3) := by decide +kernel
theorem dX5_shouted_4 : decode cX5_shouted 4 = .ok (.iload_n 1, 1) := by decide +kernel
theorem dX5_shouted_5 : decode cX5_shouted 5 = .ok (.invokevirtual 266, 3) := by decide +kernel
theorem dX5_shouted_8 : decode cX5_shouted 8 = .ok (.ifCond .ne 5, 3) := by decide +kernel
theorem dX5_shouted_11 : decode cX5_shouted 11 = .ok (.iconst (-1), 1) := by decide +kernel
theorem dX5_shouted_12 : decode cX5_shouted 12 = .ok (.ireturn, 1) := by decide +kernel
theorem dX5_shouted_13 : decode cX5_shouted 13 = .ok (.iconst 0, 1) := by decide +kernel
theorem dX5_shouted_14 : decode cX5_shouted 14 = .ok (.istore_n 2, 1) := by decide +kernel
theorem dX5_shouted_15 : decode cX5_shouted 15 = .ok (.iconst 0, 1) := by decide +kernel
theorem dX5_shouted_16 : decode cX5_shouted 16 = .ok (.istore_n 3, 1) := by decide +kernel
theorem dX5_shouted_17 : decode cX5_shouted 17 = .ok (.iload_n 3, 1) := by decide +kernel
theorem dX5_shouted_18 : decode cX5_shouted 18 = .ok (.iconst 4, 1) := by decide +kernel
theorem dX5_shouted_19 : decode cX5_shouted 19 = .ok (.if_icmp .ge 28, 3) := by decide +kernel
theorem dX5_shouted_22 : decode cX5_shouted 22 = .ok (.aload_n 0, 1) := by decide +kernel
theorem dX5_shouted_23 : decode cX5_shouted 23 = .ok (.getfield 35, 3) := by decide +kernel
theorem dX5_shouted_26 : decode cX5_shouted 26 = .ok (.getfield 269, 3) := by decide +kernel
theorem dX5_shouted_29 : decode cX5_shouted 29 = .ok (.iload_n 3, 1) := by decide +kernel
theorem dX5_shouted_30 : decode cX5_shouted 30 = .ok (.iaload, 1) := by decide +kernel
theorem dX5_shouted_31 : decode cX5_shouted 31 = .ok (.iload_n 1, 1) := by decide +kernel
theorem dX5_shouted_32 : decode cX5_shouted 32 = .ok (.if_icmp .ne 9, 3) := by decide +kernel
theorem dX5_shouted_35 : decode cX5_shouted 35 = .ok (.iload_n 2, 1) := by decide +kernel
theorem dX5_shouted_36 : decode cX5_shouted 36 = .ok (.iconst 1, 1) := by decide +kernel
theorem dX5_shouted_37 : decode cX5_shouted 37 = .ok (.iload_n 3, 1) := by decide +kernel
theorem dX5_shouted_38 : decode cX5_shouted 38 = .ok (.ishl, 1) := by decide +kernel
theorem dX5_shouted_39 : decode cX5_shouted 39 = .ok (.ior, 1) := by decide +kernel
theorem dX5_shouted_40 : decode cX5_shouted 40 = .ok (.istore_n 2, 1) := by decide +kernel
theorem dX5_shouted_41 : decode cX5_shouted 41 = .ok (.iinc 3 1, 3) := by decide +kernel
theorem dX5_shouted_44 : decode cX5_shouted 44 = .ok (.goto (-27), 3) := by decide +kernel
theorem dX5_shouted_47 : decode cX5_shouted 47 = .ok (.iload_n 2, 1) := by decide +kernel
theorem dX5_shouted_48 : decode cX5_shouted 48 = .ok (.ireturn, 1) := by decide +kernel
theorem dX5_calls_0 : decode cX5_calls 0 = .ok (.iload_n 1, 1) := by decide +kernel
theorem dX5_calls_1 : decode cX5_calls 1 = .ok (.invokestatic 78, 3) := by decide +kernel
theorem dX5_calls_4 : decode cX5_calls 4 = .ok (.ifCond .ne 5, 3) := by decide +kernel
theorem dX5_calls_7 : decode cX5_calls 7 = .ok (.iconst (-1), 1) := by decide +kernel
theorem dX5_calls_8 : decode cX5_calls 8 = .ok (.ireturn, 1) := by decide +kernel
theorem dX5_calls_9 : decode cX5_calls 9 = .ok (.aload_n 0, 1) := by decide +kernel
theorem dX5_calls_10 : decode cX5_calls 10 = .ok (.getfield 45, 3) := by decide +kernel
theorem dX5_calls_13 : decode cX5_calls 13 = .ok (.getfield 127, 3) := by decide +kernel
theorem dX5_calls_16 : decode cX5_calls 16 = .ok (.ifCond .ne 6, 3) := by decide +kernel
theorem dX5_calls_19 : decode cX5_calls 19 = .ok (.bipush (-4), 2) := by decide +kernel
theorem dX5_calls_21 : decode cX5_calls 21 = .ok (.ireturn, 1) := by decide +kernel
theorem dX5_calls_22 : decode cX5_calls 22 = .ok (.aload_n 0, 1) := by decide +kernel
theorem dX5_calls_23 : decode cX5_calls 23 = .ok (.getfield 11, 3) := by decide +kernel
theorem dX5_calls_26 : decode cX5_calls 26 = .ok (.iload_n 1, 1) := by decide +kernel
theorem dX5_calls_27 : decode cX5_calls 27 = .ok (.aaload, 1) := by decide +kernel
theorem dX5_calls_28 : decode cX5_calls 28 = .ok (.astore_n 2, 1) := by decide +kernel
theorem dX5_calls_29 : decode cX5_calls 29 = .ok (.aload_n 2, 1) := by decide +kernel
theorem dX5_calls_30 : decode cX5_calls 30 = .ok (.getfield 90, 3) := by decide +kernel
theorem dX5_calls_33 : decode cX5_calls 33 = .ok (.iconst (-1), 1) := by decide +kernel
theorem dX5_calls_34 : decode cX5_calls 34 = .ok (.if_icmp .ne 9, 3) := by decide +kernel
theorem dX5_calls_37 : decode cX5_calls 37 = .ok (.aload_n 0, 1) := by decide +kernel
theorem dX5_calls_38 : decode cX5_calls 38 = .ok (.iconst 1, 1) := by decide +kernel
theorem dX5_calls_39 : decode cX5_calls 39 = .ok (.invokevirtual 82, 3) := by decide +kernel
theorem dX5_calls_42 : decode cX5_calls 42 = .ok (.ireturn, 1) := by decide +kernel
theorem dX5_calls_43 : decode cX5_calls 43 = .ok (.aload_n 2, 1) := by decide +kernel
theorem dX5_calls_44 : decode cX5_calls 44 = .ok (.getfield 90, 3) := by decide +kernel
theorem dX5_calls_47 : decode cX5_calls 47 = .ok (.iconst 4, 1) := by decide +kernel
theorem dX5_calls_48 : decode cX5_calls 48 = .ok (.if_icmp .le 9, 3) := by decide +kernel
theorem dX5_calls_51 : decode cX5_calls 51 = .ok (.aload_n 0, 1) := by decide +kernel
theorem dX5_calls_52 : decode cX5_calls 52 = .ok (.iconst 5, 1) := by decide +kernel
theorem dX5_calls_53 : decode cX5_calls 53 = .ok (.invokevirtual 82, 3) := by decide +kernel
theorem dX5_calls_56 : decode cX5_calls 56 = .ok (.ireturn, 1) := by decide +kernel
theorem dX5_calls_57 : decode cX5_calls 57 = .ok (.aload_n 2, 1) := by decide +kernel
theorem dX5_calls_58 : decode cX5_calls 58 = .ok (.aload_n 0, 1) := by decide +kernel
theorem dX5_calls_59 : decode cX5_calls 59 = .ok (.getfield 45, 3) := by decide +kernel
theorem dX5_calls_62 : decode cX5_calls 62 = .ok (.invokevirtual 208, 3) := by decide +kernel
theorem dX5_calls_65 : decode cX5_calls 65 = .ok (.iconst 1, 1) := by decide +kernel
theorem dX5_calls_66 : decode cX5_calls 66 = .ok (.iadd, 1) := by decide +kernel
theorem dX5_calls_67 : decode cX5_calls 67 = .ok (.invokevirtual 159, 3) := by decide +kernel
theorem dX5_calls_70 : decode cX5_calls 70 = .ok (.ifCond .ne 9, 3) := by decide +kernel
theorem dX5_calls_73 : decode cX5_calls 73 = .ok (.aload_n 0, 1) := by decide +kernel
theorem dX5_calls_74 : decode cX5_calls 74 = .ok (.iconst 3, 1) := by decide +kernel
theorem dX5_calls_75 : decode cX5_calls 75 = .ok (.invokevirtual 82, 3) := by decide +kernel
theorem dX5_calls_78 : decode cX5_calls 78 = .ok (.ireturn, 1) := by decide +kernel
theorem dX5_calls_79 : decode cX5_calls 79 = .ok (.iconst 0, 1) := by decide +kernel
theorem dX5_calls_80 : decode cX5_calls 80 = .ok (.istore_n 3, 1) := by decide +kernel
theorem dX5_calls_81 : decode cX5_calls 81 = .ok (.aload_n 0, 1) := by decide +kernel
theorem dX5_calls_82 : decode cX5_calls 82 = .ok (.getfield 39, 3) := by decide +kernel
theorem dX5_calls_85 : decode cX5_calls 85 = .ok (.iconst 0, 1) := by decide +kernel
theorem dX5_calls_86 : decode cX5_calls 86 = .ok (.putfield 177, 3) := by decide +kernel
theorem dX5_calls_89 : decode cX5_calls 89 = .ok (.iconst 0, 1) := by decide +kernel
theorem dX5_calls_90 : decode cX5_calls 90 = .ok (.istore 4, 2) := by decide +kernel
theorem dX5_calls_92 : decode cX5_calls 92 = .ok (.iload 4, 2) := by decide +kernel
theorem dX5_calls_94 : decode cX5_calls 94 = .ok (.aload_n 0, 1) := by decide +kernel
theorem dX5_calls_95 : decode cX5_calls 95 = .ok (.getfield 45, 3) := by decide +kernel
theorem dX5_calls_98 : decode cX5_calls 98 = .ok (.invokevirtual 272, 3) := by decide +kernel
theorem dX5_calls_101 : decode cX5_calls 101 = .ok (.if_icmp .ge 47, 3) := by decide +kernel
theorem dX5_calls_104 : decode cX5_calls 104 = .ok (.aload_n 0, 1) := by decide +kernel
theorem dX5_calls_105 : decode cX5_calls 105 = .ok (.getfield 39, 3) := by decide +kernel
theorem dX5_calls_108 : decode cX5_calls 108 = .ok (.aload_n 0, 1) := by decide +kernel
theorem dX5_calls_109 : decode cX5_calls 109 = .ok (.getfield 45, 3) := by decide +kernel
theorem dX5_calls_112 : decode cX5_calls 112 = .ok (.iload 4, 2) := by decide +kernel
theorem dX5_calls_114 : decode cX5_calls 114 = .ok (.invokevirtual 275, 3) := by decide +kernel
theorem dX5_calls_117 : decode cX5_calls 117 = .ok (.aload_n 0, 1) := by decide +kernel
theorem dX5_calls_118 : decode cX5_calls 118 = .ok (.getfield 39, 3) := by decide +kernel
theorem dX5_calls_121 : decode cX5_calls 121 = .ok (.aload_n 0, 1) := by decide +kernel
theorem dX5_calls_122 : decode cX5_calls 122 = .ok (.getfield 45, 3) := by decide +kernel
theorem dX5_calls_125 : decode cX5_calls 125 = .ok (.invokevirtual 278, 3) := by decide +kernel
theorem dX5_calls_128 : decode cX5_calls 128 = .ok (.aload_n 0, 1) := by decide +kernel
theorem dX5_calls_129 : decode cX5_calls 129 = .ok (.getfield 39, 3) := by decide +kernel
theorem dX5_calls_132 : decode cX5_calls 132 = .ok (.aload_n 2, 1) := by decide +kernel
theorem dX5_calls_133 : decode cX5_calls 133 = .ok (.invokevirtual 282, 3) := by decide +kernel
theorem dX5_calls_136 : decode cX5_calls 136 = .ok (.ifCond .eq 6, 3) := by decide +kernel
theorem dX5_calls_139 : decode cX5_calls 139 = .ok (.iinc 3 1, 3) := by decide +kernel
theorem dX5_calls_142 : decode cX5_calls 142 = .ok (.iinc 4 1, 3) := by decide +kernel
theorem dX5_calls_145 : decode cX5_calls 145 = .ok (.goto (-53), 3) := by decide +kernel
theorem dX5_calls_148 : decode cX5_calls 148 = .ok (.aload_n 0, 1) := by decide +kernel
theorem dX5_calls_149 : decode cX5_calls 149 = .ok (.iload_n 3, 1) := by decide +kernel
theorem dX5_calls_150 : decode cX5_calls 150 = .ok (.iconst 1, 1) := by decide +kernel
theorem dX5_calls_151 : decode cX5_calls 151 = .ok (.invokevirtual 246, 3) := by decide +kernel
theorem dX5_calls_154 : decode cX5_calls 154 = .ok (.iconst 1, 1) := by decide +kernel
theorem dX5_calls_155 : decode cX5_calls 155 = .ok (.ireturn, 1) := by decide +kernel
theorem dX5_lots_0 : decode cX5_lots 0 = .ok (.iload_n 1, 1) := by decide +kernel
theorem dX5_lots_1 : decode cX5_lots 1 = .ok (.iconst 1, 1) := by decide +kernel
theorem dX5_lots_2 : decode cX5_lots 2 = .ok (.if_icmp .lt 23, 3) := by decide +kernel
theorem dX5_lots_5 : decode cX5_lots 5 = .ok (.iload_n 1, 1) := by decide +kernel
theorem dX5_lots_6 : decode cX5_lots 6 = .ok (.bipush 20, 2) := by decide +kernel
theorem dX5_lots_8 : decode cX5_lots 8 = .ok (.if_icmp .gt 17, 3) := by decide +kernel
theorem dX5_lots_11 : decode cX5_lots 11 = .ok (.iload_n 2, 1) := by decide +kernel
theorem dX5_lots_12 : decode cX5_lots 12 = .ok (.iconst 1, 1) := by decide +kernel
theorem dX5_lots_13 : decode cX5_lots 13 = .ok (.if_icmp .lt 12, 3) := by decide +kernel
theorem dX5_lots_16 : decode cX5_lots 16 = .ok (.iload_n 2, 1) := by decide +kernel
theorem dX5_lots_17 : decode cX5_lots 17 = .ok (.i2l, 1) := by decide +kernel
theorem dX5_lots_18 : decode cX5_lots 18 = .ok (.ldc2_w 286, 3) := by decide +kernel
theorem dX5_lots_21 : decode cX5_lots 21 = .ok (.lcmp, 1) := by decide +kernel
theorem dX5_lots_22 : decode cX5_lots 22 = .ok (.ifCond .lt 5, 3) := by decide +kernel
theorem dX5_lots_25 : decode cX5_lots 25 = .ok (.iconst (-1), 1) := by decide +kernel
theorem dX5_lots_26 : decode cX5_lots 26 = .ok (.ireturn, 1) := by decide +kernel
theorem dX5_lots_27 : decode cX5_lots 27 = .ok (.aload_n 0, 1) := by decide +kernel
theorem dX5_lots_28 : decode cX5_lots 28 = .ok (.getfield 45, 3) := by decide +kernel
theorem dX5_lots_31 : decode cX5_lots 31 = .ok (.getfield 127, 3) := by decide +kernel
theorem dX5_lots_34 : decode cX5_lots 34 = .ok (.iconst 2, 1) := by decide +kernel
theorem dX5_lots_35 : decode cX5_lots 35 = .ok (.if_icmp .ge 6, 3) := by decide +kernel
theorem dX5_lots_38 : decode cX5_lots 38 = .ok (.bipush (-4), 2) := by decide +kernel
theorem dX5_lots_40 : decode cX5_lots 40 = .ok (.ireturn, 1) := by decide +kernel
theorem dX5_lots_41 : decode cX5_lots 41 = .ok (.aload_n 0, 1) := by decide +kernel
theorem dX5_lots_42 : decode cX5_lots 42 = .ok (.getfield 28, 3) := by decide +kernel
theorem dX5_lots_45 : decode cX5_lots 45 = .ok (.getfield 75, 3) := by decide +kernel
theorem dX5_lots_48 : decode cX5_lots 48 = .ok (.iload_n 1, 1) := by decide +kernel
theorem dX5_lots_49 : decode cX5_lots 49 = .ok (.iadd, 1) := by decide +kernel
theorem dX5_lots_50 : decode cX5_lots 50 = .ok (.bipush 40, 2) := by decide +kernel
theorem dX5_lots_52 : decode cX5_lots 52 = .ok (.if_icmp .le 6, 3) := by decide +kernel
theorem dX5_lots_55 : decode cX5_lots 55 = .ok (.bipush (-2), 2) := by decide +kernel
theorem dX5_lots_57 : decode cX5_lots 57 = .ok (.ireturn, 1) := by decide +kernel
theorem dX5_lots_58 : decode cX5_lots 58 = .ok (.aload_n 0, 1) := by decide +kernel
theorem dX5_lots_59 : decode cX5_lots 59 = .ok (.getfield 45, 3) := by decide +kernel
theorem dX5_lots_62 : decode cX5_lots 62 = .ok (.getfield 127, 3) := by decide +kernel
theorem dX5_lots_65 : decode cX5_lots 65 = .ok (.iconst 1, 1) := by decide +kernel
theorem dX5_lots_66 : decode cX5_lots 66 = .ok (.isub, 1) := by decide +kernel
theorem dX5_lots_67 : decode cX5_lots 67 = .ok (.istore_n 3, 1) := by decide +kernel
theorem dX5_lots_68 : decode cX5_lots 68 = .ok (.iconst 0, 1) := by decide +kernel
theorem dX5_lots_69 : decode cX5_lots 69 = .ok (.istore 4, 2) := by decide +kernel
theorem dX5_lots_71 : decode cX5_lots 71 = .ok (.iload_n 2, 1) := by decide +kernel
theorem dX5_lots_72 : decode cX5_lots 72 = .ok (.i2l, 1) := by decide +kernel
theorem dX5_lots_73 : decode cX5_lots 73 = .ok (.lstore 5, 2) := by decide +kernel
theorem dX5_lots_75 : decode cX5_lots 75 = .ok (.iconst 0, 1) := by decide +kernel
theorem dX5_lots_76 : decode cX5_lots 76 = .ok (.istore 7, 2) := by decide +kernel
theorem dX5_lots_78 : decode cX5_lots 78 = .ok (.iload 7, 2) := by decide +kernel
theorem dX5_lots_80 : decode cX5_lots 80 = .ok (.iload_n 1, 1) := by decide +kernel
theorem dX5_lots_81 : decode cX5_lots 81 = .ok (.if_icmp .ge 90, 3) := by decide +kernel
theorem dX5_lots_84 : decode cX5_lots 84 = .ok (.iconst 0, 1) := by decide +kernel
theorem dX5_lots_85 : decode cX5_lots 85 = .ok (.istore 8, 2) := by decide +kernel
theorem dX5_lots_87 : decode cX5_lots 87 = .ok (.iconst 0, 1) := by decide +kernel
theorem dX5_lots_88 : decode cX5_lots 88 = .ok (.istore 9, 2) := by decide +kernel
theorem dX5_lots_90 : decode cX5_lots 90 = .ok (.iload 9, 2) := by decide +kernel
theorem dX5_lots_92 : decode cX5_lots 92 = .ok (.aload_n 0, 1) := by decide +kernel
theorem dX5_lots_93 : decode cX5_lots 93 = .ok (.getfield 45, 3) := by decide +kernel
theorem dX5_lots_96 : decode cX5_lots 96 = .ok (.getfield 288, 3) := by decide +kernel
theorem dX5_lots_99 : decode cX5_lots 99 = .ok (.if_icmp .ge 42, 3) := by decide +kernel
theorem dX5_lots_102 : decode cX5_lots 102 = .ok (.lload 5, 2) := by decide +kernel
theorem dX5_lots_104 : decode cX5_lots 104 = .ok (.ldc2_w 291, 3) := by decide +kernel
theorem dX5_lots_107 : decode cX5_lots 107 = .ok (.lmul, 1) := by decide +kernel
theorem dX5_lots_108 : decode cX5_lots 108 = .ok (.ldc2_w 286, 3) := by decide +kernel
theorem dX5_lots_111 : decode cX5_lots 111 = .ok (.lrem, 1) := by decide +kernel
theorem dX5_lots_112 : decode cX5_lots 112 = .ok (.lstore 5, 2) := by decide +kernel
theorem dX5_lots_114 : decode cX5_lots 114 = .ok (.iload 8, 2) := by decide +kernel
theorem dX5_lots_116 : decode cX5_lots 116 = .ok (.lload 5, 2) := by decide +kernel
theorem dX5_lots_118 : decode cX5_lots 118 = .ok (.ldc2_w 293, 3) := by decide +kernel
theorem dX5_lots_121 : decode cX5_lots 121 = .ok (.ldiv, 1) := by decide +kernel
theorem dX5_lots_122 : decode cX5_lots 122 = .ok (.ldc2_w 295, 3) := by decide +kernel
theorem dX5_lots_125 : decode cX5_lots 125 = .ok (.lrem, 1) := by decide +kernel
theorem dX5_lots_126 : decode cX5_lots 126 = .ok (.l2i, 1) := by decide +kernel
theorem dX5_lots_127 : decode cX5_lots 127 = .ok (.iconst 2, 1) := by decide +kernel
theorem dX5_lots_128 : decode cX5_lots 128 = .ok (.iload 9, 2) := by decide +kernel
theorem dX5_lots_130 : decode cX5_lots 130 = .ok (.imul, 1) := by decide +kernel
theorem dX5_lots_131 : decode cX5_lots 131 = .ok (.ishl, 1) := by decide +kernel
theorem dX5_lots_132 : decode cX5_lots 132 = .ok (.ior, 1) := by decide +kernel
theorem dX5_lots_133 : decode cX5_lots 133 = .ok (.istore 8, 2) := by decide +kernel
theorem dX5_lots_135 : decode cX5_lots 135 = .ok (.iinc 9 1, 3) := by decide +kernel
theorem dX5_lots_138 : decode cX5_lots 138 = .ok (.goto (-48), 3) := by decide +kernel
theorem dX5_lots_141 : decode cX5_lots 141 = .ok (.aload_n 0, 1) := by decide +kernel
theorem dX5_lots_142 : decode cX5_lots 142 = .ok (.iconst 0, 1) := by decide +kernel
theorem dX5_lots_143 : decode cX5_lots 143 = .ok (.iload 8, 2) := by decide +kernel
theorem dX5_lots_145 : decode cX5_lots 145 = .ok (.invokevirtual 170, 3) := by decide +kernel
theorem dX5_lots_148 : decode cX5_lots 148 = .ok (.aload_n 0, 1) := by decide +kernel
theorem dX5_lots_149 : decode cX5_lots 149 = .ok (.getfield 35, 3) := by decide +kernel
theorem dX5_lots_152 : decode cX5_lots 152 = .ok (.iconst 0, 1) := by decide +kernel
theorem dX5_lots_153 : decode cX5_lots 153 = .ok (.iload_n 3, 1) := by decide +kernel
theorem dX5_lots_154 : decode cX5_lots 154 = .ok (.bipush 63, 2) := by decide +kernel
theorem dX5_lots_156 : decode cX5_lots 156 = .ok (.invokevirtual 211, 3) := by decide +kernel
theorem dX5_lots_159 : decode cX5_lots 159 = .ok (.ifCond .eq 6, 3) := by decide +kernel
theorem dX5_lots_162 : decode cX5_lots 162 = .ok (.iinc 4 1, 3) := by decide +kernel
theorem dX5_lots_165 : decode cX5_lots 165 = .ok (.iinc 7 1, 3) := by decide +kernel
theorem dX5_lots_168 : decode cX5_lots 168 = .ok (.goto (-90), 3) := by decide +kernel
theorem dX5_lots_171 : decode cX5_lots 171 = .ok (.iload 4, 2) := by decide +kernel
theorem dX5_lots_173 : decode cX5_lots 173 = .ok (.ireturn, 1) := by decide +kernel
theorem dX5_asked_0 : decode cX5_asked 0 = .ok (.aload_n 0, 1) := by decide +kernel
theorem dX5_asked_1 : decode cX5_asked 1 = .ok (.getfield 63, 3) := by decide +kernel
theorem dX5_asked_4 : decode cX5_asked 4 = .ok (.ireturn, 1) := by decide +kernel
theorem dX5_upper_0 : decode cX5_upper 0 = .ok (.aload_n 0, 1) := by decide +kernel
theorem dX5_upper_1 : decode cX5_upper 1 = .ok (.getfield 66, 3) := by decide +kernel
theorem dX5_upper_4 : decode cX5_upper 4 = .ok (.lreturn, 1) := by decide +kernel
theorem dX5_lower_0 : decode cX5_lower 0 = .ok (.aload_n 0, 1) := by decide +kernel
theorem dX5_lower_1 : decode cX5_lower 1 = .ok (.getfield 70, 3) := by decide +kernel
theorem dX5_lower_4 : decode cX5_lower 4 = .ok (.lreturn, 1) := by decide +kernel
theorem dX5_count_0 : decode cX5_count 0 = .ok (.iload_n 1, 1) := by decide +kernel
theorem dX5_count_1 : decode cX5_count 1 = .ok (.ifCond .lt 9, 3) := by decide +kernel
theorem dX5_count_4 : decode cX5_count 4 = .ok (.iload_n 1, 1) := by decide +kernel
theorem dX5_count_5 : decode cX5_count 5 = .ok (.bipush 9, 2) := by decide +kernel
theorem dX5_count_7 : decode cX5_count 7 = .ok (.if_icmp .lt 5, 3) := by decide +kernel
theorem dX5_count_10 : decode cX5_count 10 = .ok (.iconst (-1), 1) := by decide +kernel
theorem dX5_count_11 : decode cX5_count 11 = .ok (.ireturn, 1) := by decide +kernel
theorem dX5_count_12 : decode cX5_count 12 = .ok (.aload_n 0, 1) := by decide +kernel
theorem dX5_count_13 : decode cX5_count 13 = .ok (.iload_n 1, 1) := by decide +kernel
theorem dX5_count_14 : decode cX5_count 14 = .ok (.invokevirtual 297, 3) := by decide +kernel
theorem dX5_count_17 : decode cX5_count 17 = .ok (.ireturn, 1) := by decide +kernel
theorem dX5_finding_0 : decode cX5_finding 0 = .ok (.aload_n 0, 1) := by decide +kernel
theorem dX5_finding_1 : decode cX5_finding 1 = .ok (.getfield 59, 3) := by decide +kernel
theorem dX5_finding_4 : decode cX5_finding 4 = .ok (.ireturn, 1) := by decide +kernel
theorem dX5_findings_0 : decode cX5_findings 0 = .ok (.iload_n 1, 1) := by decide +kernel
theorem dX5_findings_1 : decode cX5_findings 1 = .ok (.iconst 1, 1) := by decide +kernel
theorem dX5_findings_2 : decode cX5_findings 2 = .ok (.if_icmp .lt 8, 3) := by decide +kernel
theorem dX5_findings_5 : decode cX5_findings 5 = .ok (.iload_n 1, 1) := by decide +kernel
theorem dX5_findings_6 : decode cX5_findings 6 = .ok (.iconst 5, 1) := by decide +kernel
theorem dX5_findings_7 : decode cX5_findings 7 = .ok (.if_icmp .le 5, 3) := by decide +kernel
theorem dX5_findings_10 : decode cX5_findings 10 = .ok (.iconst (-1), 1) := by decide +kernel
theorem dX5_findings_11 : decode cX5_findings 11 = .ok (.ireturn, 1) := by decide +kernel
theorem dX5_findings_12 : decode cX5_findings 12 = .ok (.aload_n 0, 1) := by decide +kernel
theorem dX5_findings_13 : decode cX5_findings 13 = .ok (.getfield 56, 3) := by decide +kernel
theorem dX5_findings_16 : decode cX5_findings 16 = .ok (.iload_n 1, 1) := by decide +kernel
theorem dX5_findings_17 : decode cX5_findings 17 = .ok (.iaload, 1) := by decide +kernel
theorem dX5_findings_18 : decode cX5_findings 18 = .ok (.ireturn, 1) := by decide +kernel
theorem dX5_digest_0 : decode cX5_digest 0 = .ok (.ldc2_w 300, 3) := by decide +kernel
theorem dX5_digest_3 : decode cX5_digest 3 = .ok (.lstore_n 1, 1) := by decide +kernel
theorem dX5_digest_4 : decode cX5_digest 4 = .ok (.iconst 0, 1) := by decide +kernel
theorem dX5_digest_5 : decode cX5_digest 5 = .ok (.istore_n 3, 1) := by decide +kernel
theorem dX5_digest_6 : decode cX5_digest 6 = .ok (.iload_n 3, 1) := by decide +kernel
theorem dX5_digest_7 : decode cX5_digest 7 = .ok (.bipush 9, 2) := by decide +kernel
theorem dX5_digest_9 : decode cX5_digest 9 = .ok (.if_icmp .ge 22, 3) := by decide +kernel
theorem dX5_digest_12 : decode cX5_digest 12 = .ok (.ldc2_w 302, 3) := by decide +kernel
theorem dX5_digest_15 : decode cX5_digest 15 = .ok (.lload_n 1, 1) := by decide +kernel
theorem dX5_digest_16 : decode cX5_digest 16 = .ok (.lmul, 1) := by decide +kernel
theorem dX5_digest_17 : decode cX5_digest 17 = .ok (.aload_n 0, 1) := by decide +kernel
theorem dX5_digest_18 : decode cX5_digest 18 = .ok (.iload_n 3, 1) := by decide +kernel
theorem dX5_digest_19 : decode cX5_digest 19 = .ok (.invokevirtual 297, 3) := by decide +kernel
theorem dX5_digest_22 : decode cX5_digest 22 = .ok (.i2l, 1) := by decide +kernel
theorem dX5_digest_23 : decode cX5_digest 23 = .ok (.ladd, 1) := by decide +kernel
theorem dX5_digest_24 : decode cX5_digest 24 = .ok (.lstore_n 1, 1) := by decide +kernel
theorem dX5_digest_25 : decode cX5_digest 25 = .ok (.iinc 3 1, 3) := by decide +kernel
theorem dX5_digest_28 : decode cX5_digest 28 = .ok (.goto (-22), 3) := by decide +kernel
theorem dX5_digest_31 : decode cX5_digest 31 = .ok (.iconst 0, 1) := by decide +kernel
theorem dX5_digest_32 : decode cX5_digest 32 = .ok (.istore_n 3, 1) := by decide +kernel
theorem dX5_digest_33 : decode cX5_digest 33 = .ok (.iload_n 3, 1) := by decide +kernel
theorem dX5_digest_34 : decode cX5_digest 34 = .ok (.aload_n 0, 1) := by decide +kernel
theorem dX5_digest_35 : decode cX5_digest 35 = .ok (.getfield 45, 3) := by decide +kernel
theorem dX5_digest_38 : decode cX5_digest 38 = .ok (.getfield 127, 3) := by decide +kernel
theorem dX5_digest_41 : decode cX5_digest 41 = .ok (.if_icmp .ge 39, 3) := by decide +kernel
theorem dX5_digest_44 : decode cX5_digest 44 = .ok (.iconst 0, 1) := by decide +kernel
theorem dX5_digest_45 : decode cX5_digest 45 = .ok (.istore 4, 2) := by decide +kernel
theorem dX5_digest_47 : decode cX5_digest 47 = .ok (.iload 4, 2) := by decide +kernel
theorem dX5_digest_49 : decode cX5_digest 49 = .ok (.iconst 5, 1) := by decide +kernel
theorem dX5_digest_50 : decode cX5_digest 50 = .ok (.if_icmp .ge 24, 3) := by decide +kernel
theorem dX5_digest_53 : decode cX5_digest 53 = .ok (.ldc2_w 302, 3) := by decide +kernel
theorem dX5_digest_56 : decode cX5_digest 56 = .ok (.lload_n 1, 1) := by decide +kernel
theorem dX5_digest_57 : decode cX5_digest 57 = .ok (.lmul, 1) := by decide +kernel
theorem dX5_digest_58 : decode cX5_digest 58 = .ok (.aload_n 0, 1) := by decide +kernel
theorem dX5_digest_59 : decode cX5_digest 59 = .ok (.iload_n 3, 1) := by decide +kernel
theorem dX5_digest_60 : decode cX5_digest 60 = .ok (.iload 4, 2) := by decide +kernel
theorem dX5_digest_62 : decode cX5_digest 62 = .ok (.invokevirtual 131, 3) := by decide +kernel
theorem dX5_digest_65 : decode cX5_digest 65 = .ok (.i2l, 1) := by decide +kernel
theorem dX5_digest_66 : decode cX5_digest 66 = .ok (.ladd, 1) := by decide +kernel
theorem dX5_digest_67 : decode cX5_digest 67 = .ok (.lstore_n 1, 1) := by decide +kernel
theorem dX5_digest_68 : decode cX5_digest 68 = .ok (.iinc 4 1, 3) := by decide +kernel
theorem dX5_digest_71 : decode cX5_digest 71 = .ok (.goto (-24), 3) := by decide +kernel
theorem dX5_digest_74 : decode cX5_digest 74 = .ok (.iinc 3 1, 3) := by decide +kernel
theorem dX5_digest_77 : decode cX5_digest 77 = .ok (.goto (-44), 3) := by decide +kernel
theorem dX5_digest_80 : decode cX5_digest 80 = .ok (.iconst 0, 1) := by decide +kernel
theorem dX5_digest_81 : decode cX5_digest 81 = .ok (.istore_n 3, 1) := by decide +kernel
theorem dX5_digest_82 : decode cX5_digest 82 = .ok (.iload_n 3, 1) := by decide +kernel
theorem dX5_digest_83 : decode cX5_digest 83 = .ok (.iconst 3, 1) := by decide +kernel
theorem dX5_digest_84 : decode cX5_digest 84 = .ok (.if_icmp .ge 26, 3) := by decide +kernel
theorem dX5_digest_87 : decode cX5_digest 87 = .ok (.ldc2_w 302, 3) := by decide +kernel
theorem dX5_digest_90 : decode cX5_digest 90 = .ok (.lload_n 1, 1) := by decide +kernel
theorem dX5_digest_91 : decode cX5_digest 91 = .ok (.lmul, 1) := by decide +kernel
theorem dX5_digest_92 : decode cX5_digest 92 = .ok (.aload_n 0, 1) := by decide +kernel
theorem dX5_digest_93 : decode cX5_digest 93 = .ok (.getfield 23, 3) := by decide +kernel
theorem dX5_digest_96 : decode cX5_digest 96 = .ok (.iload_n 3, 1) := by decide +kernel
theorem dX5_digest_97 : decode cX5_digest 97 = .ok (.aaload, 1) := by decide +kernel
theorem dX5_digest_98 : decode cX5_digest 98 = .ok (.getfield 75, 3) := by decide +kernel
theorem dX5_digest_101 : decode cX5_digest 101 = .ok (.i2l, 1) := by decide +kernel
theorem dX5_digest_102 : decode cX5_digest 102 = .ok (.ladd, 1) := by decide +kernel
theorem dX5_digest_103 : decode cX5_digest 103 = .ok (.lstore_n 1, 1) := by decide +kernel
theorem dX5_digest_104 : decode cX5_digest 104 = .ok (.iinc 3 1, 3) := by decide +kernel
theorem dX5_digest_107 : decode cX5_digest 107 = .ok (.goto (-25), 3) := by decide +kernel
theorem dX5_digest_110 : decode cX5_digest 110 = .ok (.iconst 0, 1) := by decide +kernel
theorem dX5_digest_111 : decode cX5_digest 111 = .ok (.istore_n 3, 1) := by decide +kernel
theorem dX5_digest_112 : decode cX5_digest 112 = .ok (.iload_n 3, 1) := by decide +kernel
theorem dX5_digest_113 : decode cX5_digest 113 = .ok (.bipush 6, 2) := by decide +kernel
theorem dX5_digest_115 : decode cX5_digest 115 = .ok (.if_icmp .ge 20, 3) := by decide +kernel
theorem dX5_digest_118 : decode cX5_digest 118 = .ok (.aload_n 0, 1) := by decide +kernel
theorem dX5_digest_119 : decode cX5_digest 119 = .ok (.getfield 11, 3) := by decide +kernel
theorem dX5_digest_122 : decode cX5_digest 122 = .ok (.iload_n 3, 1) := by decide +kernel
theorem dX5_digest_123 : decode cX5_digest 123 = .ok (.aaload, 1) := by decide +kernel
theorem dX5_digest_124 : decode cX5_digest 124 = .ok (.lload_n 1, 1) := by decide +kernel
theorem dX5_digest_125 : decode cX5_digest 125 = .ok (.invokevirtual 304, 3) := by decide +kernel
theorem dX5_digest_128 : decode cX5_digest 128 = .ok (.lstore_n 1, 1) := by decide +kernel
theorem dX5_digest_129 : decode cX5_digest 129 = .ok (.iinc 3 1, 3) := by decide +kernel
theorem dX5_digest_132 : decode cX5_digest 132 = .ok (.goto (-20), 3) := by decide +kernel
theorem dX5_digest_135 : decode cX5_digest 135 = .ok (.iconst 0, 1) := by decide +kernel
theorem dX5_digest_136 : decode cX5_digest 136 = .ok (.istore_n 3, 1) := by decide +kernel
theorem dX5_digest_137 : decode cX5_digest 137 = .ok (.iload_n 3, 1) := by decide +kernel
theorem dX5_digest_138 : decode cX5_digest 138 = .ok (.iconst 4, 1) := by decide +kernel
theorem dX5_digest_139 : decode cX5_digest 139 = .ok (.if_icmp .ge 20, 3) := by decide +kernel
theorem dX5_digest_142 : decode cX5_digest 142 = .ok (.aload_n 0, 1) := by decide +kernel
theorem dX5_digest_143 : decode cX5_digest 143 = .ok (.getfield 17, 3) := by decide +kernel
theorem dX5_digest_146 : decode cX5_digest 146 = .ok (.iload_n 3, 1) := by decide +kernel
theorem dX5_digest_147 : decode cX5_digest 147 = .ok (.aaload, 1) := by decide +kernel
theorem dX5_digest_148 : decode cX5_digest 148 = .ok (.lload_n 1, 1) := by decide +kernel
theorem dX5_digest_149 : decode cX5_digest 149 = .ok (.invokevirtual 308, 3) := by decide +kernel
theorem dX5_digest_152 : decode cX5_digest 152 = .ok (.lstore_n 1, 1) := by decide +kernel
theorem dX5_digest_153 : decode cX5_digest 153 = .ok (.iinc 3 1, 3) := by decide +kernel
theorem dX5_digest_156 : decode cX5_digest 156 = .ok (.goto (-19), 3) := by decide +kernel
theorem dX5_digest_159 : decode cX5_digest 159 = .ok (.lload_n 1, 1) := by decide +kernel
theorem dX5_digest_160 : decode cX5_digest 160 = .ok (.lreturn, 1) := by decide +kernel
theorem dX5_isRow_0 : decode cX5_isRow 0 = .ok (.iload_n 0, 1) := by decide +kernel
theorem dX5_isRow_1 : decode cX5_isRow 1 = .ok (.ifCond .lt 13, 3) := by decide +kernel
theorem dX5_isRow_4 : decode cX5_isRow 4 = .ok (.iload_n 0, 1) := by decide +kernel
theorem dX5_isRow_5 : decode cX5_isRow 5 = .ok (.bipush 6, 2) := by decide +kernel
theorem dX5_isRow_7 : decode cX5_isRow 7 = .ok (.if_icmp .ge 7, 3) := by decide +kernel
theorem dX5_isRow_10 : decode cX5_isRow 10 = .ok (.iconst 1, 1) := by decide +kernel
theorem dX5_isRow_11 : decode cX5_isRow 11 = .ok (.goto 4, 3) := by decide +kernel
theorem dX5_isRow_14 : decode cX5_isRow 14 = .ok (.iconst 0, 1) := by decide +kernel
theorem dX5_isRow_15 : decode cX5_isRow 15 = .ok (.ireturn, 1) := by decide +kernel
theorem dX5_isText_0 : decode cX5_isText 0 = .ok (.iload_n 0, 1) := by decide +kernel
theorem dX5_isText_1 : decode cX5_isText 1 = .ok (.ifCond .lt 12, 3) := by decide +kernel
theorem dX5_isText_4 : decode cX5_isText 4 = .ok (.iload_n 0, 1) := by decide +kernel
theorem dX5_isText_5 : decode cX5_isText 5 = .ok (.iconst 4, 1) := by decide +kernel
theorem dX5_isText_6 : decode cX5_isText 6 = .ok (.if_icmp .ge 7, 3) := by decide +kernel
theorem dX5_isText_9 : decode cX5_isText 9 = .ok (.iconst 1, 1) := by decide +kernel
theorem dX5_isText_10 : decode cX5_isText 10 = .ok (.goto 4, 3) := by decide +kernel
theorem dX5_isText_13 : decode cX5_isText 13 = .ok (.iconst 0, 1) := by decide +kernel
theorem dX5_isText_14 : decode cX5_isText 14 = .ok (.ireturn, 1) := by decide +kernel
theorem dX5_areTwo_0 : decode cX5_areTwo 0 = .ok (.aload_n 0, 1) := by decide +kernel
theorem dX5_areTwo_1 : decode cX5_areTwo 1 = .ok (.getfield 45, 3) := by decide +kernel
theorem dX5_areTwo_4 : decode cX5_areTwo 4 = .ok (.iload_n 1, 1) := by decide +kernel
theorem dX5_areTwo_5 : decode cX5_areTwo 5 = .ok (.invokevirtual 130, 3) := by decide +kernel
theorem dX5_areTwo_8 : decode cX5_areTwo 8 = .ok (.ifCond .eq 23, 3) := by decide +kernel
theorem dX5_areTwo_11 : decode cX5_areTwo 11 = .ok (.aload_n 0, 1) := by decide +kernel
theorem dX5_areTwo_12 : decode cX5_areTwo 12 = .ok (.getfield 45, 3) := by decide +kernel
theorem dX5_areTwo_15 : decode cX5_areTwo 15 = .ok (.iload_n 2, 1) := by decide +kernel
theorem dX5_areTwo_16 : decode cX5_areTwo 16 = .ok (.invokevirtual 130, 3) := by decide +kernel
theorem dX5_areTwo_19 : decode cX5_areTwo 19 = .ok (.ifCond .eq 12, 3) := by decide +kernel
theorem dX5_areTwo_22 : decode cX5_areTwo 22 = .ok (.iload_n 1, 1) := by decide +kernel
theorem dX5_areTwo_23 : decode cX5_areTwo 23 = .ok (.iload_n 2, 1) := by decide +kernel
theorem dX5_areTwo_24 : decode cX5_areTwo 24 = .ok (.if_icmp .eq 7, 3) := by decide +kernel
theorem dX5_areTwo_27 : decode cX5_areTwo 27 = .ok (.iconst 1, 1) := by decide +kernel
theorem dX5_areTwo_28 : decode cX5_areTwo 28 = .ok (.goto 4, 3) := by decide +kernel
theorem dX5_areTwo_31 : decode cX5_areTwo 31 = .ok (.iconst 0, 1) := by decide +kernel
theorem dX5_areTwo_32 : decode cX5_areTwo 32 = .ok (.ireturn, 1) := by decide +kernel
theorem dX5_holds_0 : decode cX5_holds 0 = .ok (.iload_n 0, 1) := by decide +kernel
theorem dX5_holds_1 : decode cX5_holds 1 = .ok (.iload_n 1, 1) := by decide +kernel
theorem dX5_holds_2 : decode cX5_holds 2 = .ok (.ishr, 1) := by decide +kernel
theorem dX5_holds_3 : decode cX5_holds 3 = .ok (.iconst 1, 1) := by decide +kernel
theorem dX5_holds_4 : decode cX5_holds 4 = .ok (.iand, 1) := by decide +kernel
theorem dX5_holds_5 : decode cX5_holds 5 = .ok (.ifCond .eq 7, 3) := by decide +kernel
theorem dX5_holds_8 : decode cX5_holds 8 = .ok (.iconst 1, 1) := by decide +kernel
theorem dX5_holds_9 : decode cX5_holds 9 = .ok (.goto 4, 3) := by decide +kernel
theorem dX5_holds_12 : decode cX5_holds 12 = .ok (.iconst 0, 1) := by decide +kernel
theorem dX5_holds_13 : decode cX5_holds 13 = .ok (.ireturn, 1) := by decide +kernel
theorem dX5_found_0 : decode cX5_found 0 = .ok (.aload_n 0, 1) := by decide +kernel
theorem dX5_found_1 : decode cX5_found 1 = .ok (.iload_n 1, 1) := by decide +kernel
theorem dX5_found_2 : decode cX5_found 2 = .ok (.putfield 59, 3) := by decide +kernel
theorem dX5_found_5 : decode cX5_found 5 = .ok (.aload_n 0, 1) := by decide +kernel
theorem dX5_found_6 : decode cX5_found 6 = .ok (.getfield 56, 3) := by decide +kernel
theorem dX5_found_9 : decode cX5_found 9 = .ok (.iload_n 1, 1) := by decide +kernel
theorem dX5_found_10 : decode cX5_found 10 = .ok (.dup2, 1) := by decide +kernel
theorem dX5_found_11 : decode cX5_found 11 = .ok (.iaload, 1) := by decide +kernel
theorem dX5_found_12 : decode cX5_found 12 = .ok (.iconst 1, 1) := by decide +kernel
theorem dX5_found_13 : decode cX5_found 13 = .ok (.iadd, 1) := by decide +kernel
theorem dX5_found_14 : decode cX5_found 14 = .ok (.iastore, 1) := by decide +kernel
theorem dX5_found_15 : decode cX5_found 15 = .ok (.bipush (-3), 2) := by decide +kernel
theorem dX5_found_17 : decode cX5_found 17 = .ok (.ireturn, 1) := by decide +kernel
theorem dX5_tellFraction_0 : decode cX5_tellFraction 0 = .ok (.iload_n 1, 1) := by decide +kernel
theorem dX5_tellFraction_1 : decode cX5_tellFraction 1 = .ok (.iload_n 2, 1) := by decide +kernel
theorem dX5_tellFraction_2 : decode cX5_tellFraction 2 = .ok (.invokestatic 309, 3) := by decide +kernel
theorem dX5_tellFraction_5 : decode cX5_tellFraction 5 = .ok (.istore_n 3, 1) := by decide +kernel
theorem dX5_tellFraction_6 : decode cX5_tellFraction 6 = .ok (.iload_n 3, 1) := by decide +kernel
theorem dX5_tellFraction_7 : decode cX5_tellFraction 7 = .ok (.ifCond .ne 4, 3) := by decide +kernel
theorem dX5_tellFraction_10 : decode cX5_tellFraction 10 = .ok (.return_, 1) := by decide +kernel
theorem dX5_tellFraction_11 : decode cX5_tellFraction 11 = .ok (.aload_n 0, 1) := by decide +kernel
theorem dX5_tellFraction_12 : decode cX5_tellFraction 12 = .ok (.iload_n 1, 1) := by decide +kernel
theorem dX5_tellFraction_13 : decode cX5_tellFraction 13 = .ok (.iload_n 3, 1) := by decide +kernel
theorem dX5_tellFraction_14 : decode cX5_tellFraction 14 = .ok (.idiv, 1) := by decide +kernel
theorem dX5_tellFraction_15 : decode cX5_tellFraction 15 = .ok (.i2l, 1) := by decide +kernel
theorem dX5_tellFraction_16 : decode cX5_tellFraction 16 = .ok (.putfield 66, 3) := by decide +kernel
theorem dX5_tellFraction_19 : decode cX5_tellFraction 19 = .ok (.aload_n 0, 1) := by decide +kernel
theorem dX5_tellFraction_20 : decode cX5_tellFraction 20 = .ok (.iload_n 2, 1) := by decide +kernel
theorem dX5_tellFraction_21 : decode cX5_tellFraction 21 = .ok (.iload_n 3, 1) := by decide +kernel
theorem dX5_tellFraction_22 : decode cX5_tellFraction 22 = .ok (.idiv, 1) := by decide +kernel
theorem dX5_tellFraction_23 : decode cX5_tellFraction 23 = .ok (.i2l, 1) := by decide +kernel
theorem dX5_tellFraction_24 : decode cX5_tellFraction 24 = .ok (.putfield 70, 3) := by decide +kernel
theorem dX5_tellFraction_27 : decode cX5_tellFraction 27 = .ok (.return_, 1) := by decide +kernel
theorem dX5_commonDivisor_0 : decode cX5_commonDivisor 0 = .ok (.iconst 0, 1) := by decide +kernel
theorem dX5_commonDivisor_1 : decode cX5_commonDivisor 1 = .ok (.istore_n 2, 1) := by decide +kernel
theorem dX5_commonDivisor_2 : decode cX5_commonDivisor 2 = .ok (.iload_n 2, 1) := by decide +kernel
theorem dX5_commonDivisor_3 : decode cX5_commonDivisor 3 = .ok (.sipush 1000, 3) := by decide +kernel
theorem dX5_commonDivisor_6 : decode cX5_commonDivisor 6 = .ok (.if_icmp .ge 21, 3) := by decide +kernel
theorem dX5_commonDivisor_9 : decode cX5_commonDivisor 9 = .ok (.iload_n 1, 1) := by decide +kernel
theorem dX5_commonDivisor_10 : decode cX5_commonDivisor 10 = .ok (.ifCond .eq 17, 3) := by decide +kernel
theorem dX5_commonDivisor_13 : decode cX5_commonDivisor 13 = .ok (.iload_n 0, 1) := by decide +kernel
theorem dX5_commonDivisor_14 : decode cX5_commonDivisor 14 = .ok (.iload_n 1, 1) := by decide +kernel
theorem dX5_commonDivisor_15 : decode cX5_commonDivisor 15 = .ok (.irem, 1) := by decide +kernel
theorem dX5_commonDivisor_16 : decode cX5_commonDivisor 16 = .ok (.istore_n 3, 1) := by decide +kernel
theorem dX5_commonDivisor_17 : decode cX5_commonDivisor 17 = .ok (.iload_n 1, 1) := by decide +kernel
theorem dX5_commonDivisor_18 : decode cX5_commonDivisor 18 = .ok (.istore_n 0, 1) := by decide +kernel
theorem dX5_commonDivisor_19 : decode cX5_commonDivisor 19 = .ok (.iload_n 3, 1) := by decide +kernel
theorem dX5_commonDivisor_20 : decode cX5_commonDivisor 20 = .ok (.istore_n 1, 1) := by decide +kernel
theorem dX5_commonDivisor_21 : decode cX5_commonDivisor 21 = .ok (.iinc 2 1, 3) := by decide +kernel
theorem dX5_commonDivisor_24 : decode cX5_commonDivisor 24 = .ok (.goto (-22), 3) := by decide +kernel
theorem dX5_commonDivisor_27 : decode cX5_commonDivisor 27 = .ok (.iload_n 0, 1) := by decide +kernel
theorem dX5_commonDivisor_28 : decode cX5_commonDivisor 28 = .ok (.ireturn, 1) := by decide +kernel
theorem dX5_factorial_0 : decode cX5_factorial 0 = .ok (.iconst 1, 1) := by decide +kernel
theorem dX5_factorial_1 : decode cX5_factorial 1 = .ok (.istore_n 1, 1) := by decide +kernel
theorem dX5_factorial_2 : decode cX5_factorial 2 = .ok (.iconst 2, 1) := by decide +kernel
theorem dX5_factorial_3 : decode cX5_factorial 3 = .ok (.istore_n 2, 1) := by decide +kernel
theorem dX5_factorial_4 : decode cX5_factorial 4 = .ok (.iload_n 2, 1) := by decide +kernel
theorem dX5_factorial_5 : decode cX5_factorial 5 = .ok (.iload_n 0, 1) := by decide +kernel
theorem dX5_factorial_6 : decode cX5_factorial 6 = .ok (.if_icmp .gt 13, 3) := by decide +kernel
theorem dX5_factorial_9 : decode cX5_factorial 9 = .ok (.iload_n 1, 1) := by decide +kernel
theorem dX5_factorial_10 : decode cX5_factorial 10 = .ok (.iload_n 2, 1) := by decide +kernel
theorem dX5_factorial_11 : decode cX5_factorial 11 = .ok (.imul, 1) := by decide +kernel
theorem dX5_factorial_12 : decode cX5_factorial 12 = .ok (.istore_n 1, 1) := by decide +kernel
theorem dX5_factorial_13 : decode cX5_factorial 13 = .ok (.iinc 2 1, 3) := by decide +kernel
theorem dX5_factorial_16 : decode cX5_factorial 16 = .ok (.goto (-12), 3) := by decide +kernel
theorem dX5_factorial_19 : decode cX5_factorial 19 = .ok (.iload_n 1, 1) := by decide +kernel
theorem dX5_factorial_20 : decode cX5_factorial 20 = .ok (.ireturn, 1) := by decide +kernel
theorem dX5_toldOf_0 : decode cX5_toldOf 0 = .ok (.iload_n 2, 1) := by decide +kernel
theorem dX5_toldOf_1 : decode cX5_toldOf 1 = .ok (.tableswitch 71 0 3 #[31, 41, 51, 61], 31) := by decide +kernel
theorem dX5_toldOf_32 : decode cX5_toldOf 32 = .ok (.aload_n 0, 1) := by decide +kernel
theorem dX5_toldOf_33 : decode cX5_toldOf 33 = .ok (.getfield 45, 3) := by decide +kernel
theorem dX5_toldOf_36 : decode cX5_toldOf 36 = .ok (.getfield 312, 3) := by decide +kernel
theorem dX5_toldOf_39 : decode cX5_toldOf 39 = .ok (.iload_n 1, 1) := by decide +kernel
theorem dX5_toldOf_40 : decode cX5_toldOf 40 = .ok (.iaload, 1) := by decide +kernel
theorem dX5_toldOf_41 : decode cX5_toldOf 41 = .ok (.ireturn, 1) := by decide +kernel
theorem dX5_toldOf_42 : decode cX5_toldOf 42 = .ok (.aload_n 0, 1) := by decide +kernel
theorem dX5_toldOf_43 : decode cX5_toldOf 43 = .ok (.getfield 35, 3) := by decide +kernel
theorem dX5_toldOf_46 : decode cX5_toldOf 46 = .ok (.getfield 138, 3) := by decide +kernel
theorem dX5_toldOf_49 : decode cX5_toldOf 49 = .ok (.iload_n 1, 1) := by decide +kernel
theorem dX5_toldOf_50 : decode cX5_toldOf 50 = .ok (.iaload, 1) := by decide +kernel
theorem dX5_toldOf_51 : decode cX5_toldOf 51 = .ok (.ireturn, 1) := by decide +kernel
theorem dX5_toldOf_52 : decode cX5_toldOf 52 = .ok (.aload_n 0, 1) := by decide +kernel
theorem dX5_toldOf_53 : decode cX5_toldOf 53 = .ok (.getfield 35, 3) := by decide +kernel
theorem dX5_toldOf_56 : decode cX5_toldOf 56 = .ok (.getfield 151, 3) := by decide +kernel
theorem dX5_toldOf_59 : decode cX5_toldOf 59 = .ok (.iload_n 1, 1) := by decide +kernel
theorem dX5_toldOf_60 : decode cX5_toldOf 60 = .ok (.iaload, 1) := by decide +kernel
theorem dX5_toldOf_61 : decode cX5_toldOf 61 = .ok (.ireturn, 1) := by decide +kernel
theorem dX5_toldOf_62 : decode cX5_toldOf 62 = .ok (.aload_n 0, 1) := by decide +kernel
theorem dX5_toldOf_63 : decode cX5_toldOf 63 = .ok (.getfield 45, 3) := by decide +kernel
theorem dX5_toldOf_66 : decode cX5_toldOf 66 = .ok (.getfield 315, 3) := by decide +kernel
theorem dX5_toldOf_69 : decode cX5_toldOf 69 = .ok (.iload_n 1, 1) := by decide +kernel
theorem dX5_toldOf_70 : decode cX5_toldOf 70 = .ok (.iaload, 1) := by decide +kernel
theorem dX5_toldOf_71 : decode cX5_toldOf 71 = .ok (.ireturn, 1) := by decide +kernel
theorem dX5_toldOf_72 : decode cX5_toldOf 72 = .ok (.aload_n 0, 1) := by decide +kernel
theorem dX5_toldOf_73 : decode cX5_toldOf 73 = .ok (.getfield 35, 3) := by decide +kernel
theorem dX5_toldOf_76 : decode cX5_toldOf 76 = .ok (.getfield 184, 3) := by decide +kernel
theorem dX5_toldOf_79 : decode cX5_toldOf 79 = .ok (.iload_n 1, 1) := by decide +kernel
theorem dX5_toldOf_80 : decode cX5_toldOf 80 = .ok (.iaload, 1) := by decide +kernel
theorem dX5_toldOf_81 : decode cX5_toldOf 81 = .ok (.ireturn, 1) := by decide +kernel
theorem dX5_counted_0 : decode cX5_counted 0 = .ok (.iload_n 1, 1) := by decide +kernel
theorem dX5_counted_1 : decode cX5_counted 1 = .ok (.tableswitch 118 0 7 #[47, 55, 63, 79, 87, 95, 108, 113], 47) := by decide +kernel
theorem dX5_counted_48 : decode cX5_counted 48 = .ok (.aload_n 0, 1) := by decide +kernel
theorem dX5_counted_49 : decode cX5_counted 49 = .ok (.getfield 45, 3) := by decide +kernel
theorem dX5_counted_52 : decode cX5_counted 52 = .ok (.getfield 127, 3) := by decide +kernel
theorem dX5_counted_55 : decode cX5_counted 55 = .ok (.ireturn, 1) := by decide +kernel
theorem dX5_counted_56 : decode cX5_counted 56 = .ok (.aload_n 0, 1) := by decide +kernel
theorem dX5_counted_57 : decode cX5_counted 57 = .ok (.getfield 35, 3) := by decide +kernel
theorem dX5_counted_60 : decode cX5_counted 60 = .ok (.getfield 174, 3) := by decide +kernel
theorem dX5_counted_63 : decode cX5_counted 63 = .ok (.ireturn, 1) := by decide +kernel
theorem dX5_counted_64 : decode cX5_counted 64 = .ok (.aload_n 0, 1) := by decide +kernel
theorem dX5_counted_65 : decode cX5_counted 65 = .ok (.getfield 35, 3) := by decide +kernel
theorem dX5_counted_68 : decode cX5_counted 68 = .ok (.getfield 177, 3) := by decide +kernel
theorem dX5_counted_71 : decode cX5_counted 71 = .ok (.ifCond .eq 7, 3) := by decide +kernel
theorem dX5_counted_74 : decode cX5_counted 74 = .ok (.iconst 1, 1) := by decide +kernel
theorem dX5_counted_75 : decode cX5_counted 75 = .ok (.goto 4, 3) := by decide +kernel
theorem dX5_counted_78 : decode cX5_counted 78 = .ok (.iconst 0, 1) := by decide +kernel
theorem dX5_counted_79 : decode cX5_counted 79 = .ok (.ireturn, 1) := by decide +kernel
theorem dX5_counted_80 : decode cX5_counted 80 = .ok (.aload_n 0, 1) := by decide +kernel
theorem dX5_counted_81 : decode cX5_counted 81 = .ok (.getfield 35, 3) := by decide +kernel
theorem dX5_counted_84 : decode cX5_counted 84 = .ok (.invokevirtual 190, 3) := by decide +kernel
theorem dX5_counted_87 : decode cX5_counted 87 = .ok (.ireturn, 1) := by decide +kernel
theorem dX5_counted_88 : decode cX5_counted 88 = .ok (.aload_n 0, 1) := by decide +kernel
theorem dX5_counted_89 : decode cX5_counted 89 = .ok (.getfield 28, 3) := by decide +kernel
theorem dX5_counted_92 : decode cX5_counted 92 = .ok (.getfield 75, 3) := by decide +kernel
theorem dX5_counted_95 : decode cX5_counted 95 = .ok (.ireturn, 1) := by decide +kernel
theorem dX5_counted_96 : decode cX5_counted 96 = .ok (.aload_n 0, 1) := by decide +kernel
theorem dX5_counted_97 : decode cX5_counted 97 = .ok (.getfield 45, 3) := by decide +kernel
theorem dX5_counted_100 : decode cX5_counted 100 = .ok (.getfield 318, 3) := by decide +kernel
theorem dX5_counted_103 : decode cX5_counted 103 = .ok (.iconst 1, 1) := by decide +kernel
theorem dX5_counted_104 : decode cX5_counted 104 = .ok (.iaload, 1) := by decide +kernel
theorem dX5_counted_105 : decode cX5_counted 105 = .ok (.invokestatic 154, 3) := by decide +kernel
theorem dX5_counted_108 : decode cX5_counted 108 = .ok (.ireturn, 1) := by decide +kernel
theorem dX5_counted_109 : decode cX5_counted 109 = .ok (.aload_n 0, 1) := by decide +kernel
theorem dX5_counted_110 : decode cX5_counted 110 = .ok (.invokevirtual 321, 3) := by decide +kernel
theorem dX5_counted_113 : decode cX5_counted 113 = .ok (.ireturn, 1) := by decide +kernel
theorem dX5_counted_114 : decode cX5_counted 114 = .ok (.aload_n 0, 1) := by decide +kernel
theorem dX5_counted_115 : decode cX5_counted 115 = .ok (.invokevirtual 324, 3) := by decide +kernel
theorem dX5_counted_118 : decode cX5_counted 118 = .ok (.ireturn, 1) := by decide +kernel
theorem dX5_counted_119 : decode cX5_counted 119 = .ok (.aload_n 0, 1) := by decide +kernel
theorem dX5_counted_120 : decode cX5_counted 120 = .ok (.invokevirtual 327, 3) := by decide +kernel
theorem dX5_counted_123 : decode cX5_counted 123 = .ok (.ireturn, 1) := by decide +kernel
theorem dX5_rowsThere_0 : decode cX5_rowsThere 0 = .ok (.iconst 0, 1) := by decide +kernel
theorem dX5_rowsThere_1 : decode cX5_rowsThere 1 = .ok (.istore_n 1, 1) := by decide +kernel
theorem dX5_rowsThere_2 : decode cX5_rowsThere 2 = .ok (.iconst 0, 1) := by decide +kernel
theorem dX5_rowsThere_3 : decode cX5_rowsThere 3 = .ok (.istore_n 2, 1) := by decide +kernel
theorem dX5_rowsThere_4 : decode cX5_rowsThere 4 = .ok (.iload_n 2, 1) := by decide +kernel
theorem dX5_rowsThere_5 : decode cX5_rowsThere 5 = .ok (.bipush 6, 2) := by decide +kernel
theorem dX5_rowsThere_7 : decode cX5_rowsThere 7 = .ok (.if_icmp .ge 25, 3) := by decide +kernel
theorem dX5_rowsThere_10 : decode cX5_rowsThere 10 = .ok (.aload_n 0, 1) := by decide +kernel
theorem dX5_rowsThere_11 : decode cX5_rowsThere 11 = .ok (.getfield 11, 3) := by decide +kernel
theorem dX5_rowsThere_14 : decode cX5_rowsThere 14 = .ok (.iload_n 2, 1) := by decide +kernel
theorem dX5_rowsThere_15 : decode cX5_rowsThere 15 = .ok (.aaload, 1) := by decide +kernel
theorem dX5_rowsThere_16 : decode cX5_rowsThere 16 = .ok (.getfield 90, 3) := by decide +kernel
theorem dX5_rowsThere_19 : decode cX5_rowsThere 19 = .ok (.iconst (-1), 1) := by decide +kernel
theorem dX5_rowsThere_20 : decode cX5_rowsThere 20 = .ok (.if_icmp .eq 6, 3) := by decide +kernel
theorem dX5_rowsThere_23 : decode cX5_rowsThere 23 = .ok (.iinc 1 1, 3) := by decide +kernel
theorem dX5_rowsThere_26 : decode cX5_rowsThere 26 = .ok (.iinc 2 1, 3) := by decide +kernel
theorem dX5_rowsThere_29 : decode cX5_rowsThere 29 = .ok (.goto (-25), 3) := by decide +kernel
theorem dX5_rowsThere_32 : decode cX5_rowsThere 32 = .ok (.iload_n 1, 1) := by decide +kernel
theorem dX5_rowsThere_33 : decode cX5_rowsThere 33 = .ok (.ireturn, 1) := by decide +kernel
theorem dX5_textsThere_0 : decode cX5_textsThere 0 = .ok (.iconst 0, 1) := by decide +kernel
theorem dX5_textsThere_1 : decode cX5_textsThere 1 = .ok (.istore_n 1, 1) := by decide +kernel
theorem dX5_textsThere_2 : decode cX5_textsThere 2 = .ok (.iconst 0, 1) := by decide +kernel
theorem dX5_textsThere_3 : decode cX5_textsThere 3 = .ok (.istore_n 2, 1) := by decide +kernel
theorem dX5_textsThere_4 : decode cX5_textsThere 4 = .ok (.iload_n 2, 1) := by decide +kernel
theorem dX5_textsThere_5 : decode cX5_textsThere 5 = .ok (.iconst 4, 1) := by decide +kernel
theorem dX5_textsThere_6 : decode cX5_textsThere 6 = .ok (.if_icmp .ge 25, 3) := by decide +kernel
theorem dX5_textsThere_9 : decode cX5_textsThere 9 = .ok (.aload_n 0, 1) := by decide +kernel
theorem dX5_textsThere_10 : decode cX5_textsThere 10 = .ok (.getfield 17, 3) := by decide +kernel
theorem dX5_textsThere_13 : decode cX5_textsThere 13 = .ok (.iload_n 2, 1) := by decide +kernel
theorem dX5_textsThere_14 : decode cX5_textsThere 14 = .ok (.aaload, 1) := by decide +kernel
theorem dX5_textsThere_15 : decode cX5_textsThere 15 = .ok (.getfield 115, 3) := by decide +kernel
theorem dX5_textsThere_18 : decode cX5_textsThere 18 = .ok (.iconst (-1), 1) := by decide +kernel
theorem dX5_textsThere_19 : decode cX5_textsThere 19 = .ok (.if_icmp .eq 6, 3) := by decide +kernel
theorem dX5_textsThere_22 : decode cX5_textsThere 22 = .ok (.iinc 1 1, 3) := by decide +kernel
theorem dX5_textsThere_25 : decode cX5_textsThere 25 = .ok (.iinc 2 1, 3) := by decide +kernel
theorem dX5_textsThere_28 : decode cX5_textsThere 28 = .ok (.goto (-24), 3) := by decide +kernel
theorem dX5_textsThere_31 : decode cX5_textsThere 31 = .ok (.iload_n 1, 1) := by decide +kernel
theorem dX5_textsThere_32 : decode cX5_textsThere 32 = .ok (.ireturn, 1) := by decide +kernel
theorem dX5_keptThere_0 : decode cX5_keptThere 0 = .ok (.iconst 0, 1) := by decide +kernel
theorem dX5_keptThere_1 : decode cX5_keptThere 1 = .ok (.istore_n 1, 1) := by decide +kernel
theorem dX5_keptThere_2 : decode cX5_keptThere 2 = .ok (.iconst 0, 1) := by decide +kernel
theorem dX5_keptThere_3 : decode cX5_keptThere 3 = .ok (.istore_n 2, 1) := by decide +kernel
theorem dX5_keptThere_4 : decode cX5_keptThere 4 = .ok (.iload_n 2, 1) := by decide +kernel
theorem dX5_keptThere_5 : decode cX5_keptThere 5 = .ok (.iconst 3, 1) := by decide +kernel
theorem dX5_keptThere_6 : decode cX5_keptThere 6 = .ok (.if_icmp .ge 25, 3) := by decide +kernel
theorem dX5_keptThere_9 : decode cX5_keptThere 9 = .ok (.aload_n 0, 1) := by decide +kernel
theorem dX5_keptThere_10 : decode cX5_keptThere 10 = .ok (.getfield 23, 3) := by decide +kernel
theorem dX5_keptThere_13 : decode cX5_keptThere 13 = .ok (.iload_n 2, 1) := by decide +kernel
theorem dX5_keptThere_14 : decode cX5_keptThere 14 = .ok (.aaload, 1) := by decide +kernel
theorem dX5_keptThere_15 : decode cX5_keptThere 15 = .ok (.getfield 75, 3) := by decide +kernel
theorem dX5_keptThere_18 : decode cX5_keptThere 18 = .ok (.iconst (-1), 1) := by decide +kernel
theorem dX5_keptThere_19 : decode cX5_keptThere 19 = .ok (.if_icmp .eq 6, 3) := by decide +kernel
theorem dX5_keptThere_22 : decode cX5_keptThere 22 = .ok (.iinc 1 1, 3) := by decide +kernel
theorem dX5_keptThere_25 : decode cX5_keptThere 25 = .ok (.iinc 2 1, 3) := by decide +kernel
theorem dX5_keptThere_28 : decode cX5_keptThere 28 = .ok (.goto (-24), 3) := by decide +kernel
theorem dX5_keptThere_31 : decode cX5_keptThere 31 = .ok (.iload_n 1, 1) := by decide +kernel
theorem dX5_keptThere_32 : decode cX5_keptThere 32 = .ok (.ireturn, 1) := by decide +kernel
theorem dX5_act_0 : decode cX5_act 0 = .ok (.aload_n 0, 1) := by decide +kernel
theorem dX5_act_1 : decode cX5_act 1 = .ok (.getfield 28, 3) := by decide +kernel
theorem dX5_act_4 : decode cX5_act 4 = .ok (.iload_n 1, 1) := by decide +kernel
theorem dX5_act_5 : decode cX5_act 5 = .ok (.iload_n 2, 1) := by decide +kernel
theorem dX5_act_6 : decode cX5_act 6 = .ok (.invokevirtual 330, 3) := by decide +kernel
theorem dX5_act_9 : decode cX5_act 9 = .ok (.aload_n 0, 1) := by decide +kernel
theorem dX5_act_10 : decode cX5_act 10 = .ok (.getfield 35, 3) := by decide +kernel
theorem dX5_act_13 : decode cX5_act 13 = .ok (.iload_n 1, 1) := by decide +kernel
theorem dX5_act_14 : decode cX5_act 14 = .ok (.iload_n 2, 1) := by decide +kernel
theorem dX5_act_15 : decode cX5_act 15 = .ok (.aload_n 0, 1) := by decide +kernel
theorem dX5_act_16 : decode cX5_act 16 = .ok (.getfield 45, 3) := by decide +kernel
theorem dX5_act_19 : decode cX5_act 19 = .ok (.invokevirtual 333, 3) := by decide +kernel
theorem dX5_act_22 : decode cX5_act 22 = .ok (.aload_n 0, 1) := by decide +kernel
theorem dX5_act_23 : decode cX5_act 23 = .ok (.getfield 35, 3) := by decide +kernel
theorem dX5_act_26 : decode cX5_act 26 = .ok (.aload_n 0, 1) := by decide +kernel
theorem dX5_act_27 : decode cX5_act 27 = .ok (.getfield 45, 3) := by decide +kernel
theorem dX5_act_30 : decode cX5_act 30 = .ok (.invokevirtual 337, 3) := by decide +kernel
theorem dX5_act_33 : decode cX5_act 33 = .ok (.return_, 1) := by decide +kernel
theorem dX5_liveAgain_0 : decode cX5_liveAgain 0 = .ok (.aload_n 0, 1) := by decide +kernel
theorem dX5_liveAgain_1 : decode cX5_liveAgain 1 = .ok (.getfield 35, 3) := by decide +kernel
theorem dX5_liveAgain_4 : decode cX5_liveAgain 4 = .ok (.aload_n 0, 1) := by decide +kernel
theorem dX5_liveAgain_5 : decode cX5_liveAgain 5 = .ok (.getfield 45, 3) := by decide +kernel
theorem dX5_liveAgain_8 : decode cX5_liveAgain 8 = .ok (.invokevirtual 340, 3) := by decide +kernel
theorem dX5_liveAgain_11 : decode cX5_liveAgain 11 = .ok (.iconst 0, 1) := by decide +kernel
theorem dX5_liveAgain_12 : decode cX5_liveAgain 12 = .ok (.istore_n 1, 1) := by decide +kernel
theorem dX5_liveAgain_13 : decode cX5_liveAgain 13 = .ok (.iload_n 1, 1) := by decide +kernel
theorem dX5_liveAgain_14 : decode cX5_liveAgain 14 = .ok (.aload_n 0, 1) := by decide +kernel
theorem dX5_liveAgain_15 : decode cX5_liveAgain 15 = .ok (.getfield 28, 3) := by decide +kernel
theorem dX5_liveAgain_18 : decode cX5_liveAgain 18 = .ok (.getfield 75, 3) := by decide +kernel
theorem dX5_liveAgain_21 : decode cX5_liveAgain 21 = .ok (.if_icmp .ge 38, 3) := by decide +kernel
theorem dX5_liveAgain_24 : decode cX5_liveAgain 24 = .ok (.aload_n 0, 1) := by decide +kernel
theorem dX5_liveAgain_25 : decode cX5_liveAgain 25 = .ok (.getfield 35, 3) := by decide +kernel
theorem dX5_liveAgain_28 : decode cX5_liveAgain 28 = .ok (.aload_n 0, 1) := by decide +kernel
theorem dX5_liveAgain_29 : decode cX5_liveAgain 29 = .ok (.getfield 28, 3) := by decide +kernel
theorem dX5_liveAgain_32 : decode cX5_liveAgain 32 = .ok (.getfield 342, 3) := by decide +kernel
theorem dX5_liveAgain_35 : decode cX5_liveAgain 35 = .ok (.iload_n 1, 1) := by decide +kernel
theorem dX5_liveAgain_36 : decode cX5_liveAgain 36 = .ok (.iaload, 1) := by decide +kernel
theorem dX5_liveAgain_37 : decode cX5_liveAgain 37 = .ok (.aload_n 0, 1) := by decide +kernel
theorem dX5_liveAgain_38 : decode cX5_liveAgain 38 = .ok (.getfield 28, 3) := by decide +kernel
theorem dX5_liveAgain_41 : decode cX5_liveAgain 41 = .ok (.getfield 345, 3) := by decide +kernel
theorem dX5_liveAgain_44 : decode cX5_liveAgain 44 = .ok (.iload_n 1, 1) := by decide +kernel
theorem dX5_liveAgain_45 : decode cX5_liveAgain 45 = .ok (.iaload, 1) := by decide +kernel
theorem dX5_liveAgain_46 : decode cX5_liveAgain 46 = .ok (.aload_n 0, 1) := by decide +kernel
theorem dX5_liveAgain_47 : decode cX5_liveAgain 47 = .ok (.getfield 45, 3) := by decide +kernel
theorem dX5_liveAgain_50 : decode cX5_liveAgain 50 = .ok (.invokevirtual 333, 3) := by decide +kernel
theorem dX5_liveAgain_53 : decode cX5_liveAgain 53 = .ok (.iinc 1 1, 3) := by decide +kernel
theorem dX5_liveAgain_56 : decode cX5_liveAgain 56 = .ok (.goto (-43), 3) := by decide +kernel
theorem dX5_liveAgain_59 : decode cX5_liveAgain 59 = .ok (.aload_n 0, 1) := by decide +kernel
theorem dX5_liveAgain_60 : decode cX5_liveAgain 60 = .ok (.getfield 35, 3) := by decide +kernel
theorem dX5_liveAgain_63 : decode cX5_liveAgain 63 = .ok (.aload_n 0, 1) := by decide +kernel
theorem dX5_liveAgain_64 : decode cX5_liveAgain 64 = .ok (.getfield 45, 3) := by decide +kernel
theorem dX5_liveAgain_67 : decode cX5_liveAgain 67 = .ok (.invokevirtual 337, 3) := by decide +kernel
theorem dX5_liveAgain_70 : decode cX5_liveAgain 70 = .ok (.return_, 1) := by decide +kernel
theorem dX5_writeWay_0 : decode cX5_writeWay 0 = .ok (.aload 4, 2) := by decide +kernel
theorem dX5_writeWay_2 : decode cX5_writeWay 2 = .ok (.iload_n 3, 1) := by decide +kernel
theorem dX5_writeWay_3 : decode cX5_writeWay 3 = .ok (.iconst 2, 1) := by decide +kernel
theorem dX5_writeWay_4 : decode cX5_writeWay 4 = .ok (.iadd, 1) := by decide +kernel
theorem dX5_writeWay_5 : decode cX5_writeWay 5 = .ok (.invokevirtual 86, 3) := by decide +kernel
theorem dX5_writeWay_8 : decode cX5_writeWay 8 = .ok (.aload 4, 2) := by decide +kernel
theorem dX5_writeWay_10 : decode cX5_writeWay 10 = .ok (.getfield 94, 3) := by decide +kernel
theorem dX5_writeWay_13 : decode cX5_writeWay 13 = .ok (.iconst 0, 1) := by decide +kernel
theorem dX5_writeWay_14 : decode cX5_writeWay 14 = .ok (.iload_n 1, 1) := by decide +kernel
theorem dX5_writeWay_15 : decode cX5_writeWay 15 = .ok (.iastore, 1) := by decide +kernel
theorem dX5_writeWay_16 : decode cX5_writeWay 16 = .ok (.aload 4, 2) := by decide +kernel
theorem dX5_writeWay_18 : decode cX5_writeWay 18 = .ok (.getfield 94, 3) := by decide +kernel
theorem dX5_writeWay_21 : decode cX5_writeWay 21 = .ok (.iload_n 3, 1) := by decide +kernel
theorem dX5_writeWay_22 : decode cX5_writeWay 22 = .ok (.iconst 1, 1) := by decide +kernel
theorem dX5_writeWay_23 : decode cX5_writeWay 23 = .ok (.iadd, 1) := by decide +kernel
theorem dX5_writeWay_24 : decode cX5_writeWay 24 = .ok (.iload_n 2, 1) := by decide +kernel
theorem dX5_writeWay_25 : decode cX5_writeWay 25 = .ok (.iastore, 1) := by decide +kernel
theorem dX5_writeWay_26 : decode cX5_writeWay 26 = .ok (.iload_n 1, 1) := by decide +kernel
theorem dX5_writeWay_27 : decode cX5_writeWay 27 = .ok (.istore 5, 2) := by decide +kernel
theorem dX5_writeWay_29 : decode cX5_writeWay 29 = .ok (.iconst 1, 1) := by decide +kernel
theorem dX5_writeWay_30 : decode cX5_writeWay 30 = .ok (.istore 6, 2) := by decide +kernel
theorem dX5_writeWay_32 : decode cX5_writeWay 32 = .ok (.iload 6, 2) := by decide +kernel
theorem dX5_writeWay_34 : decode cX5_writeWay 34 = .ok (.iload_n 3, 1) := by decide +kernel
theorem dX5_writeWay_35 : decode cX5_writeWay 35 = .ok (.if_icmp .gt 105, 3) := by decide +kernel
theorem dX5_writeWay_38 : decode cX5_writeWay 38 = .ok (.iconst 0, 1) := by decide +kernel
theorem dX5_writeWay_39 : decode cX5_writeWay 39 = .ok (.istore 7, 2) := by decide +kernel
theorem dX5_writeWay_41 : decode cX5_writeWay 41 = .ok (.aload_n 0, 1) := by decide +kernel
theorem dX5_writeWay_42 : decode cX5_writeWay 42 = .ok (.getfield 45, 3) := by decide +kernel
theorem dX5_writeWay_45 : decode cX5_writeWay 45 = .ok (.getfield 127, 3) := by decide +kernel
theorem dX5_writeWay_48 : decode cX5_writeWay 48 = .ok (.iconst 1, 1) := by decide +kernel
theorem dX5_writeWay_49 : decode cX5_writeWay 49 = .ok (.isub, 1) := by decide +kernel
theorem dX5_writeWay_50 : decode cX5_writeWay 50 = .ok (.istore 8, 2) := by decide +kernel
theorem dX5_writeWay_52 : decode cX5_writeWay 52 = .ok (.iload 8, 2) := by decide +kernel
theorem dX5_writeWay_54 : decode cX5_writeWay 54 = .ok (.ifCond .lt 66, 3) := by decide +kernel
theorem dX5_writeWay_57 : decode cX5_writeWay 57 = .ok (.iload 8, 2) := by decide +kernel
theorem dX5_writeWay_59 : decode cX5_writeWay 59 = .ok (.iload_n 2, 1) := by decide +kernel
theorem dX5_writeWay_60 : decode cX5_writeWay 60 = .ok (.if_icmp .eq 25, 3) := by decide +kernel
theorem dX5_writeWay_63 : decode cX5_writeWay 63 = .ok (.aload_n 0, 1) := by decide +kernel
theorem dX5_writeWay_64 : decode cX5_writeWay 64 = .ok (.getfield 35, 3) := by decide +kernel
theorem dX5_writeWay_67 : decode cX5_writeWay 67 = .ok (.getfield 198, 3) := by decide +kernel
theorem dX5_writeWay_70 : decode cX5_writeWay 70 = .ok (.iload 5, 2) := by decide +kernel
theorem dX5_writeWay_72 : decode cX5_writeWay 72 = .ok (.iaload, 1) := by decide +kernel
theorem dX5_writeWay_73 : decode cX5_writeWay 73 = .ok (.iload 8, 2) := by decide +kernel
theorem dX5_writeWay_75 : decode cX5_writeWay 75 = .ok (.invokestatic 187, 3) := by decide +kernel
theorem dX5_writeWay_78 : decode cX5_writeWay 78 = .ok (.ifCond .eq 7, 3) := by decide +kernel
theorem dX5_writeWay_81 : decode cX5_writeWay 81 = .ok (.iconst 1, 1) := by decide +kernel
theorem dX5_writeWay_82 : decode cX5_writeWay 82 = .ok (.goto 4, 3) := by decide +kernel
theorem dX5_writeWay_85 : decode cX5_writeWay 85 = .ok (.iconst 0, 1) := by decide +kernel
theorem dX5_writeWay_86 : decode cX5_writeWay 86 = .ok (.istore 9, 2) := by decide +kernel
theorem dX5_writeWay_88 : decode cX5_writeWay 88 = .ok (.iload 9, 2) := by decide +kernel
theorem dX5_writeWay_90 : decode cX5_writeWay 90 = .ok (.ifCond .eq 24, 3) := by decide +kernel
theorem dX5_writeWay_93 : decode cX5_writeWay 93 = .ok (.aload_n 0, 1) := by decide +kernel
theorem dX5_writeWay_94 : decode cX5_writeWay 94 = .ok (.getfield 35, 3) := by decide +kernel
theorem dX5_writeWay_97 : decode cX5_writeWay 97 = .ok (.iload 8, 2) := by decide +kernel
theorem dX5_writeWay_99 : decode cX5_writeWay 99 = .ok (.iload_n 2, 1) := by decide +kernel
theorem dX5_writeWay_100 : decode cX5_writeWay 100 = .ok (.invokevirtual 201, 3) := by decide +kernel
theorem dX5_writeWay_103 : decode cX5_writeWay 103 = .ok (.iload_n 3, 1) := by decide +kernel
theorem dX5_writeWay_104 : decode cX5_writeWay 104 = .ok (.iload 6, 2) := by decide +kernel
theorem dX5_writeWay_106 : decode cX5_writeWay 106 = .ok (.isub, 1) := by decide +kernel
theorem dX5_writeWay_107 : decode cX5_writeWay 107 = .ok (.if_icmp .ne 7, 3) := by decide +kernel
theorem dX5_writeWay_110 : decode cX5_writeWay 110 = .ok (.iload 8, 2) := by decide +kernel
theorem dX5_writeWay_112 : decode cX5_writeWay 112 = .ok (.istore 7, 2) := by decide +kernel
theorem dX5_writeWay_114 : decode cX5_writeWay 114 = .ok (.iinc 8 (-1), 3) := by decide +kernel
theorem dX5_writeWay_117 : decode cX5_writeWay 117 = .ok (.goto (-65), 3) := by decide +kernel
theorem dX5_writeWay_120 : decode cX5_writeWay 120 = .ok (.aload 4, 2) := by decide +kernel
theorem dX5_writeWay_122 : decode cX5_writeWay 122 = .ok (.getfield 94, 3) := by decide +kernel
theorem dX5_writeWay_125 : decode cX5_writeWay 125 = .ok (.iload 6, 2) := by decide +kernel
theorem dX5_writeWay_127 : decode cX5_writeWay 127 = .ok (.iload 7, 2) := by decide +kernel
theorem dX5_writeWay_129 : decode cX5_writeWay 129 = .ok (.iastore, 1) := by decide +kernel
theorem dX5_writeWay_130 : decode cX5_writeWay 130 = .ok (.iload 7, 2) := by decide +kernel
theorem dX5_writeWay_132 : decode cX5_writeWay 132 = .ok (.istore 5, 2) := by decide +kernel
theorem dX5_writeWay_134 : decode cX5_writeWay 134 = .ok (.iinc 6 1, 3) := by decide +kernel
theorem dX5_writeWay_137 : decode cX5_writeWay 137 = .ok (.goto (-105), 3) := by decide +kernel
theorem dX5_writeWay_140 : decode cX5_writeWay 140 = .ok (.return_, 1) := by decide +kernel
theorem dX5_allowSigns_0 : decode cX5_allowSigns 0 = .ok (.iconst 0, 1) := by decide +kernel
theorem dX5_allowSigns_1 : decode cX5_allowSigns 1 = .ok (.istore_n 3, 1) := by decide +kernel
theorem dX5_allowSigns_2 : decode cX5_allowSigns 2 = .ok (.iload_n 3, 1) := by decide +kernel
theorem dX5_allowSigns_3 : decode cX5_allowSigns 3 = .ok (.aload_n 0, 1) := by decide +kernel
theorem dX5_allowSigns_4 : decode cX5_allowSigns 4 = .ok (.getfield 45, 3) := by decide +kernel
theorem dX5_allowSigns_7 : decode cX5_allowSigns 7 = .ok (.getfield 127, 3) := by decide +kernel
theorem dX5_allowSigns_10 : decode cX5_allowSigns 10 = .ok (.if_icmp .ge 28, 3) := by decide +kernel
theorem dX5_allowSigns_13 : decode cX5_allowSigns 13 = .ok (.aload_n 0, 1) := by decide +kernel
theorem dX5_allowSigns_14 : decode cX5_allowSigns 14 = .ok (.getfield 52, 3) := by decide +kernel
theorem dX5_allowSigns_17 : decode cX5_allowSigns 17 = .ok (.iload_n 3, 1) := by decide +kernel
theorem dX5_allowSigns_18 : decode cX5_allowSigns 18 = .ok (.aload_n 0, 1) := by decide +kernel
theorem dX5_allowSigns_19 : decode cX5_allowSigns 19 = .ok (.getfield 45, 3) := by decide +kernel
theorem dX5_allowSigns_22 : decode cX5_allowSigns 22 = .ok (.invokevirtual 208, 3) := by decide +kernel
theorem dX5_allowSigns_25 : decode cX5_allowSigns 25 = .ok (.iconst 1, 1) := by decide +kernel
theorem dX5_allowSigns_26 : decode cX5_allowSigns 26 = .ok (.iload_n 3, 1) := by decide +kernel
theorem dX5_allowSigns_27 : decode cX5_allowSigns 27 = .ok (.ishl, 1) := by decide +kernel
theorem dX5_allowSigns_28 : decode cX5_allowSigns 28 = .ok (.iconst (-1), 1) := by decide +kernel
theorem dX5_allowSigns_29 : decode cX5_allowSigns 29 = .ok (.ixor, 1) := by decide +kernel
theorem dX5_allowSigns_30 : decode cX5_allowSigns 30 = .ok (.iand, 1) := by decide +kernel
theorem dX5_allowSigns_31 : decode cX5_allowSigns 31 = .ok (.iastore, 1) := by decide +kernel
theorem dX5_allowSigns_32 : decode cX5_allowSigns 32 = .ok (.iinc 3 1, 3) := by decide +kernel
theorem dX5_allowSigns_35 : decode cX5_allowSigns 35 = .ok (.goto (-33), 3) := by decide +kernel
theorem dX5_allowSigns_38 : decode cX5_allowSigns 38 = .ok (.aload_n 0, 1) := by decide +kernel
theorem dX5_allowSigns_39 : decode cX5_allowSigns 39 = .ok (.getfield 52, 3) := by decide +kernel
theorem dX5_allowSigns_42 : decode cX5_allowSigns 42 = .ok (.iload_n 1, 1) := by decide +kernel
theorem dX5_allowSigns_43 : decode cX5_allowSigns 43 = .ok (.dup2, 1) := by decide +kernel
theorem dX5_allowSigns_44 : decode cX5_allowSigns 44 = .ok (.iaload, 1) := by decide +kernel
theorem dX5_allowSigns_45 : decode cX5_allowSigns 45 = .ok (.iconst 1, 1) := by decide +kernel
theorem dX5_allowSigns_46 : decode cX5_allowSigns 46 = .ok (.iload_n 2, 1) := by decide +kernel
theorem dX5_allowSigns_47 : decode cX5_allowSigns 47 = .ok (.ishl, 1) := by decide +kernel
theorem dX5_allowSigns_48 : decode cX5_allowSigns 48 = .ok (.iconst (-1), 1) := by decide +kernel
theorem dX5_allowSigns_49 : decode cX5_allowSigns 49 = .ok (.ixor, 1) := by decide +kernel
theorem dX5_allowSigns_50 : decode cX5_allowSigns 50 = .ok (.iand, 1) := by decide +kernel
theorem dX5_allowSigns_51 : decode cX5_allowSigns 51 = .ok (.iastore, 1) := by decide +kernel
theorem dX5_allowSigns_52 : decode cX5_allowSigns 52 = .ok (.aload_n 0, 1) := by decide +kernel
theorem dX5_allowSigns_53 : decode cX5_allowSigns 53 = .ok (.getfield 52, 3) := by decide +kernel
theorem dX5_allowSigns_56 : decode cX5_allowSigns 56 = .ok (.iload_n 2, 1) := by decide +kernel
theorem dX5_allowSigns_57 : decode cX5_allowSigns 57 = .ok (.dup2, 1) := by decide +kernel
theorem dX5_allowSigns_58 : decode cX5_allowSigns 58 = .ok (.iaload, 1) := by decide +kernel
theorem dX5_allowSigns_59 : decode cX5_allowSigns 59 = .ok (.iconst 1, 1) := by decide +kernel
theorem dX5_allowSigns_60 : decode cX5_allowSigns 60 = .ok (.iload_n 1, 1) := by decide +kernel
theorem dX5_allowSigns_61 : decode cX5_allowSigns 61 = .ok (.ishl, 1) := by decide +kernel
theorem dX5_allowSigns_62 : decode cX5_allowSigns 62 = .ok (.iconst (-1), 1) := by decide +kernel
theorem dX5_allowSigns_63 : decode cX5_allowSigns 63 = .ok (.ixor, 1) := by decide +kernel
theorem dX5_allowSigns_64 : decode cX5_allowSigns 64 = .ok (.iand, 1) := by decide +kernel
theorem dX5_allowSigns_65 : decode cX5_allowSigns 65 = .ok (.iastore, 1) := by decide +kernel
theorem dX5_allowSigns_66 : decode cX5_allowSigns 66 = .ok (.return_, 1) := by decide +kernel
theorem dX5_dropUselessSigns_0 : decode cX5_dropUselessSigns 0 = .ok (.iconst 0, 1) := by decide +kernel
theorem dX5_dropUselessSigns_1 : decode cX5_dropUselessSigns 1 = .ok (.istore_n 3, 1) := by decide +kernel
theorem dX5_dropUselessSigns_2 : decode cX5_dropUselessSigns 2 = .ok (.iload_n 3, 1) := by decide +kernel
theorem dX5_dropUselessSigns_3 : decode cX5_dropUselessSigns 3 = .ok (.aload_n 0, 1) := by decide +kernel
theorem dX5_dropUselessSigns_4 : decode cX5_dropUselessSigns 4 = .ok (.getfield 45, 3) := by decide +kernel
theorem dX5_dropUselessSigns_7 : decode cX5_dropUselessSigns 7 = .ok (.getfield 127, 3) := by decide +kernel
theorem dX5_dropUselessSigns_10 : decode cX5_dropUselessSigns 10 = .ok (.if_icmp .ge 49, 3) := by decide +kernel
theorem dX5_dropUselessSigns_13 : decode cX5_dropUselessSigns 13 = .ok (.iload_n 1, 1) := by decide +kernel
theorem dX5_dropUselessSigns_14 : decode cX5_dropUselessSigns 14 = .ok (.iload_n 3, 1) := by decide +kernel
theorem dX5_dropUselessSigns_15 : decode cX5_dropUselessSigns 15 = .ok (.invokestatic 187, 3) := by decide +kernel
theorem dX5_dropUselessSigns_18 : decode cX5_dropUselessSigns 18 = .ok (.ifCond .eq 7, 3) := by decide +kernel
theorem dX5_dropUselessSigns_21 : decode cX5_dropUselessSigns 21 = .ok (.iload_n 2, 1) := by decide +kernel
theorem dX5_dropUselessSigns_22 : decode cX5_dropUselessSigns 22 = .ok (.goto 4, 3) := by decide +kernel
theorem dX5_dropUselessSigns_25 : decode cX5_dropUselessSigns 25 = .ok (.iconst 0, 1) := by decide +kernel
theorem dX5_dropUselessSigns_26 : decode cX5_dropUselessSigns 26 = .ok (.istore 4, 2) := by decide +kernel
theorem dX5_dropUselessSigns_28 : decode cX5_dropUselessSigns 28 = .ok (.iload_n 2, 1) := by decide +kernel
theorem dX5_dropUselessSigns_29 : decode cX5_dropUselessSigns 29 = .ok (.iload_n 3, 1) := by decide +kernel
theorem dX5_dropUselessSigns_30 : decode cX5_dropUselessSigns 30 = .ok (.invokestatic 187, 3) := by decide +kernel
theorem dX5_dropUselessSigns_33 : decode cX5_dropUselessSigns 33 = .ok (.ifCond .eq 9, 3) := by decide +kernel
theorem dX5_dropUselessSigns_36 : decode cX5_dropUselessSigns 36 = .ok (.iload 4, 2) := by decide +kernel
theorem dX5_dropUselessSigns_38 : decode cX5_dropUselessSigns 38 = .ok (.iload_n 1, 1) := by decide +kernel
theorem dX5_dropUselessSigns_39 : decode cX5_dropUselessSigns 39 = .ok (.ior, 1) := by decide +kernel
theorem dX5_dropUselessSigns_40 : decode cX5_dropUselessSigns 40 = .ok (.istore 4, 2) := by decide +kernel
theorem dX5_dropUselessSigns_42 : decode cX5_dropUselessSigns 42 = .ok (.aload_n 0, 1) := by decide +kernel
theorem dX5_dropUselessSigns_43 : decode cX5_dropUselessSigns 43 = .ok (.getfield 52, 3) := by decide +kernel
theorem dX5_dropUselessSigns_46 : decode cX5_dropUselessSigns 46 = .ok (.iload_n 3, 1) := by decide +kernel
theorem dX5_dropUselessSigns_47 : decode cX5_dropUselessSigns 47 = .ok (.dup2, 1) := by decide +kernel
theorem dX5_dropUselessSigns_48 : decode cX5_dropUselessSigns 48 = .ok (.iaload, 1) := by decide +kernel
theorem dX5_dropUselessSigns_49 : decode cX5_dropUselessSigns 49 = .ok (.iload 4, 2) := by decide +kernel
theorem dX5_dropUselessSigns_51 : decode cX5_dropUselessSigns 51 = .ok (.iand, 1) := by decide +kernel
theorem dX5_dropUselessSigns_52 : decode cX5_dropUselessSigns 52 = .ok (.iastore, 1) := by decide +kernel
theorem dX5_dropUselessSigns_53 : decode cX5_dropUselessSigns 53 = .ok (.iinc 3 1, 3) := by decide +kernel
theorem dX5_dropUselessSigns_56 : decode cX5_dropUselessSigns 56 = .ok (.goto (-54), 3) := by decide +kernel
theorem dX5_dropUselessSigns_59 : decode cX5_dropUselessSigns 59 = .ok (.return_, 1) := by decide +kernel
theorem dX5_isSignLeft_0 : decode cX5_isSignLeft 0 = .ok (.iconst 0, 1) := by decide +kernel
theorem dX5_isSignLeft_1 : decode cX5_isSignLeft 1 = .ok (.istore_n 1, 1) := by decide +kernel
theorem dX5_isSignLeft_2 : decode cX5_isSignLeft 2 = .ok (.iload_n 1, 1) := by decide +kernel
theorem dX5_isSignLeft_3 : decode cX5_isSignLeft 3 = .ok (.aload_n 0, 1) := by decide +kernel
theorem dX5_isSignLeft_4 : decode cX5_isSignLeft 4 = .ok (.getfield 45, 3) := by decide +kernel
theorem dX5_isSignLeft_7 : decode cX5_isSignLeft 7 = .ok (.getfield 127, 3) := by decide +kernel
theorem dX5_isSignLeft_10 : decode cX5_isSignLeft 10 = .ok (.if_icmp .ge 20, 3) := by decide +kernel
theorem dX5_isSignLeft_13 : decode cX5_isSignLeft 13 = .ok (.aload_n 0, 1) := by decide +kernel
theorem dX5_isSignLeft_14 : decode cX5_isSignLeft 14 = .ok (.getfield 52, 3) := by decide +kernel
theorem dX5_isSignLeft_17 : decode cX5_isSignLeft 17 = .ok (.iload_n 1, 1) := by decide +kernel
theorem dX5_isSignLeft_18 : decode cX5_isSignLeft 18 = .ok (.iaload, 1) := by decide +kernel
theorem dX5_isSignLeft_19 : decode cX5_isSignLeft 19 = .ok (.ifCond .eq 5, 3) := by decide +kernel
theorem dX5_isSignLeft_22 : decode cX5_isSignLeft 22 = .ok (.iconst 1, 1) := by decide +kernel
theorem dX5_isSignLeft_23 : decode cX5_isSignLeft 23 = .ok (.ireturn, 1) := by decide +kernel
theorem dX5_isSignLeft_24 : decode cX5_isSignLeft 24 = .ok (.iinc 1 1, 3) := by decide +kernel
theorem dX5_isSignLeft_27 : decode cX5_isSignLeft 27 = .ok (.goto (-25), 3) := by decide +kernel
theorem dX5_isSignLeft_30 : decode cX5_isSignLeft 30 = .ok (.iconst 0, 1) := by decide +kernel
theorem dX5_isSignLeft_31 : decode cX5_isSignLeft 31 = .ok (.ireturn, 1) := by decide +kernel
theorem dX5_refusedMornings_0 : decode cX5_refusedMornings 0 = .ok (.aload_n 0, 1) := by decide +kernel
theorem dX5_refusedMornings_1 : decode cX5_refusedMornings 1 = .ok (.getfield 45, 3) := by decide +kernel
theorem dX5_refusedMornings_4 : decode cX5_refusedMornings 4 = .ok (.getfield 127, 3) := by decide +kernel
theorem dX5_refusedMornings_7 : decode cX5_refusedMornings 7 = .ok (.ifCond .ne 6, 3) := by decide +kernel
theorem dX5_refusedMornings_10 : decode cX5_refusedMornings 10 = .ok (.bipush (-4), 2) := by decide +kernel
theorem dX5_refusedMornings_12 : decode cX5_refusedMornings 12 = .ok (.ireturn, 1) := by decide +kernel
theorem dX5_refusedMornings_13 : decode cX5_refusedMornings 13 = .ok (.aload_n 1, 1) := by decide +kernel
theorem dX5_refusedMornings_14 : decode cX5_refusedMornings 14 = .ok (.getfield 90, 3) := by decide +kernel
theorem dX5_refusedMornings_17 : decode cX5_refusedMornings 17 = .ok (.iconst (-1), 1) := by decide +kernel
theorem dX5_refusedMornings_18 : decode cX5_refusedMornings 18 = .ok (.if_icmp .ne 9, 3) := by decide +kernel
theorem dX5_refusedMornings_21 : decode cX5_refusedMornings 21 = .ok (.aload_n 0, 1) := by decide +kernel
theorem dX5_refusedMornings_22 : decode cX5_refusedMornings 22 = .ok (.iconst 1, 1) := by decide +kernel
theorem dX5_refusedMornings_23 : decode cX5_refusedMornings 23 = .ok (.invokevirtual 82, 3) := by decide +kernel
theorem dX5_refusedMornings_26 : decode cX5_refusedMornings 26 = .ok (.ireturn, 1) := by decide +kernel
theorem dX5_refusedMornings_27 : decode cX5_refusedMornings 27 = .ok (.aload_n 1, 1) := by decide +kernel
theorem dX5_refusedMornings_28 : decode cX5_refusedMornings 28 = .ok (.getfield 90, 3) := by decide +kernel
theorem dX5_refusedMornings_31 : decode cX5_refusedMornings 31 = .ok (.aload_n 0, 1) := by decide +kernel
theorem dX5_refusedMornings_32 : decode cX5_refusedMornings 32 = .ok (.getfield 45, 3) := by decide +kernel
theorem dX5_refusedMornings_35 : decode cX5_refusedMornings 35 = .ok (.getfield 127, 3) := by decide +kernel
theorem dX5_refusedMornings_38 : decode cX5_refusedMornings 38 = .ok (.irem, 1) := by decide +kernel
theorem dX5_refusedMornings_39 : decode cX5_refusedMornings 39 = .ok (.ifCond .eq 9, 3) := by decide +kernel
theorem dX5_refusedMornings_42 : decode cX5_refusedMornings 42 = .ok (.aload_n 0, 1) := by decide +kernel
theorem dX5_refusedMornings_43 : decode cX5_refusedMornings 43 = .ok (.iconst 5, 1) := by decide +kernel
theorem dX5_refusedMornings_44 : decode cX5_refusedMornings 44 = .ok (.invokevirtual 82, 3) := by decide +kernel
theorem dX5_refusedMornings_47 : decode cX5_refusedMornings 47 = .ok (.ireturn, 1) := by decide +kernel
theorem dX5_refusedMornings_48 : decode cX5_refusedMornings 48 = .ok (.aload_n 1, 1) := by decide +kernel
theorem dX5_refusedMornings_49 : decode cX5_refusedMornings 49 = .ok (.iconst 4, 1) := by decide +kernel
theorem dX5_refusedMornings_50 : decode cX5_refusedMornings 50 = .ok (.invokevirtual 159, 3) := by decide +kernel
theorem dX5_refusedMornings_53 : decode cX5_refusedMornings 53 = .ok (.ifCond .ne 9, 3) := by decide +kernel
theorem dX5_refusedMornings_56 : decode cX5_refusedMornings 56 = .ok (.aload_n 0, 1) := by decide +kernel
theorem dX5_refusedMornings_57 : decode cX5_refusedMornings 57 = .ok (.iconst 3, 1) := by decide +kernel
theorem dX5_refusedMornings_58 : decode cX5_refusedMornings 58 = .ok (.invokevirtual 82, 3) := by decide +kernel
theorem dX5_refusedMornings_61 : decode cX5_refusedMornings 61 = .ok (.ireturn, 1) := by decide +kernel
theorem dX5_refusedMornings_62 : decode cX5_refusedMornings 62 = .ok (.iconst 0, 1) := by decide +kernel
theorem dX5_refusedMornings_63 : decode cX5_refusedMornings 63 = .ok (.ireturn, 1) := by decide +kernel
theorem dX5_morningsIn_0 : decode cX5_morningsIn 0 = .ok (.aload_n 0, 1) := by decide +kernel
theorem dX5_morningsIn_1 : decode cX5_morningsIn 1 = .ok (.getfield 45, 3) := by decide +kernel
theorem dX5_morningsIn_4 : decode cX5_morningsIn 4 = .ok (.getfield 127, 3) := by decide +kernel
theorem dX5_morningsIn_7 : decode cX5_morningsIn 7 = .ok (.ifCond .le 18, 3) := by decide +kernel
theorem dX5_morningsIn_10 : decode cX5_morningsIn 10 = .ok (.aload_n 1, 1) := by decide +kernel
theorem dX5_morningsIn_11 : decode cX5_morningsIn 11 = .ok (.getfield 90, 3) := by decide +kernel
theorem dX5_morningsIn_14 : decode cX5_morningsIn 14 = .ok (.aload_n 0, 1) := by decide +kernel
theorem dX5_morningsIn_15 : decode cX5_morningsIn 15 = .ok (.getfield 45, 3) := by decide +kernel
theorem dX5_morningsIn_18 : decode cX5_morningsIn 18 = .ok (.getfield 127, 3) := by decide +kernel
theorem dX5_morningsIn_21 : decode cX5_morningsIn 21 = .ok (.idiv, 1) := by decide +kernel
theorem dX5_morningsIn_22 : decode cX5_morningsIn 22 = .ok (.goto 4, 3) := by decide +kernel
theorem dX5_morningsIn_25 : decode cX5_morningsIn 25 = .ok (.iconst 0, 1) := by decide +kernel
theorem dX5_morningsIn_26 : decode cX5_morningsIn 26 = .ok (.ireturn, 1) := by decide +kernel
theorem dX6_init_0 : decode cX6_init 0 = .ok (.aload_n 0, 1) := by decide +kernel
theorem dX6_init_1 : decode cX6_init 1 = .ok (.invokespecial 1, 3) := by decide +kernel
theorem dX6_init_4 : decode cX6_init 4 = .ok (.aload_n 0, 1) := by decide +kernel
theorem dX6_init_5 : decode cX6_init 5 = .ok (.bipush 6, 2) := by decide +kernel
theorem dX6_init_7 : decode cX6_init 7 = .ok (.newarray .int, 2) := by decide +kernel
theorem dX6_init_9 : decode cX6_init 9 = .ok (.putfield 7, 3) := by decide +kernel
theorem dX6_init_12 : decode cX6_init 12 = .ok (.aload_n 0, 1) := by decide +kernel
theorem dX6_init_13 : decode cX6_init 13 = .ok (.lconst 1, 1) := by decide +kernel
theorem dX6_init_14 : decode cX6_init 14 = .ok (.putfield 13, 3) := by decide +kernel
theorem dX6_init_17 : decode cX6_init 17 = .ok (.aload_n 0, 1) := by decide +kernel
theorem dX6_init_18 : decode cX6_init 18 = .ok (.bipush 6, 2) := by decide +kernel
theorem dX6_init_20 : decode cX6_init 20 = .ok (.newarray .int, 2) := by decide +kernel
theorem dX6_init_22 : decode cX6_init 22 = .ok (.putfield 17, 3) := by decide +kernel
theorem dX6_init_25 : decode cX6_init 25 = .ok (.aload_n 0, 1) := by decide +kernel
theorem dX6_init_26 : decode cX6_init 26 = .ok (.sipush 240, 3) := by decide +kernel
theorem dX6_init_29 : decode cX6_init 29 = .ok (.newarray .int, 2) := by decide +kernel
theorem dX6_init_31 : decode cX6_init 31 = .ok (.putfield 20, 3) := by decide +kernel
theorem dX6_init_34 : decode cX6_init 34 = .ok (.aload_n 0, 1) := by decide +kernel
theorem dX6_init_35 : decode cX6_init 35 = .ok (.bipush 40, 2) := by decide +kernel
theorem dX6_init_37 : decode cX6_init 37 = .ok (.newarray .int, 2) := by decide +kernel
theorem dX6_init_39 : decode cX6_init 39 = .ok (.putfield 23, 3) := by decide +kernel
theorem dX6_init_42 : decode cX6_init 42 = .ok (.aload_n 0, 1) := by decide +kernel
theorem dX6_init_43 : decode cX6_init 43 = .ok (.iconst 4, 1) := by decide +kernel
theorem dX6_init_44 : decode cX6_init 44 = .ok (.newarray .int, 2) := by decide +kernel
theorem dX6_init_46 : decode cX6_init 46 = .ok (.putfield 26, 3) := by decide +kernel
theorem dX6_init_49 : decode cX6_init 49 = .ok (.aload_n 0, 1) := by decide +kernel
theorem dX6_init_50 : decode cX6_init 50 = .ok (.sipush 240, 3) := by decide +kernel
theorem dX6_init_53 : decode cX6_init 53 = .ok (.newarray .byte, 2) := by decide +kernel
theorem dX6_init_55 : decode cX6_init 55 = .ok (.putfield 29, 3) := by decide +kernel
theorem dX6_init_58 : decode cX6_init 58 = .ok (.aload_n 0, 1) := by decide +kernel
theorem dX6_init_59 : decode cX6_init 59 = .ok (.bipush 6, 2) := by decide +kernel
theorem dX6_init_61 : decode cX6_init 61 = .ok (.newarray .int, 2) := by decide +kernel
theorem dX6_init_63 : decode cX6_init 63 = .ok (.putfield 33, 3) := by decide +kernel
theorem dX6_init_66 : decode cX6_init 66 = .ok (.aload_n 0, 1) := by decide +kernel
theorem dX6_init_67 : decode cX6_init 67 = .ok (.bipush 6, 2) := by decide +kernel
theorem dX6_init_69 : decode cX6_init 69 = .ok (.newarray .int, 2) := by decide +kernel
theorem dX6_init_71 : decode cX6_init 71 = .ok (.putfield 36, 3) := by decide +kernel
theorem dX6_init_74 : decode cX6_init 74 = .ok (.aload_n 0, 1) := by decide +kernel
theorem dX6_init_75 : decode cX6_init 75 = .ok (.bipush 6, 2) := by decide +kernel
theorem dX6_init_77 : decode cX6_init 77 = .ok (.newarray .int, 2) := by decide +kernel
theorem dX6_init_79 : decode cX6_init 79 = .ok (.putfield 39, 3) := by decide +kernel
theorem dX6_init_82 : decode cX6_init 82 = .ok (.aload_n 0, 1) := by decide +kernel
theorem dX6_init_83 : decode cX6_init 83 = .ok (.bipush 6, 2) := by decide +kernel
theorem dX6_init_85 : decode cX6_init 85 = .ok (.newarray .int, 2) := by decide +kernel
theorem dX6_init_87 : decode cX6_init 87 = .ok (.putfield 42, 3) := by decide +kernel
theorem dX6_init_90 : decode cX6_init 90 = .ok (.aload_n 0, 1) := by decide +kernel
theorem dX6_init_91 : decode cX6_init 91 = .ok (.bipush 6, 2) := by decide +kernel
theorem dX6_init_93 : decode cX6_init 93 = .ok (.newarray .int, 2) := by decide +kernel
theorem dX6_init_95 : decode cX6_init 95 = .ok (.putfield 45, 3) := by decide +kernel
theorem dX6_init_98 : decode cX6_init 98 = .ok (.aload_n 0, 1) := by decide +kernel
theorem dX6_init_99 : decode cX6_init 99 = .ok (.bipush 14, 2) := by decide +kernel
theorem dX6_init_101 : decode cX6_init 101 = .ok (.newarray .int, 2) := by decide +kernel
theorem dX6_init_103 : decode cX6_init 103 = .ok (.putfield 48, 3) := by decide +kernel
theorem dX6_init_106 : decode cX6_init 106 = .ok (.aload_n 0, 1) := by decide +kernel
theorem dX6_init_107 : decode cX6_init 107 = .ok (.bipush 14, 2) := by decide +kernel
theorem dX6_init_109 : decode cX6_init 109 = .ok (.newarray .int, 2) := by decide +kernel
theorem dX6_init_111 : decode cX6_init 111 = .ok (.putfield 51, 3) := by decide +kernel
theorem dX6_init_114 : decode cX6_init 114 = .ok (.aload_n 0, 1) := by decide +kernel
theorem dX6_init_115 : decode cX6_init 115 = .ok (.bipush 6, 2) := by decide +kernel
theorem dX6_init_117 : decode cX6_init 117 = .ok (.newarray .int, 2) := by decide +kernel
theorem dX6_init_119 : decode cX6_init 119 = .ok (.putfield 54, 3) := by decide +kernel
theorem dX6_init_122 : decode cX6_init 122 = .ok (.aload_n 0, 1) := by decide +kernel
theorem dX6_init_123 : decode cX6_init 123 = .ok (.sipush 560, 3) := by decide +kernel
theorem dX6_init_126 : decode cX6_init 126 = .ok (.newarray .int, 2) := by decide +kernel
theorem dX6_init_128 : decode cX6_init 128 = .ok (.putfield 57, 3) := by decide +kernel
theorem dX6_init_131 : decode cX6_init 131 = .ok (.aload_n 0, 1) := by decide +kernel
theorem dX6_init_132 : decode cX6_init 132 = .ok (.iconst 3, 1) := by decide +kernel
theorem dX6_init_133 : decode cX6_init 133 = .ok (.newarray .boolean, 2) := by decide +kernel
theorem dX6_init_135 : decode cX6_init 135 = .ok (.putfield 60, 3) := by decide +kernel
theorem dX6_init_138 : decode cX6_init 138 = .ok (.aload_n 0, 1) := by decide +kernel
theorem dX6_init_139 : decode cX6_init 139 = .ok (.iconst 3, 1) := by decide +kernel
theorem dX6_init_140 : decode cX6_init 140 = .ok (.newarray .int, 2) := by decide +kernel
theorem dX6_init_142 : decode cX6_init 142 = .ok (.putfield 64, 3) := by decide +kernel
theorem dX6_init_145 : decode cX6_init 145 = .ok (.aload_n 0, 1) := by decide +kernel
theorem dX6_init_146 : decode cX6_init 146 = .ok (.bipush 42, 2) := by decide +kernel
theorem dX6_init_148 : decode cX6_init 148 = .ok (.newarray .int, 2) := by decide +kernel
theorem dX6_init_150 : decode cX6_init 150 = .ok (.putfield 67, 3) := by decide +kernel
theorem dX6_init_153 : decode cX6_init 153 = .ok (.aload_n 0, 1) := by decide +kernel
theorem dX6_init_154 : decode cX6_init 154 = .ok (.sipush 1680, 3) := by decide +kernel
theorem dX6_init_157 : decode cX6_init 157 = .ok (.newarray .int, 2) := by decide +kernel
theorem dX6_init_159 : decode cX6_init 159 = .ok (.putfield 70, 3) := by decide +kernel
theorem dX6_init_162 : decode cX6_init 162 = .ok (.aload_n 0, 1) := by decide +kernel
theorem dX6_init_163 : decode cX6_init 163 = .ok (.bipush 6, 2) := by decide +kernel
theorem dX6_init_165 : decode cX6_init 165 = .ok (.newarray .int, 2) := by decide +kernel
theorem dX6_init_167 : decode cX6_init 167 = .ok (.putfield 73, 3) := by decide +kernel
theorem dX6_init_170 : decode cX6_init 170 = .ok (.aload_n 0, 1) := by decide +kernel
theorem dX6_init_171 : decode cX6_init 171 = .ok (.sipush 24576, 3) := by decide +kernel
theorem dX6_init_174 : decode cX6_init 174 = .ok (.newarray .int, 2) := by decide +kernel
theorem dX6_init_176 : decode cX6_init 176 = .ok (.putfield 76, 3) := by decide +kernel
theorem dX6_init_179 : decode cX6_init 179 = .ok (.aload_n 0, 1) := by decide +kernel
theorem dX6_init_180 : decode cX6_init 180 = .ok (.bipush 6, 2) := by decide +kernel
theorem dX6_init_182 : decode cX6_init 182 = .ok (.newarray .int, 2) := by decide +kernel
theorem dX6_init_184 : decode cX6_init 184 = .ok (.putfield 79, 3) := by decide +kernel
theorem dX6_init_187 : decode cX6_init 187 = .ok (.iconst 0, 1) := by decide +kernel
theorem dX6_init_188 : decode cX6_init 188 = .ok (.istore_n 1, 1) := by decide +kernel
theorem dX6_init_189 : decode cX6_init 189 = .ok (.iload_n 1, 1) := by decide +kernel
theorem dX6_init_190 : decode cX6_init 190 = .ok (.bipush 6, 2) := by decide +kernel
theorem dX6_init_192 : decode cX6_init 192 = .ok (.if_icmp .ge 16, 3) := by decide +kernel
theorem dX6_init_195 : decode cX6_init 195 = .ok (.aload_n 0, 1) := by decide +kernel
theorem dX6_init_196 : decode cX6_init 196 = .ok (.getfield 17, 3) := by decide +kernel
theorem dX6_init_199 : decode cX6_init 199 = .ok (.iload_n 1, 1) := by decide +kernel
theorem dX6_init_200 : decode cX6_init 200 = .ok (.iconst (-1), 1) := by decide +kernel
theorem dX6_init_201 : decode cX6_init 201 = .ok (.iastore, 1) := by decide +kernel
theorem dX6_init_202 : decode cX6_init 202 = .ok (.iinc 1 1, 3) := by decide +kernel
theorem dX6_init_205 : decode cX6_init 205 = .ok (.goto (-16), 3) := by decide +kernel
theorem dX6_init_208 : decode cX6_init 208 = .ok (.iconst 0, 1) := by decide +kernel
theorem dX6_init_209 : decode cX6_init 209 = .ok (.istore_n 1, 1) := by decide +kernel
theorem dX6_init_210 : decode cX6_init 210 = .ok (.iload_n 1, 1) := by decide +kernel
theorem dX6_init_211 : decode cX6_init 211 = .ok (.iconst 4, 1) := by decide +kernel
theorem dX6_init_212 : decode cX6_init 212 = .ok (.if_icmp .ge 16, 3) := by decide +kernel
theorem dX6_init_215 : decode cX6_init 215 = .ok (.aload_n 0, 1) := by decide +kernel
theorem dX6_init_216 : decode cX6_init 216 = .ok (.getfield 26, 3) := by decide +kernel
theorem dX6_init_219 : decode cX6_init 219 = .ok (.iload_n 1, 1) := by decide +kernel
theorem dX6_init_220 : decode cX6_init 220 = .ok (.iconst (-1), 1) := by decide +kernel
theorem dX6_init_221 : decode cX6_init 221 = .ok (.iastore, 1) := by decide +kernel
theorem dX6_init_222 : decode cX6_init 222 = .ok (.iinc 1 1, 3) := by decide +kernel
theorem dX6_init_225 : decode cX6_init 225 = .ok (.goto (-15), 3) := by decide +kernel
theorem dX6_init_228 : decode cX6_init 228 = .ok (.return_, 1) := by decide +kernel
theorem dX6_in_0 : decode cX6_in 0 = .ok (.iload_n 0, 1) := by decide +kernel
theorem dX6_in_1 : decode cX6_in 1 = .ok (.iload_n 1, 1) := by decide +kernel
theorem dX6_in_2 : decode cX6_in 2 = .ok (.if_icmp .lt 12, 3) := by decide +kernel
theorem dX6_in_5 : decode cX6_in 5 = .ok (.iload_n 0, 1) := by decide +kernel
theorem dX6_in_6 : decode cX6_in 6 = .ok (.iload_n 2, 1) := by decide +kernel
theorem dX6_in_7 : decode cX6_in 7 = .ok (.if_icmp .gt 7, 3) := by decide +kernel
theorem dX6_in_10 : decode cX6_in 10 = .ok (.iconst 1, 1) := by decide +kernel
theorem dX6_in_11 : decode cX6_in 11 = .ok (.goto 4, 3) := by decide +kernel
theorem dX6_in_14 : decode cX6_in 14 = .ok (.iconst 0, 1) := by decide +kernel
theorem dX6_in_15 : decode cX6_in 15 = .ok (.ireturn, 1) := by decide +kernel
theorem dX6_has_0 : decode cX6_has 0 = .ok (.iload_n 0, 1) := by decide +kernel
theorem dX6_has_1 : decode cX6_has 1 = .ok (.iload_n 1, 1) := by decide +kernel
theorem dX6_has_2 : decode cX6_has 2 = .ok (.ishr, 1) := by decide +kernel
theorem dX6_has_3 : decode cX6_has 3 = .ok (.iconst 1, 1) := by decide +kernel
theorem dX6_has_4 : decode cX6_has 4 = .ok (.iand, 1) := by decide +kernel
theorem dX6_has_5 : decode cX6_has 5 = .ok (.iconst 1, 1) := by decide +kernel
theorem dX6_has_6 : decode cX6_has 6 = .ok (.if_icmp .ne 7, 3) := by decide +kernel
theorem dX6_has_9 : decode cX6_has 9 = .ok (.iconst 1, 1) := by decide +kernel
theorem dX6_has_10 : decode cX6_has 10 = .ok (.goto 4, 3) := by decide +kernel
theorem dX6_has_13 : decode cX6_has 13 = .ok (.iconst 0, 1) := by decide +kernel
theorem dX6_has_14 : decode cX6_has 14 = .ok (.ireturn, 1) := by decide +kernel
theorem dX6_bits_0 : decode cX6_bits 0 = .ok (.iconst 0, 1) := by decide +kernel
theorem dX6_bits_1 : decode cX6_bits 1 = .ok (.istore_n 1, 1) := by decide +kernel
theorem dX6_bits_2 : decode cX6_bits 2 = .ok (.iload_n 0, 1) := by decide +kernel
theorem dX6_bits_3 : decode cX6_bits 3 = .ok (.istore_n 2, 1) := by decide +kernel
theorem dX6_bits_4 : decode cX6_bits 4 = .ok (.iload_n 2, 1) := by decide +kernel
theorem dX6_bits_5 : decode cX6_bits 5 = .ok (.ifCond .eq 15, 3) := by decide +kernel
theorem dX6_bits_8 : decode cX6_bits 8 = .ok (.iinc 1 1, 3) := by decide +kernel
theorem dX6_bits_11 : decode cX6_bits 11 = .ok (.iload_n 2, 1) := by decide +kernel
theorem dX6_bits_12 : decode cX6_bits 12 = .ok (.iload_n 2, 1) := by decide +kernel
theorem dX6_bits_13 : decode cX6_bits 13 = .ok (.iconst 1, 1) := by decide +kernel
theorem dX6_bits_14 : decode cX6_bits 14 = .ok (.isub, 1) := by decide +kernel
theorem dX6_bits_15 : decode cX6_bits 15 = .ok (.iand, 1) := by decide +kernel
theorem dX6_bits_16 : decode cX6_bits 16 = .ok (.istore_n 2, 1) := by decide +kernel
theorem dX6_bits_17 : decode cX6_bits 17 = .ok (.goto (-13), 3) := by decide +kernel
theorem dX6_bits_20 : decode cX6_bits 20 = .ok (.iload_n 1, 1) := by decide +kernel
theorem dX6_bits_21 : decode cX6_bits 21 = .ok (.ireturn, 1) := by decide +kernel
theorem dX6_meets_0 : decode cX6_meets 0 = .ok (.aload_n 0, 1) := by decide +kernel
theorem dX6_meets_1 : decode cX6_meets 1 = .ok (.iload_n 1, 1) := by decide +kernel
theorem dX6_meets_2 : decode cX6_meets 2 = .ok (.putfield 82, 3) := by decide +kernel
theorem dX6_meets_5 : decode cX6_meets 5 = .ok (.aload_n 0, 1) := by decide +kernel
theorem dX6_meets_6 : decode cX6_meets 6 = .ok (.getfield 7, 3) := by decide +kernel
theorem dX6_meets_9 : decode cX6_meets 9 = .ok (.iload_n 1, 1) := by decide +kernel
theorem dX6_meets_10 : decode cX6_meets 10 = .ok (.dup2, 1) := by decide +kernel
theorem dX6_meets_11 : decode cX6_meets 11 = .ok (.iaload, 1) := by decide +kernel
theorem dX6_meets_12 : decode cX6_meets 12 = .ok (.iconst 1, 1) := by decide +kernel
theorem dX6_meets_13 : decode cX6_meets 13 = .ok (.iadd, 1) := by decide +kernel
theorem dX6_meets_14 : decode cX6_meets 14 = .ok (.iastore, 1) := by decide +kernel
theorem dX6_meets_15 : decode cX6_meets 15 = .ok (.bipush (-3), 2) := by decide +kernel
theorem dX6_meets_17 : decode cX6_meets 17 = .ok (.ireturn, 1) := by decide +kernel
theorem dX6_finding_0 : decode cX6_finding 0 = .ok (.aload_n 0, 1) := by decide +kernel
theorem dX6_finding_1 : decode cX6_finding 1 = .ok (.getfield 82, 3) := by decide +kernel
theorem dX6_finding_4 : decode cX6_finding 4 = .ok (.ireturn, 1) := by decide +kernel
theorem dX6_findings_0 : decode cX6_findings 0 = .ok (.iload_n 1, 1) := by decide +kernel
theorem dX6_findings_1 : decode cX6_findings 1 = .ok (.iconst 1, 1) := by decide +kernel
theorem dX6_findings_2 : decode cX6_findings 2 = .ok (.iconst 5, 1) := by decide +kernel
theorem dX6_findings_3 : decode cX6_findings 3 = .ok (.invokestatic 86, 3) := by decide +kernel
theorem dX6_findings_6 : decode cX6_findings 6 = .ok (.ifCond .eq 12, 3) := by decide +kernel
theorem dX6_findings_9 : decode cX6_findings 9 = .ok (.aload_n 0, 1) := by decide +kernel
theorem dX6_findings_10 : decode cX6_findings 10 = .ok (.getfield 7, 3) := by decide +kernel
theorem dX6_findings_13 : decode cX6_findings 13 = .ok (.iload_n 1, 1) := by decide +kernel
theorem dX6_findings_14 : decode cX6_findings 14 = .ok (.iaload, 1) := by decide +kernel
theorem dX6_findings_15 : decode cX6_findings 15 = .ok (.goto 4, 3) := by decide +kernel
theorem dX6_findings_18 : decode cX6_findings 18 = .ok (.iconst (-1), 1) := by decide +kernel
theorem dX6_findings_19 : decode cX6_findings 19 = .ok (.ireturn, 1) := by decide +kernel
theorem dX6_gives_0 : decode cX6_gives 0 = .ok (.aload_n 0, 1) := by decide +kernel
theorem dX6_gives_1 : decode cX6_gives 1 = .ok (.iload_n 1, 1) := by decide +kernel
theorem dX6_gives_2 : decode cX6_gives 2 = .ok (.putfield 90, 3) := by decide +kernel
theorem dX6_gives_5 : decode cX6_gives 5 = .ok (.iload_n 2, 1) := by decide +kernel
theorem dX6_gives_6 : decode cX6_gives 6 = .ok (.ireturn, 1) := by decide +kernel
theorem dX6_asked_0 : decode cX6_asked 0 = .ok (.aload_n 0, 1) := by decide +kernel
theorem dX6_asked_1 : decode cX6_asked 1 = .ok (.getfield 90, 3) := by decide +kernel
theorem dX6_asked_4 : decode cX6_asked 4 = .ok (.ireturn, 1) := by decide +kernel
theorem dX6_fraction_0 : decode cX6_fraction 0 = .ok (.iload_n 1, 1) := by decide +kernel
theorem dX6_fraction_1 : decode cX6_fraction 1 = .ok (.istore_n 3, 1) := by decide +kernel
theorem dX6_fraction_2 : decode cX6_fraction 2 = .ok (.iload_n 2, 1) := by decide +kernel
theorem dX6_fraction_3 : decode cX6_fraction 3 = .ok (.istore 4, 2) := by decide +kernel
theorem dX6_fraction_5 : decode cX6_fraction 5 = .ok (.iload 4, 2) := by decide +kernel
theorem dX6_fraction_7 : decode cX6_fraction 7 = .ok (.ifCond .eq 19, 3) := by decide +kernel
theorem dX6_fraction_10 : decode cX6_fraction 10 = .ok (.iload_n 3, 1) := by decide +kernel
theorem dX6_fraction_11 : decode cX6_fraction 11 = .ok (.iload 4, 2) := by decide +kernel
theorem dX6_fraction_13 : decode cX6_fraction 13 = .ok (.irem, 1) := by decide +kernel
theorem dX6_fraction_14 : decode cX6_fraction 14 = .ok (.istore 5, 2) := by decide +kernel
theorem dX6_fraction_16 : decode cX6_fraction 16 = .ok (.iload 4, 2) := by decide +kernel
theorem dX6_fraction_18 : decode cX6_fraction 18 = .ok (.istore_n 3, 1) := by decide +kernel
theorem dX6_fraction_19 : decode cX6_fraction 19 = .ok (.iload 5, 2) := by decide +kernel
theorem dX6_fraction_21 : decode cX6_fraction 21 = .ok (.istore 4, 2) := by decide +kernel
theorem dX6_fraction_23 : decode cX6_fraction 23 = .ok (.goto (-18), 3) := by decide +kernel
theorem dX6_fraction_26 : decode cX6_fraction 26 = .ok (.aload_n 0, 1) := by decide +kernel
theorem dX6_fraction_27 : decode cX6_fraction 27 = .ok (.iload_n 1, 1) := by decide +kernel
theorem dX6_fraction_28 : decode cX6_fraction 28 = .ok (.iload_n 3, 1) := by decide +kernel
theorem dX6_fraction_29 : decode cX6_fraction 29 = .ok (.idiv, 1) := by decide +kernel
theorem dX6_fraction_30 : decode cX6_fraction 30 = .ok (.i2l, 1) := by decide +kernel
theorem dX6_fraction_31 : decode cX6_fraction 31 = .ok (.putfield 93, 3) := by decide +kernel
theorem dX6_fraction_34 : decode cX6_fraction 34 = .ok (.aload_n 0, 1) := by decide +kernel
theorem dX6_fraction_35 : decode cX6_fraction 35 = .ok (.iload_n 2, 1) := by decide +kernel
theorem dX6_fraction_36 : decode cX6_fraction 36 = .ok (.iload_n 3, 1) := by decide +kernel
theorem dX6_fraction_37 : decode cX6_fraction 37 = .ok (.idiv, 1) := by decide +kernel
theorem dX6_fraction_38 : decode cX6_fraction 38 = .ok (.i2l, 1) := by decide +kernel
theorem dX6_fraction_39 : decode cX6_fraction 39 = .ok (.putfield 13, 3) := by decide +kernel
theorem dX6_fraction_42 : decode cX6_fraction 42 = .ok (.iconst 1, 1) := by decide +kernel
theorem dX6_fraction_43 : decode cX6_fraction 43 = .ok (.ireturn, 1) := by decide +kernel
theorem dX6_upper_0 : decode cX6_upper 0 = .ok (.aload_n 0, 1) := by decide +kernel
theorem dX6_upper_1 : decode cX6_upper 1 = .ok (.getfield 93, 3) := by decide +kernel
theorem dX6_upper_4 : decode cX6_upper 4 = .ok (.lreturn, 1) := by decide +kernel
theorem dX6_lower_0 : decode cX6_lower 0 = .ok (.aload_n 0, 1) := by decide +kernel
theorem dX6_lower_1 : decode cX6_lower 1 = .ok (.getfield 13, 3) := by decide +kernel
theorem dX6_lower_4 : decode cX6_lower 4 = .ok (.lreturn, 1) := by decide +kernel
theorem dX6_isRow_0 : decode cX6_isRow 0 = .ok (.iload_n 0, 1) := by decide +kernel
theorem dX6_isRow_1 : decode cX6_isRow 1 = .ok (.iconst 0, 1) := by decide +kernel
theorem dX6_isRow_2 : decode cX6_isRow 2 = .ok (.iconst 5, 1) := by decide +kernel
theorem dX6_isRow_3 : decode cX6_isRow 3 = .ok (.invokestatic 86, 3) := by decide +kernel
theorem dX6_isRow_6 : decode cX6_isRow 6 = .ok (.ireturn, 1) := by decide +kernel
theorem dX6_rowAt_0 : decode cX6_rowAt 0 = .ok (.aload_n 0, 1) := by decide +kernel
theorem dX6_rowAt_1 : decode cX6_rowAt 1 = .ok (.getfield 20, 3) := by decide +kernel
theorem dX6_rowAt_4 : decode cX6_rowAt 4 = .ok (.bipush 40, 2) := by decide +kernel
theorem dX6_rowAt_6 : decode cX6_rowAt 6 = .ok (.iload_n 1, 1) := by decide +kernel
theorem dX6_rowAt_7 : decode cX6_rowAt 7 = .ok (.imul, 1) := by decide +kernel
theorem dX6_rowAt_8 : decode cX6_rowAt 8 = .ok (.iload_n 2, 1) := by decide +kernel
theorem dX6_rowAt_9 : decode cX6_rowAt 9 = .ok (.iadd, 1) := by decide +kernel
theorem dX6_rowAt_10 : decode cX6_rowAt 10 = .ok (.iaload, 1) := by decide +kernel
theorem dX6_rowAt_11 : decode cX6_rowAt 11 = .ok (.ireturn, 1) := by decide +kernel
theorem dX6_row_0 : decode cX6_row 0 = .ok (.iload_n 1, 1) := by decide +kernel
theorem dX6_row_1 : decode cX6_row 1 = .ok (.invokestatic 96, 3) := by decide +kernel
theorem dX6_row_4 : decode cX6_row 4 = .ok (.ifCond .eq 9, 3) := by decide +kernel
theorem dX6_row_7 : decode cX6_row 7 = .ok (.iload_n 2, 1) := by decide +kernel
theorem dX6_row_8 : decode cX6_row 8 = .ok (.bipush 40, 2) := by decide +kernel
theorem dX6_row_10 : decode cX6_row 10 = .ok (.if_icmp .le 5, 3) := by decide +kernel
theorem dX6_row_13 : decode cX6_row 13 = .ok (.iconst (-1), 1) := by decide +kernel
theorem dX6_row_14 : decode cX6_row 14 = .ok (.ireturn, 1) := by decide +kernel
theorem dX6_row_15 : decode cX6_row 15 = .ok (.iload_n 2, 1) := by decide +kernel
theorem dX6_row_16 : decode cX6_row 16 = .ok (.ifCond .ge 9, 3) := by decide +kernel
theorem dX6_row_19 : decode cX6_row 19 = .ok (.aload_n 0, 1) := by decide +kernel
theorem dX6_row_20 : decode cX6_row 20 = .ok (.iconst 5, 1) := by decide +kernel
theorem dX6_row_21 : decode cX6_row 21 = .ok (.invokevirtual 100, 3) := by decide +kernel
theorem dX6_row_24 : decode cX6_row 24 = .ok (.ireturn, 1) := by decide +kernel
theorem dX6_row_25 : decode cX6_row 25 = .ok (.aload_n 0, 1) := by decide +kernel
theorem dX6_row_26 : decode cX6_row 26 = .ok (.getfield 17, 3) := by decide +kernel
theorem dX6_row_29 : decode cX6_row 29 = .ok (.iload_n 1, 1) := by decide +kernel
theorem dX6_row_30 : decode cX6_row 30 = .ok (.iload_n 2, 1) := by decide +kernel
theorem dX6_row_31 : decode cX6_row 31 = .ok (.iastore, 1) := by decide +kernel
theorem dX6_row_32 : decode cX6_row 32 = .ok (.iconst 0, 1) := by decide +kernel
theorem dX6_row_33 : decode cX6_row 33 = .ok (.istore_n 3, 1) := by decide +kernel
theorem dX6_row_34 : decode cX6_row 34 = .ok (.iload_n 3, 1) := by decide +kernel
theorem dX6_row_35 : decode cX6_row 35 = .ok (.bipush 40, 2) := by decide +kernel
theorem dX6_row_37 : decode cX6_row 37 = .ok (.if_icmp .ge 21, 3) := by decide +kernel
theorem dX6_row_40 : decode cX6_row 40 = .ok (.aload_n 0, 1) := by decide +kernel
theorem dX6_row_41 : decode cX6_row 41 = .ok (.getfield 20, 3) := by decide +kernel
theorem dX6_row_44 : decode cX6_row 44 = .ok (.bipush 40, 2) := by decide +kernel
theorem dX6_row_46 : decode cX6_row 46 = .ok (.iload_n 1, 1) := by decide +kernel
theorem dX6_row_47 : decode cX6_row 47 = .ok (.imul, 1) := by decide +kernel
theorem dX6_row_48 : decode cX6_row 48 = .ok (.iload_n 3, 1) := by decide +kernel
theorem dX6_row_49 : decode cX6_row 49 = .ok (.iadd, 1) := by decide +kernel
theorem dX6_row_50 : decode cX6_row 50 = .ok (.iconst 0, 1) := by decide +kernel
theorem dX6_row_51 : decode cX6_row 51 = .ok (.iastore, 1) := by decide +kernel
theorem dX6_row_52 : decode cX6_row 52 = .ok (.iinc 3 1, 3) := by decide +kernel
theorem dX6_row_55 : decode cX6_row 55 = .ok (.goto (-21), 3) := by decide +kernel
theorem dX6_row_58 : decode cX6_row 58 = .ok (.iload_n 2, 1) := by decide +kernel
theorem dX6_row_59 : decode cX6_row 59 = .ok (.ireturn, 1) := by decide +kernel
theorem dX6_lay_0 : decode cX6_lay 0 = .ok (.iload_n 1, 1) := by decide +kernel
theorem dX6_lay_1 : decode cX6_lay 1 = .ok (.invokestatic 96, 3) := by decide +kernel
theorem dX6_lay_4 : decode cX6_lay 4 = .ok (.ifCond .ne 5, 3) := by decide +kernel
theorem dX6_lay_7 : decode cX6_lay 7 = .ok (.iconst (-1), 1) := by decide +kernel
theorem dX6_lay_8 : decode cX6_lay 8 = .ok (.ireturn, 1) := by decide +kernel
theorem dX6_lay_9 : decode cX6_lay 9 = .ok (.aload_n 0, 1) := by decide +kernel
theorem dX6_lay_10 : decode cX6_lay 10 = .ok (.getfield 17, 3) := by decide +kernel
theorem dX6_lay_13 : decode cX6_lay 13 = .ok (.iload_n 1, 1) := by decide +kernel
theorem dX6_lay_14 : decode cX6_lay 14 = .ok (.iaload, 1) := by decide +kernel
theorem dX6_lay_15 : decode cX6_lay 15 = .ok (.ifCond .ge 9, 3) := by decide +kernel
theorem dX6_lay_18 : decode cX6_lay 18 = .ok (.aload_n 0, 1) := by decide +kernel
theorem dX6_lay_19 : decode cX6_lay 19 = .ok (.iconst 1, 1) := by decide +kernel
theorem dX6_lay_20 : decode cX6_lay 20 = .ok (.invokevirtual 100, 3) := by decide +kernel
theorem dX6_lay_23 : decode cX6_lay 23 = .ok (.ireturn, 1) := by decide +kernel
theorem dX6_lay_24 : decode cX6_lay 24 = .ok (.iload_n 2, 1) := by decide +kernel
theorem dX6_lay_25 : decode cX6_lay 25 = .ok (.iconst 0, 1) := by decide +kernel
theorem dX6_lay_26 : decode cX6_lay 26 = .ok (.aload_n 0, 1) := by decide +kernel
theorem dX6_lay_27 : decode cX6_lay 27 = .ok (.getfield 17, 3) := by decide +kernel
theorem dX6_lay_30 : decode cX6_lay 30 = .ok (.iload_n 1, 1) := by decide +kernel
theorem dX6_lay_31 : decode cX6_lay 31 = .ok (.iaload, 1) := by decide +kernel
theorem dX6_lay_32 : decode cX6_lay 32 = .ok (.iconst 1, 1) := by decide +kernel
theorem dX6_lay_33 : decode cX6_lay 33 = .ok (.isub, 1) := by decide +kernel
theorem dX6_lay_34 : decode cX6_lay 34 = .ok (.invokestatic 86, 3) := by decide +kernel
theorem dX6_lay_37 : decode cX6_lay 37 = .ok (.ifCond .ne 9, 3) := by decide +kernel
theorem dX6_lay_40 : decode cX6_lay 40 = .ok (.aload_n 0, 1) := by decide +kernel
theorem dX6_lay_41 : decode cX6_lay 41 = .ok (.iconst 2, 1) := by decide +kernel
theorem dX6_lay_42 : decode cX6_lay 42 = .ok (.invokevirtual 100, 3) := by decide +kernel
theorem dX6_lay_45 : decode cX6_lay 45 = .ok (.ireturn, 1) := by decide +kernel
theorem dX6_lay_46 : decode cX6_lay 46 = .ok (.aload_n 0, 1) := by decide +kernel
theorem dX6_lay_47 : decode cX6_lay 47 = .ok (.iload_n 1, 1) := by decide +kernel
theorem dX6_lay_48 : decode cX6_lay 48 = .ok (.iload_n 2, 1) := by decide +kernel
theorem dX6_lay_49 : decode cX6_lay 49 = .ok (.invokevirtual 104, 3) := by decide +kernel
theorem dX6_lay_52 : decode cX6_lay 52 = .ok (.istore 4, 2) := by decide +kernel
theorem dX6_lay_54 : decode cX6_lay 54 = .ok (.aload_n 0, 1) := by decide +kernel
theorem dX6_lay_55 : decode cX6_lay 55 = .ok (.getfield 20, 3) := by decide +kernel
theorem dX6_lay_58 : decode cX6_lay 58 = .ok (.bipush 40, 2) := by decide +kernel
theorem dX6_lay_60 : decode cX6_lay 60 = .ok (.iload_n 1, 1) := by decide +kernel
theorem dX6_lay_61 : decode cX6_lay 61 = .ok (.imul, 1) := by decide +kernel
theorem dX6_lay_62 : decode cX6_lay 62 = .ok (.iload_n 2, 1) := by decide +kernel
theorem dX6_lay_63 : decode cX6_lay 63 = .ok (.iadd, 1) := by decide +kernel
theorem dX6_lay_64 : decode cX6_lay 64 = .ok (.iload_n 3, 1) := by decide +kernel
theorem dX6_lay_65 : decode cX6_lay 65 = .ok (.iastore, 1) := by decide +kernel
theorem dX6_lay_66 : decode cX6_lay 66 = .ok (.aload_n 0, 1) := by decide +kernel
theorem dX6_lay_67 : decode cX6_lay 67 = .ok (.iload 4, 2) := by decide +kernel
theorem dX6_lay_69 : decode cX6_lay 69 = .ok (.iconst 1, 1) := by decide +kernel
theorem dX6_lay_70 : decode cX6_lay 70 = .ok (.invokevirtual 108, 3) := by decide +kernel
theorem dX6_lay_73 : decode cX6_lay 73 = .ok (.ireturn, 1) := by decide +kernel
theorem dX6_at_0 : decode cX6_at 0 = .ok (.iload_n 1, 1) := by decide +kernel
theorem dX6_at_1 : decode cX6_at 1 = .ok (.invokestatic 96, 3) := by decide +kernel
theorem dX6_at_4 : decode cX6_at 4 = .ok (.ifCond .ne 5, 3) := by decide +kernel
theorem dX6_at_7 : decode cX6_at 7 = .ok (.iconst (-1), 1) := by decide +kernel
theorem dX6_at_8 : decode cX6_at 8 = .ok (.ireturn, 1) := by decide +kernel
theorem dX6_at_9 : decode cX6_at 9 = .ok (.aload_n 0, 1) := by decide +kernel
theorem dX6_at_10 : decode cX6_at 10 = .ok (.getfield 17, 3) := by decide +kernel
theorem dX6_at_13 : decode cX6_at 13 = .ok (.iload_n 1, 1) := by decide +kernel
theorem dX6_at_14 : decode cX6_at 14 = .ok (.iaload, 1) := by decide +kernel
theorem dX6_at_15 : decode cX6_at 15 = .ok (.ifCond .ge 9, 3) := by decide +kernel
theorem dX6_at_18 : decode cX6_at 18 = .ok (.aload_n 0, 1) := by decide +kernel
theorem dX6_at_19 : decode cX6_at 19 = .ok (.iconst 1, 1) := by decide +kernel
theorem dX6_at_20 : decode cX6_at 20 = .ok (.invokevirtual 100, 3) := by decide +kernel
theorem dX6_at_23 : decode cX6_at 23 = .ok (.ireturn, 1) := by decide +kernel
theorem dX6_at_24 : decode cX6_at 24 = .ok (.iload_n 2, 1) := by decide +kernel
theorem dX6_at_25 : decode cX6_at 25 = .ok (.iconst 0, 1) := by decide +kernel
theorem dX6_at_26 : decode cX6_at 26 = .ok (.aload_n 0, 1) := by decide +kernel
theorem dX6_at_27 : decode cX6_at 27 = .ok (.getfield 17, 3) := by decide +kernel
theorem dX6_at_30 : decode cX6_at 30 = .ok (.iload_n 1, 1) := by decide +kernel
theorem dX6_at_31 : decode cX6_at 31 = .ok (.iaload, 1) := by decide +kernel
theorem dX6_at_32 : decode cX6_at 32 = .ok (.iconst 1, 1) := by decide +kernel
theorem dX6_at_33 : decode cX6_at 33 = .ok (.isub, 1) := by decide +kernel
theorem dX6_at_34 : decode cX6_at 34 = .ok (.invokestatic 86, 3) := by decide +kernel
theorem dX6_at_37 : decode cX6_at 37 = .ok (.ifCond .eq 17, 3) := by decide +kernel
theorem dX6_at_40 : decode cX6_at 40 = .ok (.aload_n 0, 1) := by decide +kernel
theorem dX6_at_41 : decode cX6_at 41 = .ok (.aload_n 0, 1) := by decide +kernel
theorem dX6_at_42 : decode cX6_at 42 = .ok (.iload_n 1, 1) := by decide +kernel
theorem dX6_at_43 : decode cX6_at 43 = .ok (.iload_n 2, 1) := by decide +kernel
theorem dX6_at_44 : decode cX6_at 44 = .ok (.invokevirtual 104, 3) := by decide +kernel
theorem dX6_at_47 : decode cX6_at 47 = .ok (.iconst 1, 1) := by decide +kernel
theorem dX6_at_48 : decode cX6_at 48 = .ok (.invokevirtual 108, 3) := by decide +kernel
theorem dX6_at_51 : decode cX6_at 51 = .ok (.goto 8, 3) := by decide +kernel
theorem dX6_at_54 : decode cX6_at 54 = .ok (.aload_n 0, 1) := by decide +kernel
theorem dX6_at_55 : decode cX6_at 55 = .ok (.iconst 2, 1) := by decide +kernel
theorem dX6_at_56 : decode cX6_at 56 = .ok (.invokevirtual 100, 3) := by decide +kernel
theorem dX6_at_59 : decode cX6_at 59 = .ok (.ireturn, 1) := by decide +kernel
theorem dX6_tear_0 : decode cX6_tear 0 = .ok (.iload_n 1, 1) := by decide +kernel
theorem dX6_tear_1 : decode cX6_tear 1 = .ok (.invokestatic 96, 3) := by decide +kernel
theorem dX6_tear_4 : decode cX6_tear 4 = .ok (.ifCond .ne 5, 3) := by decide +kernel
theorem dX6_tear_7 : decode cX6_tear 7 = .ok (.iconst (-1), 1) := by decide +kernel
theorem dX6_tear_8 : decode cX6_tear 8 = .ok (.ireturn, 1) := by decide +kernel
theorem dX6_tear_9 : decode cX6_tear 9 = .ok (.aload_n 0, 1) := by decide +kernel
theorem dX6_tear_10 : decode cX6_tear 10 = .ok (.getfield 17, 3) := by decide +kernel
theorem dX6_tear_13 : decode cX6_tear 13 = .ok (.iload_n 1, 1) := by decide +kernel
theorem dX6_tear_14 : decode cX6_tear 14 = .ok (.iaload, 1) := by decide +kernel
theorem dX6_tear_15 : decode cX6_tear 15 = .ok (.ifCond .ge 9, 3) := by decide +kernel
theorem dX6_tear_18 : decode cX6_tear 18 = .ok (.aload_n 0, 1) := by decide +kernel
theorem dX6_tear_19 : decode cX6_tear 19 = .ok (.iconst 1, 1) := by decide +kernel
theorem dX6_tear_20 : decode cX6_tear 20 = .ok (.invokevirtual 100, 3) := by decide +kernel
theorem dX6_tear_23 : decode cX6_tear 23 = .ok (.ireturn, 1) := by decide +kernel
theorem dX6_tear_24 : decode cX6_tear 24 = .ok (.aload_n 0, 1) := by decide +kernel
theorem dX6_tear_25 : decode cX6_tear 25 = .ok (.getfield 17, 3) := by decide +kernel
theorem dX6_tear_28 : decode cX6_tear 28 = .ok (.iload_n 1, 1) := by decide +kernel
theorem dX6_tear_29 : decode cX6_tear 29 = .ok (.iconst (-1), 1) := by decide +kernel
theorem dX6_tear_30 : decode cX6_tear 30 = .ok (.iastore, 1) := by decide +kernel
theorem dX6_tear_31 : decode cX6_tear 31 = .ok (.iconst 1, 1) := by decide +kernel
theorem dX6_tear_32 : decode cX6_tear 32 = .ok (.ireturn, 1) := by decide +kernel
theorem dX6_copy_0 : decode cX6_copy 0 = .ok (.iload_n 1, 1) := by decide +kernel
theorem dX6_copy_1 : decode cX6_copy 1 = .ok (.invokestatic 96, 3) := by decide +kernel
theorem dX6_copy_4 : decode cX6_copy 4 = .ok (.ifCond .eq 10, 3) := by decide +kernel
theorem dX6_copy_7 : decode cX6_copy 7 = .ok (.iload_n 3, 1) := by decide +kernel
theorem dX6_copy_8 : decode cX6_copy 8 = .ok (.invokestatic 96, 3) := by decide +kernel
theorem dX6_copy_11 : decode cX6_copy 11 = .ok (.ifCond .ne 5, 3) := by decide +kernel
theorem dX6_copy_14 : decode cX6_copy 14 = .ok (.iconst (-1), 1) := by decide +kernel
theorem dX6_copy_15 : decode cX6_copy 15 = .ok (.ireturn, 1) := by decide +kernel
theorem dX6_copy_16 : decode cX6_copy 16 = .ok (.iload 5, 2) := by decide +kernel
theorem dX6_copy_18 : decode cX6_copy 18 = .ok (.ifCond .ge 9, 3) := by decide +kernel
theorem dX6_copy_21 : decode cX6_copy 21 = .ok (.aload_n 0, 1) := by decide +kernel
theorem dX6_copy_22 : decode cX6_copy 22 = .ok (.iconst 5, 1) := by decide +kernel
theorem dX6_copy_23 : decode cX6_copy 23 = .ok (.invokevirtual 100, 3) := by decide +kernel
theorem dX6_copy_26 : decode cX6_copy 26 = .ok (.ireturn, 1) := by decide +kernel
theorem dX6_copy_27 : decode cX6_copy 27 = .ok (.aload_n 0, 1) := by decide +kernel
theorem dX6_copy_28 : decode cX6_copy 28 = .ok (.getfield 17, 3) := by decide +kernel
theorem dX6_copy_31 : decode cX6_copy 31 = .ok (.iload_n 1, 1) := by decide +kernel
theorem dX6_copy_32 : decode cX6_copy 32 = .ok (.iaload, 1) := by decide +kernel
theorem dX6_copy_33 : decode cX6_copy 33 = .ok (.ifCond .lt 12, 3) := by decide +kernel
theorem dX6_copy_36 : decode cX6_copy 36 = .ok (.aload_n 0, 1) := by decide +kernel
theorem dX6_copy_37 : decode cX6_copy 37 = .ok (.getfield 17, 3) := by decide +kernel
theorem dX6_copy_40 : decode cX6_copy 40 = .ok (.iload_n 3, 1) := by decide +kernel
theorem dX6_copy_41 : decode cX6_copy 41 = .ok (.iaload, 1) := by decide +kernel
theorem dX6_copy_42 : decode cX6_copy 42 = .ok (.ifCond .ge 9, 3) := by decide +kernel
theorem dX6_copy_45 : decode cX6_copy 45 = .ok (.aload_n 0, 1) := by decide +kernel
theorem dX6_copy_46 : decode cX6_copy 46 = .ok (.iconst 1, 1) := by decide +kernel
theorem dX6_copy_47 : decode cX6_copy 47 = .ok (.invokevirtual 100, 3) := by decide +kernel
theorem dX6_copy_50 : decode cX6_copy 50 = .ok (.ireturn, 1) := by decide +kernel
theorem dX6_copy_51 : decode cX6_copy 51 = .ok (.iload_n 2, 1) := by decide +kernel
theorem dX6_copy_52 : decode cX6_copy 52 = .ok (.ifCond .lt 43, 3) := by decide +kernel
theorem dX6_copy_55 : decode cX6_copy 55 = .ok (.iload 4, 2) := by decide +kernel
theorem dX6_copy_57 : decode cX6_copy 57 = .ok (.ifCond .lt 38, 3) := by decide +kernel
theorem dX6_copy_60 : decode cX6_copy 60 = .ok (.iload_n 2, 1) := by decide +kernel
theorem dX6_copy_61 : decode cX6_copy 61 = .ok (.i2l, 1) := by decide +kernel
theorem dX6_copy_62 : decode cX6_copy 62 = .ok (.iload 5, 2) := by decide +kernel
theorem dX6_copy_64 : decode cX6_copy 64 = .ok (.i2l, 1) := by decide +kernel
theorem dX6_copy_65 : decode cX6_copy 65 = .ok (.ladd, 1) := by decide +kernel
theorem dX6_copy_66 : decode cX6_copy 66 = .ok (.aload_n 0, 1) := by decide +kernel
theorem dX6_copy_67 : decode cX6_copy 67 = .ok (.getfield 17, 3) := by decide +kernel
theorem dX6_copy_70 : decode cX6_copy 70 = .ok (.iload_n 1, 1) := by decide +kernel
theorem dX6_copy_71 : decode cX6_copy 71 = .ok (.iaload, 1) := by decide +kernel
theorem dX6_copy_72 : decode cX6_copy 72 = .ok (.i2l, 1) := by decide +kernel
theorem dX6_copy_73 : decode cX6_copy 73 = .ok (.lcmp, 1) := by decide +kernel
theorem dX6_copy_74 : decode cX6_copy 74 = .ok (.ifCond .gt 21, 3) := by decide +kernel
theorem dX6_copy_77 : decode cX6_copy 77 = .ok (.iload 4, 2) := by decide +kernel
theorem dX6_copy_79 : decode cX6_copy 79 = .ok (.i2l, 1) := by decide +kernel
theorem dX6_copy_80 : decode cX6_copy 80 = .ok (.iload 5, 2) := by decide +kernel
theorem dX6_copy_82 : decode cX6_copy 82 = .ok (.i2l, 1) := by decide +kernel
theorem dX6_copy_83 : decode cX6_copy 83 = .ok (.ladd, 1) := by decide +kernel
theorem dX6_copy_84 : decode cX6_copy 84 = .ok (.aload_n 0, 1) := by decide +kernel
theorem dX6_copy_85 : decode cX6_copy 85 = .ok (.getfield 17, 3) := by decide +kernel
theorem dX6_copy_88 : decode cX6_copy 88 = .ok (.iload_n 3, 1) := by decide +kernel
theorem dX6_copy_89 : decode cX6_copy 89 = .ok (.iaload, 1) := by decide +kernel
theorem dX6_copy_90 : decode cX6_copy 90 = .ok (.i2l, 1) := by decide +kernel
theorem dX6_copy_91 : decode cX6_copy 91 = .ok (.lcmp, 1) := by decide +kernel
theorem dX6_copy_92 : decode cX6_copy 92 = .ok (.ifCond .le 9, 3) := by decide +kernel
theorem dX6_copy_95 : decode cX6_copy 95 = .ok (.aload_n 0, 1) := by decide +kernel
theorem dX6_copy_96 : decode cX6_copy 96 = .ok (.iconst 2, 1) := by decide +kernel
theorem dX6_copy_97 : decode cX6_copy 97 = .ok (.invokevirtual 100, 3) := by decide +kernel
theorem dX6_copy_100 : decode cX6_copy 100 = .ok (.ireturn, 1) := by decide +kernel
theorem dX6_copy_101 : decode cX6_copy 101 = .ok (.iconst 0, 1) := by decide +kernel
theorem dX6_copy_102 : decode cX6_copy 102 = .ok (.istore 6, 2) := by decide +kernel
theorem dX6_copy_104 : decode cX6_copy 104 = .ok (.iload 6, 2) := by decide +kernel
theorem dX6_copy_106 : decode cX6_copy 106 = .ok (.iload 5, 2) := by decide +kernel
theorem dX6_copy_108 : decode cX6_copy 108 = .ok (.if_icmp .ge 25, 3) := by decide +kernel
theorem dX6_copy_111 : decode cX6_copy 111 = .ok (.aload_n 0, 1) := by decide +kernel
theorem dX6_copy_112 : decode cX6_copy 112 = .ok (.getfield 23, 3) := by decide +kernel
theorem dX6_copy_115 : decode cX6_copy 115 = .ok (.iload 6, 2) := by decide +kernel
theorem dX6_copy_117 : decode cX6_copy 117 = .ok (.aload_n 0, 1) := by decide +kernel
theorem dX6_copy_118 : decode cX6_copy 118 = .ok (.iload_n 1, 1) := by decide +kernel
theorem dX6_copy_119 : decode cX6_copy 119 = .ok (.iload_n 2, 1) := by decide +kernel
theorem dX6_copy_120 : decode cX6_copy 120 = .ok (.iload 6, 2) := by decide +kernel
theorem dX6_copy_122 : decode cX6_copy 122 = .ok (.iadd, 1) := by decide +kernel
theorem dX6_copy_123 : decode cX6_copy 123 = .ok (.invokevirtual 104, 3) := by decide +kernel
theorem dX6_copy_126 : decode cX6_copy 126 = .ok (.iastore, 1) := by decide +kernel
theorem dX6_copy_127 : decode cX6_copy 127 = .ok (.iinc 6 1, 3) := by decide +kernel
theorem dX6_copy_130 : decode cX6_copy 130 = .ok (.goto (-26), 3) := by decide +kernel
theorem dX6_copy_133 : decode cX6_copy 133 = .ok (.iconst 0, 1) := by decide +kernel
theorem dX6_copy_134 : decode cX6_copy 134 = .ok (.istore 6, 2) := by decide +kernel
theorem dX6_copy_136 : decode cX6_copy 136 = .ok (.iload 6, 2) := by decide +kernel
theorem dX6_copy_138 : decode cX6_copy 138 = .ok (.iload 5, 2) := by decide +kernel
theorem dX6_copy_140 : decode cX6_copy 140 = .ok (.if_icmp .ge 31, 3) := by decide +kernel
theorem dX6_copy_143 : decode cX6_copy 143 = .ok (.aload_n 0, 1) := by decide +kernel
theorem dX6_copy_144 : decode cX6_copy 144 = .ok (.getfield 20, 3) := by decide +kernel
theorem dX6_copy_147 : decode cX6_copy 147 = .ok (.bipush 40, 2) := by decide +kernel
theorem dX6_copy_149 : decode cX6_copy 149 = .ok (.iload_n 3, 1) := by decide +kernel
theorem dX6_copy_150 : decode cX6_copy 150 = .ok (.imul, 1) := by decide +kernel
theorem dX6_copy_151 : decode cX6_copy 151 = .ok (.iload 4, 2) := by decide +kernel
theorem dX6_copy_153 : decode cX6_copy 153 = .ok (.iadd, 1) := by decide +kernel
theorem dX6_copy_154 : decode cX6_copy 154 = .ok (.iload 6, 2) := by decide +kernel
theorem dX6_copy_156 : decode cX6_copy 156 = .ok (.iadd, 1) := by decide +kernel
theorem dX6_copy_157 : decode cX6_copy 157 = .ok (.aload_n 0, 1) := by decide +kernel
theorem dX6_copy_158 : decode cX6_copy 158 = .ok (.getfield 23, 3) := by decide +kernel
theorem dX6_copy_161 : decode cX6_copy 161 = .ok (.iload 6, 2) := by decide +kernel
theorem dX6_copy_163 : decode cX6_copy 163 = .ok (.iaload, 1) := by decide +kernel
theorem dX6_copy_164 : decode cX6_copy 164 = .ok (.iastore, 1) := by decide +kernel
theorem dX6_copy_165 : decode cX6_copy 165 = .ok (.iinc 6 1, 3) := by decide +kernel
theorem dX6_copy_168 : decode cX6_copy 168 = .ok (.goto (-32), 3) := by decide +kernel
theorem dX6_copy_171 : decode cX6_copy 171 = .ok (.iconst 1, 1) := by decide +kernel
theorem dX6_copy_172 : decode cX6_copy 172 = .ok (.ireturn, 1) := by decide +kernel
theorem dX6_mean_0 : decode cX6_mean 0 = .ok (.iload_n 1, 1) := by decide +kernel
theorem dX6_mean_1 : decode cX6_mean 1 = .ok (.invokestatic 96, 3) := by decide +kernel
theorem dX6_mean_4 : decode cX6_mean 4 = .ok (.ifCond .ne 5, 3) := by decide +kernel
theorem dX6_mean_7 : decode cX6_mean 7 = .ok (.iconst (-1), 1) := by decide +kernel
theorem dX6_mean_8 : decode cX6_mean 8 = .ok (.ireturn, 1) := by decide +kernel
theorem dX6_mean_9 : decode cX6_mean 9 = .ok (.aload_n 0, 1) := by decide +kernel
theorem dX6_mean_10 : decode cX6_mean 10 = .ok (.getfield 17, 3) := by decide +kernel
theorem dX6_mean_13 : decode cX6_mean 13 = .ok (.iload_n 1, 1) := by decide +kernel
theorem dX6_mean_14 : decode cX6_mean 14 = .ok (.iaload, 1) := by decide +kernel
theorem dX6_mean_15 : decode cX6_mean 15 = .ok (.ifCond .ge 9, 3) := by decide +kernel
theorem dX6_mean_18 : decode cX6_mean 18 = .ok (.aload_n 0, 1) := by decide +kernel
