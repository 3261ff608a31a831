theorem dX6_mean_19 : decode cX6_mean 19 = .ok (.iconst 1, 1) := by decide +kernel
theorem dX6_mean_20 : decode cX6_mean 20 = .ok (.invokevirtual 100, 3) := by decide +kernel
theorem dX6_mean_23 : decode cX6_mean 23 = .ok (.ireturn, 1) := by decide +kernel
theorem dX6_mean_24 : decode cX6_mean 24 = .ok (.aload_n 0, 1) := by decide +kernel
theorem dX6_mean_25 : decode cX6_mean 25 = .ok (.getfield 17, 3) := by decide +kernel
theorem dX6_mean_28 : decode cX6_mean 28 = .ok (.iload_n 1, 1) := by decide +kernel
theorem dX6_mean_29 : decode cX6_mean 29 = .ok (.iaload, 1) := by decide +kernel
theorem dX6_mean_30 : decode cX6_mean 30 = .ok (.ifCond .ne 9, 3) := by decide +kernel
theorem dX6_mean_33 : decode cX6_mean 33 = .ok (.aload_n 0, 1) := by decide +kernel
theorem dX6_mean_34 : decode cX6_mean 34 = .ok (.iconst 4, 1) := by decide +kernel
theorem dX6_mean_35 : decode cX6_mean 35 = .ok (.invokevirtual 100, 3) := by decide +kernel
theorem dX6_mean_38 : decode cX6_mean 38 = .ok (.ireturn, 1) := by decide +kernel
theorem dX6_mean_39 : decode cX6_mean 39 = .ok (.lconst 0, 1) := by decide +kernel
theorem dX6_mean_40 : decode cX6_mean 40 = .ok (.lstore_n 2, 1) := by decide +kernel
theorem dX6_mean_41 : decode cX6_mean 41 = .ok (.iconst 0, 1) := by decide +kernel
theorem dX6_mean_42 : decode cX6_mean 42 = .ok (.istore 4, 2) := by decide +kernel
theorem dX6_mean_44 : decode cX6_mean 44 = .ok (.iload 4, 2) := by decide +kernel
theorem dX6_mean_46 : decode cX6_mean 46 = .ok (.aload_n 0, 1) := by decide +kernel
theorem dX6_mean_47 : decode cX6_mean 47 = .ok (.getfield 17, 3) := by decide +kernel
theorem dX6_mean_50 : decode cX6_mean 50 = .ok (.iload_n 1, 1) := by decide +kernel
theorem dX6_mean_51 : decode cX6_mean 51 = .ok (.iaload, 1) := by decide +kernel
theorem dX6_mean_52 : decode cX6_mean 52 = .ok (.if_icmp .ge 20, 3) := by decide +kernel
theorem dX6_mean_55 : decode cX6_mean 55 = .ok (.lload_n 2, 1) := by decide +kernel
theorem dX6_mean_56 : decode cX6_mean 56 = .ok (.aload_n 0, 1) := by decide +kernel
theorem dX6_mean_57 : decode cX6_mean 57 = .ok (.iload_n 1, 1) := by decide +kernel
theorem dX6_mean_58 : decode cX6_mean 58 = .ok (.iload 4, 2) := by decide +kernel
theorem dX6_mean_60 : decode cX6_mean 60 = .ok (.invokevirtual 104, 3) := by decide +kernel
theorem dX6_mean_63 : decode cX6_mean 63 = .ok (.i2l, 1) := by decide +kernel
theorem dX6_mean_64 : decode cX6_mean 64 = .ok (.ladd, 1) := by decide +kernel
theorem dX6_mean_65 : decode cX6_mean 65 = .ok (.lstore_n 2, 1) := by decide +kernel
theorem dX6_mean_66 : decode cX6_mean 66 = .ok (.iinc 4 1, 3) := by decide +kernel
theorem dX6_mean_69 : decode cX6_mean 69 = .ok (.goto (-25), 3) := by decide +kernel
theorem dX6_mean_72 : decode cX6_mean 72 = .ok (.aload_n 0, 1) := by decide +kernel
theorem dX6_mean_73 : decode cX6_mean 73 = .ok (.lload_n 2, 1) := by decide +kernel
theorem dX6_mean_74 : decode cX6_mean 74 = .ok (.aload_n 0, 1) := by decide +kernel
theorem dX6_mean_75 : decode cX6_mean 75 = .ok (.getfield 17, 3) := by decide +kernel
theorem dX6_mean_78 : decode cX6_mean 78 = .ok (.iload_n 1, 1) := by decide +kernel
theorem dX6_mean_79 : decode cX6_mean 79 = .ok (.iaload, 1) := by decide +kernel
theorem dX6_mean_80 : decode cX6_mean 80 = .ok (.i2l, 1) := by decide +kernel
theorem dX6_mean_81 : decode cX6_mean 81 = .ok (.ldiv, 1) := by decide +kernel
theorem dX6_mean_82 : decode cX6_mean 82 = .ok (.l2i, 1) := by decide +kernel
theorem dX6_mean_83 : decode cX6_mean 83 = .ok (.iconst 1, 1) := by decide +kernel
theorem dX6_mean_84 : decode cX6_mean 84 = .ok (.invokevirtual 108, 3) := by decide +kernel
theorem dX6_mean_87 : decode cX6_mean 87 = .ok (.ireturn, 1) := by decide +kernel
theorem dX6_isText_0 : decode cX6_isText 0 = .ok (.iload_n 0, 1) := by decide +kernel
theorem dX6_isText_1 : decode cX6_isText 1 = .ok (.iconst 0, 1) := by decide +kernel
theorem dX6_isText_2 : decode cX6_isText 2 = .ok (.iconst 3, 1) := by decide +kernel
theorem dX6_isText_3 : decode cX6_isText 3 = .ok (.invokestatic 86, 3) := by decide +kernel
theorem dX6_isText_6 : decode cX6_isText 6 = .ok (.ireturn, 1) := by decide +kernel
theorem dX6_text_0 : decode cX6_text 0 = .ok (.iload_n 1, 1) := by decide +kernel
theorem dX6_text_1 : decode cX6_text 1 = .ok (.invokestatic 111, 3) := by decide +kernel
theorem dX6_text_4 : decode cX6_text 4 = .ok (.ifCond .eq 9, 3) := by decide +kernel
theorem dX6_text_7 : decode cX6_text 7 = .ok (.iload_n 2, 1) := by decide +kernel
theorem dX6_text_8 : decode cX6_text 8 = .ok (.bipush 60, 2) := by decide +kernel
theorem dX6_text_10 : decode cX6_text 10 = .ok (.if_icmp .le 5, 3) := by decide +kernel
theorem dX6_text_13 : decode cX6_text 13 = .ok (.iconst (-1), 1) := by decide +kernel
theorem dX6_text_14 : decode cX6_text 14 = .ok (.ireturn, 1) := by decide +kernel
theorem dX6_text_15 : decode cX6_text 15 = .ok (.iload_n 2, 1) := by decide +kernel
theorem dX6_text_16 : decode cX6_text 16 = .ok (.ifCond .ge 9, 3) := by decide +kernel
theorem dX6_text_19 : decode cX6_text 19 = .ok (.aload_n 0, 1) := by decide +kernel
theorem dX6_text_20 : decode cX6_text 20 = .ok (.iconst 5, 1) := by decide +kernel
theorem dX6_text_21 : decode cX6_text 21 = .ok (.invokevirtual 100, 3) := by decide +kernel
theorem dX6_text_24 : decode cX6_text 24 = .ok (.ireturn, 1) := by decide +kernel
theorem dX6_text_25 : decode cX6_text 25 = .ok (.aload_n 0, 1) := by decide +kernel
theorem dX6_text_26 : decode cX6_text 26 = .ok (.getfield 26, 3) := by decide +kernel
theorem dX6_text_29 : decode cX6_text 29 = .ok (.iload_n 1, 1) := by decide +kernel
theorem dX6_text_30 : decode cX6_text 30 = .ok (.iload_n 2, 1) := by decide +kernel
theorem dX6_text_31 : decode cX6_text 31 = .ok (.iastore, 1) := by decide +kernel
theorem dX6_text_32 : decode cX6_text 32 = .ok (.iconst 0, 1) := by decide +kernel
theorem dX6_text_33 : decode cX6_text 33 = .ok (.istore_n 3, 1) := by decide +kernel
theorem dX6_text_34 : decode cX6_text 34 = .ok (.iload_n 3, 1) := by decide +kernel
theorem dX6_text_35 : decode cX6_text 35 = .ok (.bipush 60, 2) := by decide +kernel
theorem dX6_text_37 : decode cX6_text 37 = .ok (.if_icmp .ge 22, 3) := by decide +kernel
theorem dX6_text_40 : decode cX6_text 40 = .ok (.aload_n 0, 1) := by decide +kernel
theorem dX6_text_41 : decode cX6_text 41 = .ok (.getfield 29, 3) := by decide +kernel
theorem dX6_text_44 : decode cX6_text 44 = .ok (.bipush 60, 2) := by decide +kernel
theorem dX6_text_46 : decode cX6_text 46 = .ok (.iload_n 1, 1) := by decide +kernel
theorem dX6_text_47 : decode cX6_text 47 = .ok (.imul, 1) := by decide +kernel
theorem dX6_text_48 : decode cX6_text 48 = .ok (.iload_n 3, 1) := by decide +kernel
theorem dX6_text_49 : decode cX6_text 49 = .ok (.iadd, 1) := by decide +kernel
theorem dX6_text_50 : decode cX6_text 50 = .ok (.bipush 32, 2) := by decide +kernel
theorem dX6_text_52 : decode cX6_text 52 = .ok (.bastore, 1) := by decide +kernel
theorem dX6_text_53 : decode cX6_text 53 = .ok (.iinc 3 1, 3) := by decide +kernel
theorem dX6_text_56 : decode cX6_text 56 = .ok (.goto (-22), 3) := by decide +kernel
theorem dX6_text_59 : decode cX6_text 59 = .ok (.iload_n 2, 1) := by decide +kernel
theorem dX6_text_60 : decode cX6_text 60 = .ok (.ireturn, 1) := by decide +kernel
theorem dX6_put_0 : decode cX6_put 0 = .ok (.iload_n 1, 1) := by decide +kernel
theorem dX6_put_1 : decode cX6_put 1 = .ok (.invokestatic 111, 3) := by decide +kernel
theorem dX6_put_4 : decode cX6_put 4 = .ok (.ifCond .ne 5, 3) := by decide +kernel
theorem dX6_put_7 : decode cX6_put 7 = .ok (.iconst (-1), 1) := by decide +kernel
theorem dX6_put_8 : decode cX6_put 8 = .ok (.ireturn, 1) := by decide +kernel
theorem dX6_put_9 : decode cX6_put 9 = .ok (.aload_n 0, 1) := by decide +kernel
theorem dX6_put_10 : decode cX6_put 10 = .ok (.getfield 26, 3) := by decide +kernel
theorem dX6_put_13 : decode cX6_put 13 = .ok (.iload_n 1, 1) := by decide +kernel
theorem dX6_put_14 : decode cX6_put 14 = .ok (.iaload, 1) := by decide +kernel
theorem dX6_put_15 : decode cX6_put 15 = .ok (.ifCond .ge 9, 3) := by decide +kernel
theorem dX6_put_18 : decode cX6_put 18 = .ok (.aload_n 0, 1) := by decide +kernel
theorem dX6_put_19 : decode cX6_put 19 = .ok (.iconst 1, 1) := by decide +kernel
theorem dX6_put_20 : decode cX6_put 20 = .ok (.invokevirtual 100, 3) := by decide +kernel
theorem dX6_put_23 : decode cX6_put 23 = .ok (.ireturn, 1) := by decide +kernel
theorem dX6_put_24 : decode cX6_put 24 = .ok (.iload_n 2, 1) := by decide +kernel
theorem dX6_put_25 : decode cX6_put 25 = .ok (.iconst 0, 1) := by decide +kernel
theorem dX6_put_26 : decode cX6_put 26 = .ok (.aload_n 0, 1) := by decide +kernel
theorem dX6_put_27 : decode cX6_put 27 = .ok (.getfield 26, 3) := by decide +kernel
theorem dX6_put_30 : decode cX6_put 30 = .ok (.iload_n 1, 1) := by decide +kernel
theorem dX6_put_31 : decode cX6_put 31 = .ok (.iaload, 1) := by decide +kernel
theorem dX6_put_32 : decode cX6_put 32 = .ok (.iconst 1, 1) := by decide +kernel
theorem dX6_put_33 : decode cX6_put 33 = .ok (.isub, 1) := by decide +kernel
theorem dX6_put_34 : decode cX6_put 34 = .ok (.invokestatic 86, 3) := by decide +kernel
theorem dX6_put_37 : decode cX6_put 37 = .ok (.ifCond .ne 9, 3) := by decide +kernel
theorem dX6_put_40 : decode cX6_put 40 = .ok (.aload_n 0, 1) := by decide +kernel
theorem dX6_put_41 : decode cX6_put 41 = .ok (.iconst 2, 1) := by decide +kernel
theorem dX6_put_42 : decode cX6_put 42 = .ok (.invokevirtual 100, 3) := by decide +kernel
theorem dX6_put_45 : decode cX6_put 45 = .ok (.ireturn, 1) := by decide +kernel
theorem dX6_put_46 : decode cX6_put 46 = .ok (.aload_n 0, 1) := by decide +kernel
theorem dX6_put_47 : decode cX6_put 47 = .ok (.getfield 29, 3) := by decide +kernel
theorem dX6_put_50 : decode cX6_put 50 = .ok (.bipush 60, 2) := by decide +kernel
theorem dX6_put_52 : decode cX6_put 52 = .ok (.iload_n 1, 1) := by decide +kernel
theorem dX6_put_53 : decode cX6_put 53 = .ok (.imul, 1) := by decide +kernel
theorem dX6_put_54 : decode cX6_put 54 = .ok (.iload_n 2, 1) := by decide +kernel
theorem dX6_put_55 : decode cX6_put 55 = .ok (.iadd, 1) := by decide +kernel
theorem dX6_put_56 : decode cX6_put 56 = .ok (.baload, 1) := by decide +kernel
theorem dX6_put_57 : decode cX6_put 57 = .ok (.istore 4, 2) := by decide +kernel
theorem dX6_put_59 : decode cX6_put 59 = .ok (.aload_n 0, 1) := by decide +kernel
theorem dX6_put_60 : decode cX6_put 60 = .ok (.getfield 29, 3) := by decide +kernel
theorem dX6_put_63 : decode cX6_put 63 = .ok (.bipush 60, 2) := by decide +kernel
theorem dX6_put_65 : decode cX6_put 65 = .ok (.iload_n 1, 1) := by decide +kernel
theorem dX6_put_66 : decode cX6_put 66 = .ok (.imul, 1) := by decide +kernel
theorem dX6_put_67 : decode cX6_put 67 = .ok (.iload_n 2, 1) := by decide +kernel
theorem dX6_put_68 : decode cX6_put 68 = .ok (.iadd, 1) := by decide +kernel
theorem dX6_put_69 : decode cX6_put 69 = .ok (.iload_n 3, 1) := by decide +kernel
theorem dX6_put_70 : decode cX6_put 70 = .ok (.i2b, 1) := by decide +kernel
theorem dX6_put_71 : decode cX6_put 71 = .ok (.bastore, 1) := by decide +kernel
theorem dX6_put_72 : decode cX6_put 72 = .ok (.sipush 1000, 3) := by decide +kernel
theorem dX6_put_75 : decode cX6_put 75 = .ok (.iload 4, 2) := by decide +kernel
theorem dX6_put_77 : decode cX6_put 77 = .ok (.iadd, 1) := by decide +kernel
theorem dX6_put_78 : decode cX6_put 78 = .ok (.ireturn, 1) := by decide +kernel
theorem dX6_byteAt_0 : decode cX6_byteAt 0 = .ok (.iload_n 2, 1) := by decide +kernel
theorem dX6_byteAt_1 : decode cX6_byteAt 1 = .ok (.aload_n 0, 1) := by decide +kernel
theorem dX6_byteAt_2 : decode cX6_byteAt 2 = .ok (.getfield 26, 3) := by decide +kernel
theorem dX6_byteAt_5 : decode cX6_byteAt 5 = .ok (.iload_n 1, 1) := by decide +kernel
theorem dX6_byteAt_6 : decode cX6_byteAt 6 = .ok (.iaload, 1) := by decide +kernel
theorem dX6_byteAt_7 : decode cX6_byteAt 7 = .ok (.if_icmp .ge 17, 3) := by decide +kernel
theorem dX6_byteAt_10 : decode cX6_byteAt 10 = .ok (.aload_n 0, 1) := by decide +kernel
theorem dX6_byteAt_11 : decode cX6_byteAt 11 = .ok (.getfield 29, 3) := by decide +kernel
theorem dX6_byteAt_14 : decode cX6_byteAt 14 = .ok (.bipush 60, 2) := by decide +kernel
theorem dX6_byteAt_16 : decode cX6_byteAt 16 = .ok (.iload_n 1, 1) := by decide +kernel
theorem dX6_byteAt_17 : decode cX6_byteAt 17 = .ok (.imul, 1) := by decide +kernel
theorem dX6_byteAt_18 : decode cX6_byteAt 18 = .ok (.iload_n 2, 1) := by decide +kernel
theorem dX6_byteAt_19 : decode cX6_byteAt 19 = .ok (.iadd, 1) := by decide +kernel
theorem dX6_byteAt_20 : decode cX6_byteAt 20 = .ok (.baload, 1) := by decide +kernel
theorem dX6_byteAt_21 : decode cX6_byteAt 21 = .ok (.goto 4, 3) := by decide +kernel
theorem dX6_byteAt_24 : decode cX6_byteAt 24 = .ok (.iconst 0, 1) := by decide +kernel
theorem dX6_byteAt_25 : decode cX6_byteAt 25 = .ok (.ireturn, 1) := by decide +kernel
theorem dX6_layRow_0 : decode cX6_layRow 0 = .ok (.aload_n 0, 1) := by decide +kernel
theorem dX6_layRow_1 : decode cX6_layRow 1 = .ok (.getfield 17, 3) := by decide +kernel
theorem dX6_layRow_4 : decode cX6_layRow 4 = .ok (.iload_n 1, 1) := by decide +kernel
theorem dX6_layRow_5 : decode cX6_layRow 5 = .ok (.iload_n 3, 1) := by decide +kernel
theorem dX6_layRow_6 : decode cX6_layRow 6 = .ok (.iastore, 1) := by decide +kernel
theorem dX6_layRow_7 : decode cX6_layRow 7 = .ok (.iconst 0, 1) := by decide +kernel
theorem dX6_layRow_8 : decode cX6_layRow 8 = .ok (.istore 4, 2) := by decide +kernel
theorem dX6_layRow_10 : decode cX6_layRow 10 = .ok (.iload 4, 2) := by decide +kernel
theorem dX6_layRow_12 : decode cX6_layRow 12 = .ok (.bipush 40, 2) := by decide +kernel
theorem dX6_layRow_14 : decode cX6_layRow 14 = .ok (.if_icmp .ge 35, 3) := by decide +kernel
theorem dX6_layRow_17 : decode cX6_layRow 17 = .ok (.aload_n 0, 1) := by decide +kernel
theorem dX6_layRow_18 : decode cX6_layRow 18 = .ok (.getfield 20, 3) := by decide +kernel
theorem dX6_layRow_21 : decode cX6_layRow 21 = .ok (.bipush 40, 2) := by decide +kernel
theorem dX6_layRow_23 : decode cX6_layRow 23 = .ok (.iload_n 1, 1) := by decide +kernel
theorem dX6_layRow_24 : decode cX6_layRow 24 = .ok (.imul, 1) := by decide +kernel
theorem dX6_layRow_25 : decode cX6_layRow 25 = .ok (.iload 4, 2) := by decide +kernel
theorem dX6_layRow_27 : decode cX6_layRow 27 = .ok (.iadd, 1) := by decide +kernel
theorem dX6_layRow_28 : decode cX6_layRow 28 = .ok (.iload 4, 2) := by decide +kernel
theorem dX6_layRow_30 : decode cX6_layRow 30 = .ok (.iload_n 3, 1) := by decide +kernel
theorem dX6_layRow_31 : decode cX6_layRow 31 = .ok (.if_icmp .ge 10, 3) := by decide +kernel
theorem dX6_layRow_34 : decode cX6_layRow 34 = .ok (.aload_n 2, 1) := by decide +kernel
theorem dX6_layRow_35 : decode cX6_layRow 35 = .ok (.iload 4, 2) := by decide +kernel
theorem dX6_layRow_37 : decode cX6_layRow 37 = .ok (.iaload, 1) := by decide +kernel
theorem dX6_layRow_38 : decode cX6_layRow 38 = .ok (.goto 4, 3) := by decide +kernel
theorem dX6_layRow_41 : decode cX6_layRow 41 = .ok (.iconst 0, 1) := by decide +kernel
theorem dX6_layRow_42 : decode cX6_layRow 42 = .ok (.iastore, 1) := by decide +kernel
theorem dX6_layRow_43 : decode cX6_layRow 43 = .ok (.iinc 4 1, 3) := by decide +kernel
theorem dX6_layRow_46 : decode cX6_layRow 46 = .ok (.goto (-36), 3) := by decide +kernel
theorem dX6_layRow_49 : decode cX6_layRow 49 = .ok (.return_, 1) := by decide +kernel
theorem dX6_kindOf_0 : decode cX6_kindOf 0 = .ok (.iload_n 0, 1) := by decide +kernel
theorem dX6_kindOf_1 : decode cX6_kindOf 1 = .ok (.tableswitch 95 100 116 #[89, 95, 95, 95, 95, 95, 95, 95, 85, 87, 95, 95, 83, 95, 95, 91, 93], 83) := by decide +kernel
theorem dX6_kindOf_84 : decode cX6_kindOf 84 = .ok (.iconst 0, 1) := by decide +kernel
theorem dX6_kindOf_85 : decode cX6_kindOf 85 = .ok (.ireturn, 1) := by decide +kernel
theorem dX6_kindOf_86 : decode cX6_kindOf 86 = .ok (.iconst 1, 1) := by decide +kernel
theorem dX6_kindOf_87 : decode cX6_kindOf 87 = .ok (.ireturn, 1) := by decide +kernel
theorem dX6_kindOf_88 : decode cX6_kindOf 88 = .ok (.iconst 2, 1) := by decide +kernel
theorem dX6_kindOf_89 : decode cX6_kindOf 89 = .ok (.ireturn, 1) := by decide +kernel
theorem dX6_kindOf_90 : decode cX6_kindOf 90 = .ok (.iconst 3, 1) := by decide +kernel
theorem dX6_kindOf_91 : decode cX6_kindOf 91 = .ok (.ireturn, 1) := by decide +kernel
theorem dX6_kindOf_92 : decode cX6_kindOf 92 = .ok (.iconst 4, 1) := by decide +kernel
theorem dX6_kindOf_93 : decode cX6_kindOf 93 = .ok (.ireturn, 1) := by decide +kernel
theorem dX6_kindOf_94 : decode cX6_kindOf 94 = .ok (.iconst 5, 1) := by decide +kernel
theorem dX6_kindOf_95 : decode cX6_kindOf 95 = .ok (.ireturn, 1) := by decide +kernel
theorem dX6_kindOf_96 : decode cX6_kindOf 96 = .ok (.bipush (-9), 2) := by decide +kernel
theorem dX6_kindOf_98 : decode cX6_kindOf 98 = .ok (.ireturn, 1) := by decide +kernel
theorem dX6_readsPair_0 : decode cX6_readsPair 0 = .ok (.aload_n 0, 1) := by decide +kernel
theorem dX6_readsPair_1 : decode cX6_readsPair 1 = .ok (.getfield 114, 3) := by decide +kernel
theorem dX6_readsPair_4 : decode cX6_readsPair 4 = .ok (.ifCond .ne 5, 3) := by decide +kernel
theorem dX6_readsPair_7 : decode cX6_readsPair 7 = .ok (.iconst 0, 1) := by decide +kernel
theorem dX6_readsPair_8 : decode cX6_readsPair 8 = .ok (.ireturn, 1) := by decide +kernel
theorem dX6_readsPair_9 : decode cX6_readsPair 9 = .ok (.aload_n 0, 1) := by decide +kernel
theorem dX6_readsPair_10 : decode cX6_readsPair 10 = .ok (.dup, 1) := by decide +kernel
theorem dX6_readsPair_11 : decode cX6_readsPair 11 = .ok (.getfield 117, 3) := by decide +kernel
theorem dX6_readsPair_14 : decode cX6_readsPair 14 = .ok (.iconst 1, 1) := by decide +kernel
theorem dX6_readsPair_15 : decode cX6_readsPair 15 = .ok (.iadd, 1) := by decide +kernel
theorem dX6_readsPair_16 : decode cX6_readsPair 16 = .ok (.putfield 117, 3) := by decide +kernel
theorem dX6_readsPair_19 : decode cX6_readsPair 19 = .ok (.aload_n 0, 1) := by decide +kernel
theorem dX6_readsPair_20 : decode cX6_readsPair 20 = .ok (.iload_n 1, 1) := by decide +kernel
theorem dX6_readsPair_21 : decode cX6_readsPair 21 = .ok (.aload_n 0, 1) := by decide +kernel
theorem dX6_readsPair_22 : decode cX6_readsPair 22 = .ok (.getfield 117, 3) := by decide +kernel
theorem dX6_readsPair_25 : decode cX6_readsPair 25 = .ok (.invokevirtual 120, 3) := by decide +kernel
theorem dX6_readsPair_28 : decode cX6_readsPair 28 = .ok (.bipush 48, 2) := by decide +kernel
theorem dX6_readsPair_30 : decode cX6_readsPair 30 = .ok (.isub, 1) := by decide +kernel
theorem dX6_readsPair_31 : decode cX6_readsPair 31 = .ok (.istore_n 3, 1) := by decide +kernel
theorem dX6_readsPair_32 : decode cX6_readsPair 32 = .ok (.iload_n 3, 1) := by decide +kernel
theorem dX6_readsPair_33 : decode cX6_readsPair 33 = .ok (.iconst 0, 1) := by decide +kernel
theorem dX6_readsPair_34 : decode cX6_readsPair 34 = .ok (.aload_n 0, 1) := by decide +kernel
theorem dX6_readsPair_35 : decode cX6_readsPair 35 = .ok (.getfield 114, 3) := by decide +kernel
theorem dX6_readsPair_38 : decode cX6_readsPair 38 = .ok (.iconst 1, 1) := by decide +kernel
theorem dX6_readsPair_39 : decode cX6_readsPair 39 = .ok (.isub, 1) := by decide +kernel
theorem dX6_readsPair_40 : decode cX6_readsPair 40 = .ok (.invokestatic 86, 3) := by decide +kernel
theorem dX6_readsPair_43 : decode cX6_readsPair 43 = .ok (.ifCond .ne 5, 3) := by decide +kernel
theorem dX6_readsPair_46 : decode cX6_readsPair 46 = .ok (.iconst 0, 1) := by decide +kernel
theorem dX6_readsPair_47 : decode cX6_readsPair 47 = .ok (.ireturn, 1) := by decide +kernel
theorem dX6_readsPair_48 : decode cX6_readsPair 48 = .ok (.aload_n 0, 1) := by decide +kernel
theorem dX6_readsPair_49 : decode cX6_readsPair 49 = .ok (.dup, 1) := by decide +kernel
theorem dX6_readsPair_50 : decode cX6_readsPair 50 = .ok (.getfield 117, 3) := by decide +kernel
theorem dX6_readsPair_53 : decode cX6_readsPair 53 = .ok (.iconst 1, 1) := by decide +kernel
theorem dX6_readsPair_54 : decode cX6_readsPair 54 = .ok (.iadd, 1) := by decide +kernel
theorem dX6_readsPair_55 : decode cX6_readsPair 55 = .ok (.putfield 117, 3) := by decide +kernel
theorem dX6_readsPair_58 : decode cX6_readsPair 58 = .ok (.aload_n 0, 1) := by decide +kernel
theorem dX6_readsPair_59 : decode cX6_readsPair 59 = .ok (.iload_n 1, 1) := by decide +kernel
theorem dX6_readsPair_60 : decode cX6_readsPair 60 = .ok (.aload_n 0, 1) := by decide +kernel
theorem dX6_readsPair_61 : decode cX6_readsPair 61 = .ok (.getfield 117, 3) := by decide +kernel
theorem dX6_readsPair_64 : decode cX6_readsPair 64 = .ok (.invokevirtual 120, 3) := by decide +kernel
theorem dX6_readsPair_67 : decode cX6_readsPair 67 = .ok (.bipush 48, 2) := by decide +kernel
theorem dX6_readsPair_69 : decode cX6_readsPair 69 = .ok (.isub, 1) := by decide +kernel
theorem dX6_readsPair_70 : decode cX6_readsPair 70 = .ok (.istore 4, 2) := by decide +kernel
theorem dX6_readsPair_72 : decode cX6_readsPair 72 = .ok (.iload 4, 2) := by decide +kernel
theorem dX6_readsPair_74 : decode cX6_readsPair 74 = .ok (.iconst 0, 1) := by decide +kernel
theorem dX6_readsPair_75 : decode cX6_readsPair 75 = .ok (.aload_n 0, 1) := by decide +kernel
theorem dX6_readsPair_76 : decode cX6_readsPair 76 = .ok (.getfield 114, 3) := by decide +kernel
theorem dX6_readsPair_79 : decode cX6_readsPair 79 = .ok (.iconst 1, 1) := by decide +kernel
theorem dX6_readsPair_80 : decode cX6_readsPair 80 = .ok (.isub, 1) := by decide +kernel
theorem dX6_readsPair_81 : decode cX6_readsPair 81 = .ok (.invokestatic 86, 3) := by decide +kernel
theorem dX6_readsPair_84 : decode cX6_readsPair 84 = .ok (.ifCond .eq 20, 3) := by decide +kernel
theorem dX6_readsPair_87 : decode cX6_readsPair 87 = .ok (.iload_n 3, 1) := by decide +kernel
theorem dX6_readsPair_88 : decode cX6_readsPair 88 = .ok (.iload 4, 2) := by decide +kernel
theorem dX6_readsPair_90 : decode cX6_readsPair 90 = .ok (.if_icmp .eq 14, 3) := by decide +kernel
theorem dX6_readsPair_93 : decode cX6_readsPair 93 = .ok (.aload_n 2, 1) := by decide +kernel
theorem dX6_readsPair_94 : decode cX6_readsPair 94 = .ok (.iload_n 3, 1) := by decide +kernel
theorem dX6_readsPair_95 : decode cX6_readsPair 95 = .ok (.iaload, 1) := by decide +kernel
theorem dX6_readsPair_96 : decode cX6_readsPair 96 = .ok (.iload 4, 2) := by decide +kernel
theorem dX6_readsPair_98 : decode cX6_readsPair 98 = .ok (.invokestatic 123, 3) := by decide +kernel
theorem dX6_readsPair_101 : decode cX6_readsPair 101 = .ok (.ifCond .eq 5, 3) := by decide +kernel
theorem dX6_readsPair_104 : decode cX6_readsPair 104 = .ok (.iconst 0, 1) := by decide +kernel
theorem dX6_readsPair_105 : decode cX6_readsPair 105 = .ok (.ireturn, 1) := by decide +kernel
theorem dX6_readsPair_106 : decode cX6_readsPair 106 = .ok (.aload_n 0, 1) := by decide +kernel
theorem dX6_readsPair_107 : decode cX6_readsPair 107 = .ok (.dup, 1) := by decide +kernel
theorem dX6_readsPair_108 : decode cX6_readsPair 108 = .ok (.getfield 117, 3) := by decide +kernel
theorem dX6_readsPair_111 : decode cX6_readsPair 111 = .ok (.iconst 1, 1) := by decide +kernel
theorem dX6_readsPair_112 : decode cX6_readsPair 112 = .ok (.iadd, 1) := by decide +kernel
theorem dX6_readsPair_113 : decode cX6_readsPair 113 = .ok (.putfield 117, 3) := by decide +kernel
theorem dX6_readsPair_116 : decode cX6_readsPair 116 = .ok (.aload_n 2, 1) := by decide +kernel
theorem dX6_readsPair_117 : decode cX6_readsPair 117 = .ok (.iload_n 3, 1) := by decide +kernel
theorem dX6_readsPair_118 : decode cX6_readsPair 118 = .ok (.dup2, 1) := by decide +kernel
theorem dX6_readsPair_119 : decode cX6_readsPair 119 = .ok (.iaload, 1) := by decide +kernel
theorem dX6_readsPair_120 : decode cX6_readsPair 120 = .ok (.iconst 1, 1) := by decide +kernel
theorem dX6_readsPair_121 : decode cX6_readsPair 121 = .ok (.iload 4, 2) := by decide +kernel
theorem dX6_readsPair_123 : decode cX6_readsPair 123 = .ok (.ishl, 1) := by decide +kernel
theorem dX6_readsPair_124 : decode cX6_readsPair 124 = .ok (.ior, 1) := by decide +kernel
theorem dX6_readsPair_125 : decode cX6_readsPair 125 = .ok (.iastore, 1) := by decide +kernel
theorem dX6_readsPair_126 : decode cX6_readsPair 126 = .ok (.aload_n 2, 1) := by decide +kernel
theorem dX6_readsPair_127 : decode cX6_readsPair 127 = .ok (.iload 4, 2) := by decide +kernel
theorem dX6_readsPair_129 : decode cX6_readsPair 129 = .ok (.dup2, 1) := by decide +kernel
theorem dX6_readsPair_130 : decode cX6_readsPair 130 = .ok (.iaload, 1) := by decide +kernel
theorem dX6_readsPair_131 : decode cX6_readsPair 131 = .ok (.iconst 1, 1) := by decide +kernel
theorem dX6_readsPair_132 : decode cX6_readsPair 132 = .ok (.iload_n 3, 1) := by decide +kernel
theorem dX6_readsPair_133 : decode cX6_readsPair 133 = .ok (.ishl, 1) := by decide +kernel
theorem dX6_readsPair_134 : decode cX6_readsPair 134 = .ok (.ior, 1) := by decide +kernel
theorem dX6_readsPair_135 : decode cX6_readsPair 135 = .ok (.iastore, 1) := by decide +kernel
theorem dX6_readsPair_136 : decode cX6_readsPair 136 = .ok (.aload_n 0, 1) := by decide +kernel
theorem dX6_readsPair_137 : decode cX6_readsPair 137 = .ok (.iconst 1, 1) := by decide +kernel
theorem dX6_readsPair_138 : decode cX6_readsPair 138 = .ok (.putfield 127, 3) := by decide +kernel
theorem dX6_readsPair_141 : decode cX6_readsPair 141 = .ok (.iconst 1, 1) := by decide +kernel
theorem dX6_readsPair_142 : decode cX6_readsPair 142 = .ok (.ireturn, 1) := by decide +kernel
theorem dX6_readsPerson_0 : decode cX6_readsPerson 0 = .ok (.aload_n 0, 1) := by decide +kernel
theorem dX6_readsPerson_1 : decode cX6_readsPerson 1 = .ok (.iload_n 1, 1) := by decide +kernel
theorem dX6_readsPerson_2 : decode cX6_readsPerson 2 = .ok (.aload_n 0, 1) := by decide +kernel
theorem dX6_readsPerson_3 : decode cX6_readsPerson 3 = .ok (.getfield 117, 3) := by decide +kernel
theorem dX6_readsPerson_6 : decode cX6_readsPerson 6 = .ok (.invokevirtual 120, 3) := by decide +kernel
theorem dX6_readsPerson_9 : decode cX6_readsPerson 9 = .ok (.invokestatic 131, 3) := by decide +kernel
theorem dX6_readsPerson_12 : decode cX6_readsPerson 12 = .ok (.istore_n 2, 1) := by decide +kernel
theorem dX6_readsPerson_13 : decode cX6_readsPerson 13 = .ok (.iload_n 2, 1) := by decide +kernel
theorem dX6_readsPerson_14 : decode cX6_readsPerson 14 = .ok (.bipush (-9), 2) := by decide +kernel
theorem dX6_readsPerson_16 : decode cX6_readsPerson 16 = .ok (.if_icmp .eq 19, 3) := by decide +kernel
theorem dX6_readsPerson_19 : decode cX6_readsPerson 19 = .ok (.aload_n 0, 1) := by decide +kernel
theorem dX6_readsPerson_20 : decode cX6_readsPerson 20 = .ok (.getfield 127, 3) := by decide +kernel
theorem dX6_readsPerson_23 : decode cX6_readsPerson 23 = .ok (.ifCond .ne 12, 3) := by decide +kernel
theorem dX6_readsPerson_26 : decode cX6_readsPerson 26 = .ok (.aload_n 0, 1) := by decide +kernel
theorem dX6_readsPerson_27 : decode cX6_readsPerson 27 = .ok (.getfield 114, 3) := by decide +kernel
theorem dX6_readsPerson_30 : decode cX6_readsPerson 30 = .ok (.bipush 6, 2) := by decide +kernel
theorem dX6_readsPerson_32 : decode cX6_readsPerson 32 = .ok (.if_icmp .ne 5, 3) := by decide +kernel
theorem dX6_readsPerson_35 : decode cX6_readsPerson 35 = .ok (.iconst 0, 1) := by decide +kernel
theorem dX6_readsPerson_36 : decode cX6_readsPerson 36 = .ok (.ireturn, 1) := by decide +kernel
theorem dX6_readsPerson_37 : decode cX6_readsPerson 37 = .ok (.aload_n 0, 1) := by decide +kernel
theorem dX6_readsPerson_38 : decode cX6_readsPerson 38 = .ok (.dup, 1) := by decide +kernel
theorem dX6_readsPerson_39 : decode cX6_readsPerson 39 = .ok (.getfield 117, 3) := by decide +kernel
theorem dX6_readsPerson_42 : decode cX6_readsPerson 42 = .ok (.iconst 1, 1) := by decide +kernel
theorem dX6_readsPerson_43 : decode cX6_readsPerson 43 = .ok (.iadd, 1) := by decide +kernel
theorem dX6_readsPerson_44 : decode cX6_readsPerson 44 = .ok (.putfield 117, 3) := by decide +kernel
theorem dX6_readsPerson_47 : decode cX6_readsPerson 47 = .ok (.aload_n 0, 1) := by decide +kernel
theorem dX6_readsPerson_48 : decode cX6_readsPerson 48 = .ok (.getfield 39, 3) := by decide +kernel
theorem dX6_readsPerson_51 : decode cX6_readsPerson 51 = .ok (.aload_n 0, 1) := by decide +kernel
theorem dX6_readsPerson_52 : decode cX6_readsPerson 52 = .ok (.getfield 114, 3) := by decide +kernel
theorem dX6_readsPerson_55 : decode cX6_readsPerson 55 = .ok (.iload_n 2, 1) := by decide +kernel
theorem dX6_readsPerson_56 : decode cX6_readsPerson 56 = .ok (.iastore, 1) := by decide +kernel
theorem dX6_readsPerson_57 : decode cX6_readsPerson 57 = .ok (.aload_n 0, 1) := by decide +kernel
theorem dX6_readsPerson_58 : decode cX6_readsPerson 58 = .ok (.dup, 1) := by decide +kernel
theorem dX6_readsPerson_59 : decode cX6_readsPerson 59 = .ok (.getfield 114, 3) := by decide +kernel
theorem dX6_readsPerson_62 : decode cX6_readsPerson 62 = .ok (.iconst 1, 1) := by decide +kernel
theorem dX6_readsPerson_63 : decode cX6_readsPerson 63 = .ok (.iadd, 1) := by decide +kernel
theorem dX6_readsPerson_64 : decode cX6_readsPerson 64 = .ok (.putfield 114, 3) := by decide +kernel
theorem dX6_readsPerson_67 : decode cX6_readsPerson 67 = .ok (.iconst 1, 1) := by decide +kernel
theorem dX6_readsPerson_68 : decode cX6_readsPerson 68 = .ok (.ireturn, 1) := by decide +kernel
theorem dX6_readsItem_0 : decode cX6_readsItem 0 = .ok (.aload_n 0, 1) := by decide +kernel
theorem dX6_readsItem_1 : decode cX6_readsItem 1 = .ok (.iload_n 1, 1) := by decide +kernel
theorem dX6_readsItem_2 : decode cX6_readsItem 2 = .ok (.aload_n 0, 1) := by decide +kernel
theorem dX6_readsItem_3 : decode cX6_readsItem 3 = .ok (.getfield 117, 3) := by decide +kernel
theorem dX6_readsItem_6 : decode cX6_readsItem 6 = .ok (.invokevirtual 120, 3) := by decide +kernel
theorem dX6_readsItem_9 : decode cX6_readsItem 9 = .ok (.istore_n 2, 1) := by decide +kernel
theorem dX6_readsItem_10 : decode cX6_readsItem 10 = .ok (.iload_n 2, 1) := by decide +kernel
theorem dX6_readsItem_11 : decode cX6_readsItem 11 = .ok (.bipush 97, 2) := by decide +kernel
theorem dX6_readsItem_13 : decode cX6_readsItem 13 = .ok (.if_icmp .ne 15, 3) := by decide +kernel
theorem dX6_readsItem_16 : decode cX6_readsItem 16 = .ok (.aload_n 0, 1) := by decide +kernel
theorem dX6_readsItem_17 : decode cX6_readsItem 17 = .ok (.iload_n 1, 1) := by decide +kernel
theorem dX6_readsItem_18 : decode cX6_readsItem 18 = .ok (.aload_n 0, 1) := by decide +kernel
theorem dX6_readsItem_19 : decode cX6_readsItem 19 = .ok (.getfield 42, 3) := by decide +kernel
theorem dX6_readsItem_22 : decode cX6_readsItem 22 = .ok (.invokevirtual 134, 3) := by decide +kernel
theorem dX6_readsItem_25 : decode cX6_readsItem 25 = .ok (.goto 26, 3) := by decide +kernel
theorem dX6_readsItem_28 : decode cX6_readsItem 28 = .ok (.iload_n 2, 1) := by decide +kernel
theorem dX6_readsItem_29 : decode cX6_readsItem 29 = .ok (.bipush 103, 2) := by decide +kernel
theorem dX6_readsItem_31 : decode cX6_readsItem 31 = .ok (.if_icmp .ne 15, 3) := by decide +kernel
theorem dX6_readsItem_34 : decode cX6_readsItem 34 = .ok (.aload_n 0, 1) := by decide +kernel
theorem dX6_readsItem_35 : decode cX6_readsItem 35 = .ok (.iload_n 1, 1) := by decide +kernel
theorem dX6_readsItem_36 : decode cX6_readsItem 36 = .ok (.aload_n 0, 1) := by decide +kernel
theorem dX6_readsItem_37 : decode cX6_readsItem 37 = .ok (.getfield 45, 3) := by decide +kernel
theorem dX6_readsItem_40 : decode cX6_readsItem 40 = .ok (.invokevirtual 134, 3) := by decide +kernel
theorem dX6_readsItem_43 : decode cX6_readsItem 43 = .ok (.goto 8, 3) := by decide +kernel
theorem dX6_readsItem_46 : decode cX6_readsItem 46 = .ok (.aload_n 0, 1) := by decide +kernel
theorem dX6_readsItem_47 : decode cX6_readsItem 47 = .ok (.iload_n 1, 1) := by decide +kernel
theorem dX6_readsItem_48 : decode cX6_readsItem 48 = .ok (.invokevirtual 138, 3) := by decide +kernel
theorem dX6_readsItem_51 : decode cX6_readsItem 51 = .ok (.ireturn, 1) := by decide +kernel
theorem dX6_faultOf_0 : decode cX6_faultOf 0 = .ok (.aload_n 0, 1) := by decide +kernel
theorem dX6_faultOf_1 : decode cX6_faultOf 1 = .ok (.iconst 0, 1) := by decide +kernel
theorem dX6_faultOf_2 : decode cX6_faultOf 2 = .ok (.putfield 117, 3) := by decide +kernel
theorem dX6_faultOf_5 : decode cX6_faultOf 5 = .ok (.aload_n 0, 1) := by decide +kernel
theorem dX6_faultOf_6 : decode cX6_faultOf 6 = .ok (.iconst 0, 1) := by decide +kernel
theorem dX6_faultOf_7 : decode cX6_faultOf 7 = .ok (.putfield 114, 3) := by decide +kernel
theorem dX6_faultOf_10 : decode cX6_faultOf 10 = .ok (.aload_n 0, 1) := by decide +kernel
theorem dX6_faultOf_11 : decode cX6_faultOf 11 = .ok (.iconst 0, 1) := by decide +kernel
theorem dX6_faultOf_12 : decode cX6_faultOf 12 = .ok (.putfield 127, 3) := by decide +kernel
theorem dX6_faultOf_15 : decode cX6_faultOf 15 = .ok (.iconst 0, 1) := by decide +kernel
theorem dX6_faultOf_16 : decode cX6_faultOf 16 = .ok (.istore_n 2, 1) := by decide +kernel
theorem dX6_faultOf_17 : decode cX6_faultOf 17 = .ok (.iload_n 2, 1) := by decide +kernel
theorem dX6_faultOf_18 : decode cX6_faultOf 18 = .ok (.bipush 6, 2) := by decide +kernel
theorem dX6_faultOf_20 : decode cX6_faultOf 20 = .ok (.if_icmp .ge 23, 3) := by decide +kernel
theorem dX6_faultOf_23 : decode cX6_faultOf 23 = .ok (.aload_n 0, 1) := by decide +kernel
theorem dX6_faultOf_24 : decode cX6_faultOf 24 = .ok (.getfield 42, 3) := by decide +kernel
theorem dX6_faultOf_27 : decode cX6_faultOf 27 = .ok (.iload_n 2, 1) := by decide +kernel
theorem dX6_faultOf_28 : decode cX6_faultOf 28 = .ok (.iconst 0, 1) := by decide +kernel
theorem dX6_faultOf_29 : decode cX6_faultOf 29 = .ok (.iastore, 1) := by decide +kernel
theorem dX6_faultOf_30 : decode cX6_faultOf 30 = .ok (.aload_n 0, 1) := by decide +kernel
theorem dX6_faultOf_31 : decode cX6_faultOf 31 = .ok (.getfield 45, 3) := by decide +kernel
theorem dX6_faultOf_34 : decode cX6_faultOf 34 = .ok (.iload_n 2, 1) := by decide +kernel
theorem dX6_faultOf_35 : decode cX6_faultOf 35 = .ok (.iconst 0, 1) := by decide +kernel
theorem dX6_faultOf_36 : decode cX6_faultOf 36 = .ok (.iastore, 1) := by decide +kernel
theorem dX6_faultOf_37 : decode cX6_faultOf 37 = .ok (.iinc 2 1, 3) := by decide +kernel
theorem dX6_faultOf_40 : decode cX6_faultOf 40 = .ok (.goto (-23), 3) := by decide +kernel
theorem dX6_faultOf_43 : decode cX6_faultOf 43 = .ok (.aload_n 0, 1) := by decide +kernel
theorem dX6_faultOf_44 : decode cX6_faultOf 44 = .ok (.getfield 117, 3) := by decide +kernel
theorem dX6_faultOf_47 : decode cX6_faultOf 47 = .ok (.aload_n 0, 1) := by decide +kernel
theorem dX6_faultOf_48 : decode cX6_faultOf 48 = .ok (.getfield 26, 3) := by decide +kernel
theorem dX6_faultOf_51 : decode cX6_faultOf 51 = .ok (.iload_n 1, 1) := by decide +kernel
theorem dX6_faultOf_52 : decode cX6_faultOf 52 = .ok (.iaload, 1) := by decide +kernel
theorem dX6_faultOf_53 : decode cX6_faultOf 53 = .ok (.if_icmp .ge 43, 3) := by decide +kernel
theorem dX6_faultOf_56 : decode cX6_faultOf 56 = .ok (.aload_n 0, 1) := by decide +kernel
theorem dX6_faultOf_57 : decode cX6_faultOf 57 = .ok (.iload_n 1, 1) := by decide +kernel
theorem dX6_faultOf_58 : decode cX6_faultOf 58 = .ok (.aload_n 0, 1) := by decide +kernel
theorem dX6_faultOf_59 : decode cX6_faultOf 59 = .ok (.getfield 117, 3) := by decide +kernel
theorem dX6_faultOf_62 : decode cX6_faultOf 62 = .ok (.invokevirtual 120, 3) := by decide +kernel
theorem dX6_faultOf_65 : decode cX6_faultOf 65 = .ok (.bipush 32, 2) := by decide +kernel
theorem dX6_faultOf_67 : decode cX6_faultOf 67 = .ok (.if_icmp .ne 16, 3) := by decide +kernel
theorem dX6_faultOf_70 : decode cX6_faultOf 70 = .ok (.aload_n 0, 1) := by decide +kernel
theorem dX6_faultOf_71 : decode cX6_faultOf 71 = .ok (.dup, 1) := by decide +kernel
theorem dX6_faultOf_72 : decode cX6_faultOf 72 = .ok (.getfield 117, 3) := by decide +kernel
theorem dX6_faultOf_75 : decode cX6_faultOf 75 = .ok (.iconst 1, 1) := by decide +kernel
theorem dX6_faultOf_76 : decode cX6_faultOf 76 = .ok (.iadd, 1) := by decide +kernel
theorem dX6_faultOf_77 : decode cX6_faultOf 77 = .ok (.putfield 117, 3) := by decide +kernel
theorem dX6_faultOf_80 : decode cX6_faultOf 80 = .ok (.goto (-37), 3) := by decide +kernel
theorem dX6_faultOf_83 : decode cX6_faultOf 83 = .ok (.aload_n 0, 1) := by decide +kernel
theorem dX6_faultOf_84 : decode cX6_faultOf 84 = .ok (.iload_n 1, 1) := by decide +kernel
theorem dX6_faultOf_85 : decode cX6_faultOf 85 = .ok (.invokevirtual 141, 3) := by decide +kernel
theorem dX6_faultOf_88 : decode cX6_faultOf 88 = .ok (.ifCond .ne (-45), 3) := by decide +kernel
theorem dX6_faultOf_91 : decode cX6_faultOf 91 = .ok (.aload_n 0, 1) := by decide +kernel
theorem dX6_faultOf_92 : decode cX6_faultOf 92 = .ok (.getfield 117, 3) := by decide +kernel
theorem dX6_faultOf_95 : decode cX6_faultOf 95 = .ok (.ireturn, 1) := by decide +kernel
theorem dX6_faultOf_96 : decode cX6_faultOf 96 = .ok (.aload_n 0, 1) := by decide +kernel
theorem dX6_faultOf_97 : decode cX6_faultOf 97 = .ok (.getfield 114, 3) := by decide +kernel
theorem dX6_faultOf_100 : decode cX6_faultOf 100 = .ok (.ifCond .ne 12, 3) := by decide +kernel
theorem dX6_faultOf_103 : decode cX6_faultOf 103 = .ok (.aload_n 0, 1) := by decide +kernel
theorem dX6_faultOf_104 : decode cX6_faultOf 104 = .ok (.getfield 26, 3) := by decide +kernel
theorem dX6_faultOf_107 : decode cX6_faultOf 107 = .ok (.iload_n 1, 1) := by decide +kernel
theorem dX6_faultOf_108 : decode cX6_faultOf 108 = .ok (.iaload, 1) := by decide +kernel
theorem dX6_faultOf_109 : decode cX6_faultOf 109 = .ok (.goto 5, 3) := by decide +kernel
theorem dX6_faultOf_112 : decode cX6_faultOf 112 = .ok (.bipush (-9), 2) := by decide +kernel
theorem dX6_faultOf_114 : decode cX6_faultOf 114 = .ok (.ireturn, 1) := by decide +kernel
theorem dX6_fault_0 : decode cX6_fault 0 = .ok (.iload_n 1, 1) := by decide +kernel
theorem dX6_fault_1 : decode cX6_fault 1 = .ok (.invokestatic 111, 3) := by decide +kernel
theorem dX6_fault_4 : decode cX6_fault 4 = .ok (.ifCond .ne 5, 3) := by decide +kernel
theorem dX6_fault_7 : decode cX6_fault 7 = .ok (.iconst (-1), 1) := by decide +kernel
theorem dX6_fault_8 : decode cX6_fault 8 = .ok (.ireturn, 1) := by decide +kernel
theorem dX6_fault_9 : decode cX6_fault 9 = .ok (.aload_n 0, 1) := by decide +kernel
theorem dX6_fault_10 : decode cX6_fault 10 = .ok (.getfield 26, 3) := by decide +kernel
theorem dX6_fault_13 : decode cX6_fault 13 = .ok (.iload_n 1, 1) := by decide +kernel
theorem dX6_fault_14 : decode cX6_fault 14 = .ok (.iaload, 1) := by decide +kernel
theorem dX6_fault_15 : decode cX6_fault 15 = .ok (.ifCond .ge 11, 3) := by decide +kernel
theorem dX6_fault_18 : decode cX6_fault 18 = .ok (.aload_n 0, 1) := by decide +kernel
theorem dX6_fault_19 : decode cX6_fault 19 = .ok (.iconst 1, 1) := by decide +kernel
theorem dX6_fault_20 : decode cX6_fault 20 = .ok (.invokevirtual 100, 3) := by decide +kernel
theorem dX6_fault_23 : decode cX6_fault 23 = .ok (.goto 8, 3) := by decide +kernel
theorem dX6_fault_26 : decode cX6_fault 26 = .ok (.aload_n 0, 1) := by decide +kernel
theorem dX6_fault_27 : decode cX6_fault 27 = .ok (.iload_n 1, 1) := by decide +kernel
theorem dX6_fault_28 : decode cX6_fault 28 = .ok (.invokevirtual 144, 3) := by decide +kernel
theorem dX6_fault_31 : decode cX6_fault 31 = .ok (.ireturn, 1) := by decide +kernel
theorem dX6_town_0 : decode cX6_town 0 = .ok (.iload_n 1, 1) := by decide +kernel
theorem dX6_town_1 : decode cX6_town 1 = .ok (.invokestatic 111, 3) := by decide +kernel
theorem dX6_town_4 : decode cX6_town 4 = .ok (.ifCond .ne 5, 3) := by decide +kernel
theorem dX6_town_7 : decode cX6_town 7 = .ok (.iconst (-1), 1) := by decide +kernel
theorem dX6_town_8 : decode cX6_town 8 = .ok (.ireturn, 1) := by decide +kernel
theorem dX6_town_9 : decode cX6_town 9 = .ok (.aload_n 0, 1) := by decide +kernel
theorem dX6_town_10 : decode cX6_town 10 = .ok (.getfield 26, 3) := by decide +kernel
theorem dX6_town_13 : decode cX6_town 13 = .ok (.iload_n 1, 1) := by decide +kernel
theorem dX6_town_14 : decode cX6_town 14 = .ok (.iaload, 1) := by decide +kernel
theorem dX6_town_15 : decode cX6_town 15 = .ok (.ifCond .ge 9, 3) := by decide +kernel
theorem dX6_town_18 : decode cX6_town 18 = .ok (.aload_n 0, 1) := by decide +kernel
theorem dX6_town_19 : decode cX6_town 19 = .ok (.iconst 1, 1) := by decide +kernel
theorem dX6_town_20 : decode cX6_town 20 = .ok (.invokevirtual 100, 3) := by decide +kernel
theorem dX6_town_23 : decode cX6_town 23 = .ok (.ireturn, 1) := by decide +kernel
theorem dX6_town_24 : decode cX6_town 24 = .ok (.aload_n 0, 1) := by decide +kernel
theorem dX6_town_25 : decode cX6_town 25 = .ok (.iload_n 1, 1) := by decide +kernel
theorem dX6_town_26 : decode cX6_town 26 = .ok (.invokevirtual 144, 3) := by decide +kernel
theorem dX6_town_29 : decode cX6_town 29 = .ok (.bipush (-9), 2) := by decide +kernel
theorem dX6_town_31 : decode cX6_town 31 = .ok (.if_icmp .eq 6, 3) := by decide +kernel
theorem dX6_town_34 : decode cX6_town 34 = .ok (.bipush (-4), 2) := by decide +kernel
theorem dX6_town_36 : decode cX6_town 36 = .ok (.ireturn, 1) := by decide +kernel
theorem dX6_town_37 : decode cX6_town 37 = .ok (.aload_n 0, 1) := by decide +kernel
theorem dX6_town_38 : decode cX6_town 38 = .ok (.aload_n 0, 1) := by decide +kernel
theorem dX6_town_39 : decode cX6_town 39 = .ok (.getfield 114, 3) := by decide +kernel
theorem dX6_town_42 : decode cX6_town 42 = .ok (.putfield 147, 3) := by decide +kernel
theorem dX6_town_45 : decode cX6_town 45 = .ok (.iconst 0, 1) := by decide +kernel
theorem dX6_town_46 : decode cX6_town 46 = .ok (.istore_n 2, 1) := by decide +kernel
theorem dX6_town_47 : decode cX6_town 47 = .ok (.iload_n 2, 1) := by decide +kernel
theorem dX6_town_48 : decode cX6_town 48 = .ok (.bipush 14, 2) := by decide +kernel
theorem dX6_town_50 : decode cX6_town 50 = .ok (.if_icmp .ge 16, 3) := by decide +kernel
theorem dX6_town_53 : decode cX6_town 53 = .ok (.aload_n 0, 1) := by decide +kernel
theorem dX6_town_54 : decode cX6_town 54 = .ok (.getfield 48, 3) := by decide +kernel
theorem dX6_town_57 : decode cX6_town 57 = .ok (.iload_n 2, 1) := by decide +kernel
theorem dX6_town_58 : decode cX6_town 58 = .ok (.iconst 0, 1) := by decide +kernel
theorem dX6_town_59 : decode cX6_town 59 = .ok (.iastore, 1) := by decide +kernel
theorem dX6_town_60 : decode cX6_town 60 = .ok (.iinc 2 1, 3) := by decide +kernel
theorem dX6_town_63 : decode cX6_town 63 = .ok (.goto (-16), 3) := by decide +kernel
theorem dX6_town_66 : decode cX6_town 66 = .ok (.iconst 0, 1) := by decide +kernel
theorem dX6_town_67 : decode cX6_town 67 = .ok (.istore_n 2, 1) := by decide +kernel
theorem dX6_town_68 : decode cX6_town 68 = .ok (.iload_n 2, 1) := by decide +kernel
theorem dX6_town_69 : decode cX6_town 69 = .ok (.bipush 6, 2) := by decide +kernel
theorem dX6_town_71 : decode cX6_town 71 = .ok (.if_icmp .ge 88, 3) := by decide +kernel
theorem dX6_town_74 : decode cX6_town 74 = .ok (.aload_n 0, 1) := by decide +kernel
theorem dX6_town_75 : decode cX6_town 75 = .ok (.getfield 33, 3) := by decide +kernel
theorem dX6_town_78 : decode cX6_town 78 = .ok (.iload_n 2, 1) := by decide +kernel
theorem dX6_town_79 : decode cX6_town 79 = .ok (.iload_n 2, 1) := by decide +kernel
theorem dX6_town_80 : decode cX6_town 80 = .ok (.aload_n 0, 1) := by decide +kernel
theorem dX6_town_81 : decode cX6_town 81 = .ok (.getfield 147, 3) := by decide +kernel
theorem dX6_town_84 : decode cX6_town 84 = .ok (.if_icmp .ge 12, 3) := by decide +kernel
theorem dX6_town_87 : decode cX6_town 87 = .ok (.aload_n 0, 1) := by decide +kernel
theorem dX6_town_88 : decode cX6_town 88 = .ok (.getfield 39, 3) := by decide +kernel
theorem dX6_town_91 : decode cX6_town 91 = .ok (.iload_n 2, 1) := by decide +kernel
theorem dX6_town_92 : decode cX6_town 92 = .ok (.iaload, 1) := by decide +kernel
theorem dX6_town_93 : decode cX6_town 93 = .ok (.goto 4, 3) := by decide +kernel
theorem dX6_town_96 : decode cX6_town 96 = .ok (.iconst 0, 1) := by decide +kernel
theorem dX6_town_97 : decode cX6_town 97 = .ok (.iastore, 1) := by decide +kernel
theorem dX6_town_98 : decode cX6_town 98 = .ok (.aload_n 0, 1) := by decide +kernel
theorem dX6_town_99 : decode cX6_town 99 = .ok (.getfield 36, 3) := by decide +kernel
theorem dX6_town_102 : decode cX6_town 102 = .ok (.iload_n 2, 1) := by decide +kernel
theorem dX6_town_103 : decode cX6_town 103 = .ok (.iload_n 2, 1) := by decide +kernel
theorem dX6_town_104 : decode cX6_town 104 = .ok (.aload_n 0, 1) := by decide +kernel
theorem dX6_town_105 : decode cX6_town 105 = .ok (.getfield 147, 3) := by decide +kernel
theorem dX6_town_108 : decode cX6_town 108 = .ok (.if_icmp .ge 16, 3) := by decide +kernel
theorem dX6_town_111 : decode cX6_town 111 = .ok (.aload_n 0, 1) := by decide +kernel
theorem dX6_town_112 : decode cX6_town 112 = .ok (.getfield 42, 3) := by decide +kernel
theorem dX6_town_115 : decode cX6_town 115 = .ok (.iload_n 2, 1) := by decide +kernel
theorem dX6_town_116 : decode cX6_town 116 = .ok (.iaload, 1) := by decide +kernel
theorem dX6_town_117 : decode cX6_town 117 = .ok (.iconst 1, 1) := by decide +kernel
theorem dX6_town_118 : decode cX6_town 118 = .ok (.iload_n 2, 1) := by decide +kernel
theorem dX6_town_119 : decode cX6_town 119 = .ok (.ishl, 1) := by decide +kernel
theorem dX6_town_120 : decode cX6_town 120 = .ok (.ior, 1) := by decide +kernel
theorem dX6_town_121 : decode cX6_town 121 = .ok (.goto 4, 3) := by decide +kernel
theorem dX6_town_124 : decode cX6_town 124 = .ok (.iconst 0, 1) := by decide +kernel
theorem dX6_town_125 : decode cX6_town 125 = .ok (.iastore, 1) := by decide +kernel
theorem dX6_town_126 : decode cX6_town 126 = .ok (.aload_n 0, 1) := by decide +kernel
theorem dX6_town_127 : decode cX6_town 127 = .ok (.getfield 48, 3) := by decide +kernel
theorem dX6_town_130 : decode cX6_town 130 = .ok (.bipush 6, 2) := by decide +kernel
theorem dX6_town_132 : decode cX6_town 132 = .ok (.iload_n 2, 1) := by decide +kernel
theorem dX6_town_133 : decode cX6_town 133 = .ok (.iadd, 1) := by decide +kernel
theorem dX6_town_134 : decode cX6_town 134 = .ok (.iload_n 2, 1) := by decide +kernel
theorem dX6_town_135 : decode cX6_town 135 = .ok (.aload_n 0, 1) := by decide +kernel
theorem dX6_town_136 : decode cX6_town 136 = .ok (.getfield 147, 3) := by decide +kernel
theorem dX6_town_139 : decode cX6_town 139 = .ok (.if_icmp .ge 12, 3) := by decide +kernel
theorem dX6_town_142 : decode cX6_town 142 = .ok (.aload_n 0, 1) := by decide +kernel
theorem dX6_town_143 : decode cX6_town 143 = .ok (.getfield 45, 3) := by decide +kernel
theorem dX6_town_146 : decode cX6_town 146 = .ok (.iload_n 2, 1) := by decide +kernel
theorem dX6_town_147 : decode cX6_town 147 = .ok (.iaload, 1) := by decide +kernel
theorem dX6_town_148 : decode cX6_town 148 = .ok (.goto 4, 3) := by decide +kernel
theorem dX6_town_151 : decode cX6_town 151 = .ok (.iconst 0, 1) := by decide +kernel
theorem dX6_town_152 : decode cX6_town 152 = .ok (.iastore, 1) := by decide +kernel
theorem dX6_town_153 : decode cX6_town 153 = .ok (.iinc 2 1, 3) := by decide +kernel
theorem dX6_town_156 : decode cX6_town 156 = .ok (.goto (-88), 3) := by decide +kernel
theorem dX6_town_159 : decode cX6_town 159 = .ok (.iconst 0, 1) := by decide +kernel
theorem dX6_town_160 : decode cX6_town 160 = .ok (.istore_n 2, 1) := by decide +kernel
theorem dX6_town_161 : decode cX6_town 161 = .ok (.iload_n 2, 1) := by decide +kernel
theorem dX6_town_162 : decode cX6_town 162 = .ok (.bipush 6, 2) := by decide +kernel
theorem dX6_town_164 : decode cX6_town 164 = .ok (.if_icmp .ge 77, 3) := by decide +kernel
theorem dX6_town_167 : decode cX6_town 167 = .ok (.iconst 0, 1) := by decide +kernel
theorem dX6_town_168 : decode cX6_town 168 = .ok (.istore_n 3, 1) := by decide +kernel
theorem dX6_town_169 : decode cX6_town 169 = .ok (.iload_n 3, 1) := by decide +kernel
theorem dX6_town_170 : decode cX6_town 170 = .ok (.aload_n 0, 1) := by decide +kernel
theorem dX6_town_171 : decode cX6_town 171 = .ok (.getfield 147, 3) := by decide +kernel
theorem dX6_town_174 : decode cX6_town 174 = .ok (.if_icmp .ge 61, 3) := by decide +kernel
theorem dX6_town_177 : decode cX6_town 177 = .ok (.iconst 0, 1) := by decide +kernel
theorem dX6_town_178 : decode cX6_town 178 = .ok (.istore 4, 2) := by decide +kernel
theorem dX6_town_180 : decode cX6_town 180 = .ok (.iload 4, 2) := by decide +kernel
theorem dX6_town_182 : decode cX6_town 182 = .ok (.aload_n 0, 1) := by decide +kernel
theorem dX6_town_183 : decode cX6_town 183 = .ok (.getfield 147, 3) := by decide +kernel
theorem dX6_town_186 : decode cX6_town 186 = .ok (.if_icmp .ge 43, 3) := by decide +kernel
theorem dX6_town_189 : decode cX6_town 189 = .ok (.aload_n 0, 1) := by decide +kernel
theorem dX6_town_190 : decode cX6_town 190 = .ok (.getfield 36, 3) := by decide +kernel
theorem dX6_town_193 : decode cX6_town 193 = .ok (.iload_n 3, 1) := by decide +kernel
theorem dX6_town_194 : decode cX6_town 194 = .ok (.dup2, 1) := by decide +kernel
theorem dX6_town_195 : decode cX6_town 195 = .ok (.iaload, 1) := by decide +kernel
theorem dX6_town_196 : decode cX6_town 196 = .ok (.aload_n 0, 1) := by decide +kernel
theorem dX6_town_197 : decode cX6_town 197 = .ok (.getfield 36, 3) := by decide +kernel
theorem dX6_town_200 : decode cX6_town 200 = .ok (.iload_n 3, 1) := by decide +kernel
theorem dX6_town_201 : decode cX6_town 201 = .ok (.iaload, 1) := by decide +kernel
theorem dX6_town_202 : decode cX6_town 202 = .ok (.iload 4, 2) := by decide +kernel
theorem dX6_town_204 : decode cX6_town 204 = .ok (.invokestatic 123, 3) := by decide +kernel
theorem dX6_town_207 : decode cX6_town 207 = .ok (.ifCond .eq 13, 3) := by decide +kernel
theorem dX6_town_210 : decode cX6_town 210 = .ok (.aload_n 0, 1) := by decide +kernel
theorem dX6_town_211 : decode cX6_town 211 = .ok (.getfield 36, 3) := by decide +kernel
theorem dX6_town_214 : decode cX6_town 214 = .ok (.iload 4, 2) := by decide +kernel
theorem dX6_town_216 : decode cX6_town 216 = .ok (.iaload, 1) := by decide +kernel
theorem dX6_town_217 : decode cX6_town 217 = .ok (.goto 4, 3) := by decide +kernel
theorem dX6_town_220 : decode cX6_town 220 = .ok (.iconst 0, 1) := by decide +kernel
theorem dX6_town_221 : decode cX6_town 221 = .ok (.ior, 1) := by decide +kernel
theorem dX6_town_222 : decode cX6_town 222 = .ok (.iastore, 1) := by decide +kernel
theorem dX6_town_223 : decode cX6_town 223 = .ok (.iinc 4 1, 3) := by decide +kernel
theorem dX6_town_226 : decode cX6_town 226 = .ok (.goto (-46), 3) := by decide +kernel
theorem dX6_town_229 : decode cX6_town 229 = .ok (.iinc 3 1, 3) := by decide +kernel
theorem dX6_town_232 : decode cX6_town 232 = .ok (.goto (-63), 3) := by decide +kernel
theorem dX6_town_235 : decode cX6_town 235 = .ok (.iinc 2 1, 3) := by decide +kernel
theorem dX6_town_238 : decode cX6_town 238 = .ok (.goto (-77), 3) := by decide +kernel
theorem dX6_town_241 : decode cX6_town 241 = .ok (.aload_n 0, 1) := by decide +kernel
theorem dX6_town_242 : decode cX6_town 242 = .ok (.iconst 0, 1) := by decide +kernel
theorem dX6_town_243 : decode cX6_town 243 = .ok (.putfield 150, 3) := by decide +kernel
theorem dX6_town_246 : decode cX6_town 246 = .ok (.iconst 0, 1) := by decide +kernel
theorem dX6_town_247 : decode cX6_town 247 = .ok (.istore_n 2, 1) := by decide +kernel
theorem dX6_town_248 : decode cX6_town 248 = .ok (.iload_n 2, 1) := by decide +kernel
theorem dX6_town_249 : decode cX6_town 249 = .ok (.iconst 3, 1) := by decide +kernel
theorem dX6_town_250 : decode cX6_town 250 = .ok (.if_icmp .ge 16, 3) := by decide +kernel
theorem dX6_town_253 : decode cX6_town 253 = .ok (.aload_n 0, 1) := by decide +kernel
theorem dX6_town_254 : decode cX6_town 254 = .ok (.getfield 60, 3) := by decide +kernel
theorem dX6_town_257 : decode cX6_town 257 = .ok (.iload_n 2, 1) := by decide +kernel
theorem dX6_town_258 : decode cX6_town 258 = .ok (.iconst 0, 1) := by decide +kernel
theorem dX6_town_259 : decode cX6_town 259 = .ok (.bastore, 1) := by decide +kernel
theorem dX6_town_260 : decode cX6_town 260 = .ok (.iinc 2 1, 3) := by decide +kernel
theorem dX6_town_263 : decode cX6_town 263 = .ok (.goto (-15), 3) := by decide +kernel
theorem dX6_town_266 : decode cX6_town 266 = .ok (.aload_n 0, 1) := by decide +kernel
theorem dX6_town_267 : decode cX6_town 267 = .ok (.getfield 147, 3) := by decide +kernel
theorem dX6_town_270 : decode cX6_town 270 = .ok (.ireturn, 1) := by decide +kernel
theorem dX6_isPerson_0 : decode cX6_isPerson 0 = .ok (.iload_n 1, 1) := by decide +kernel
theorem dX6_isPerson_1 : decode cX6_isPerson 1 = .ok (.iconst 0, 1) := by decide +kernel
theorem dX6_isPerson_2 : decode cX6_isPerson 2 = .ok (.aload_n 0, 1) := by decide +kernel
theorem dX6_isPerson_3 : decode cX6_isPerson 3 = .ok (.getfield 147, 3) := by decide +kernel
theorem dX6_isPerson_6 : decode cX6_isPerson 6 = .ok (.iconst 1, 1) := by decide +kernel
theorem dX6_isPerson_7 : decode cX6_isPerson 7 = .ok (.isub, 1) := by decide +kernel
theorem dX6_isPerson_8 : decode cX6_isPerson 8 = .ok (.invokestatic 86, 3) := by decide +kernel
theorem dX6_isPerson_11 : decode cX6_isPerson 11 = .ok (.ireturn, 1) := by decide +kernel
theorem dX6_isDealtAs_0 : decode cX6_isDealtAs 0 = .ok (.aload_n 0, 1) := by decide +kernel
theorem dX6_isDealtAs_1 : decode cX6_isDealtAs 1 = .ok (.getfield 36, 3) := by decide +kernel
theorem dX6_isDealtAs_4 : decode cX6_isDealtAs 4 = .ok (.iload_n 1, 1) := by decide +kernel
theorem dX6_isDealtAs_5 : decode cX6_isDealtAs 5 = .ok (.iaload, 1) := by decide +kernel
theorem dX6_isDealtAs_6 : decode cX6_isDealtAs 6 = .ok (.iconst 1, 1) := by decide +kernel
theorem dX6_isDealtAs_7 : decode cX6_isDealtAs 7 = .ok (.iload_n 1, 1) := by decide +kernel
theorem dX6_isDealtAs_8 : decode cX6_isDealtAs 8 = .ok (.ishl, 1) := by decide +kernel
theorem dX6_isDealtAs_9 : decode cX6_isDealtAs 9 = .ok (.iconst 1, 1) := by decide +kernel
theorem dX6_isDealtAs_10 : decode cX6_isDealtAs 10 = .ok (.isub, 1) := by decide +kernel
theorem dX6_isDealtAs_11 : decode cX6_isDealtAs 11 = .ok (.iand, 1) := by decide +kernel
theorem dX6_isDealtAs_12 : decode cX6_isDealtAs 12 = .ok (.ifCond .eq 7, 3) := by decide +kernel
theorem dX6_isDealtAs_15 : decode cX6_isDealtAs 15 = .ok (.iconst 1, 1) := by decide +kernel
theorem dX6_isDealtAs_16 : decode cX6_isDealtAs 16 = .ok (.goto 4, 3) := by decide +kernel
theorem dX6_isDealtAs_19 : decode cX6_isDealtAs 19 = .ok (.iconst 0, 1) := by decide +kernel
theorem dX6_isDealtAs_20 : decode cX6_isDealtAs 20 = .ok (.ireturn, 1) := by decide +kernel
theorem dX6_isLearner_0 : decode cX6_isLearner 0 = .ok (.iload_n 0, 1) := by decide +kernel
theorem dX6_isLearner_1 : decode cX6_isLearner 1 = .ok (.iconst 1, 1) := by decide +kernel
theorem dX6_isLearner_2 : decode cX6_isLearner 2 = .ok (.if_icmp .eq 8, 3) := by decide +kernel
theorem dX6_isLearner_5 : decode cX6_isLearner 5 = .ok (.iload_n 0, 1) := by decide +kernel
theorem dX6_isLearner_6 : decode cX6_isLearner 6 = .ok (.iconst 3, 1) := by decide +kernel
theorem dX6_isLearner_7 : decode cX6_isLearner 7 = .ok (.if_icmp .ne 7, 3) := by decide +kernel
theorem dX6_isLearner_10 : decode cX6_isLearner 10 = .ok (.iconst 1, 1) := by decide +kernel
theorem dX6_isLearner_11 : decode cX6_isLearner 11 = .ok (.goto 4, 3) := by decide +kernel
theorem dX6_isLearner_14 : decode cX6_isLearner 14 = .ok (.iconst 0, 1) := by decide +kernel
theorem dX6_isLearner_15 : decode cX6_isLearner 15 = .ok (.ireturn, 1) := by decide +kernel
theorem dX6_knows_0 : decode cX6_knows 0 = .ok (.iconst 1, 1) := by decide +kernel
theorem dX6_knows_1 : decode cX6_knows 1 = .ok (.aload_n 1, 1) := by decide +kernel
theorem dX6_knows_2 : decode cX6_knows 2 = .ok (.iload_n 2, 1) := by decide +kernel
theorem dX6_knows_3 : decode cX6_knows 3 = .ok (.iaload, 1) := by decide +kernel
theorem dX6_knows_4 : decode cX6_knows 4 = .ok (.ishl, 1) := by decide +kernel
theorem dX6_knows_5 : decode cX6_knows 5 = .ok (.istore 4, 2) := by decide +kernel
theorem dX6_knows_7 : decode cX6_knows 7 = .ok (.iload 4, 2) := by decide +kernel
theorem dX6_knows_9 : decode cX6_knows 9 = .ok (.iload_n 3, 1) := by decide +kernel
theorem dX6_knows_10 : decode cX6_knows 10 = .ok (.ifCond .eq 30, 3) := by decide +kernel
theorem dX6_knows_13 : decode cX6_knows 13 = .ok (.aload_n 0, 1) := by decide +kernel
theorem dX6_knows_14 : decode cX6_knows 14 = .ok (.getfield 33, 3) := by decide +kernel
theorem dX6_knows_17 : decode cX6_knows 17 = .ok (.iload_n 2, 1) := by decide +kernel
theorem dX6_knows_18 : decode cX6_knows 18 = .ok (.iaload, 1) := by decide +kernel
theorem dX6_knows_19 : decode cX6_knows 19 = .ok (.invokestatic 153, 3) := by decide +kernel
theorem dX6_knows_22 : decode cX6_knows 22 = .ok (.ifCond .eq 18, 3) := by decide +kernel
theorem dX6_knows_25 : decode cX6_knows 25 = .ok (.iconst 1, 1) := by decide +kernel
theorem dX6_knows_26 : decode cX6_knows 26 = .ok (.aload_n 1, 1) := by decide +kernel
theorem dX6_knows_27 : decode cX6_knows 27 = .ok (.iload_n 2, 1) := by decide +kernel
theorem dX6_knows_28 : decode cX6_knows 28 = .ok (.iconst 1, 1) := by decide +kernel
theorem dX6_knows_29 : decode cX6_knows 29 = .ok (.iadd, 1) := by decide +kernel
theorem dX6_knows_30 : decode cX6_knows 30 = .ok (.aload_n 0, 1) := by decide +kernel
theorem dX6_knows_31 : decode cX6_knows 31 = .ok (.getfield 147, 3) := by decide +kernel
theorem dX6_knows_34 : decode cX6_knows 34 = .ok (.irem, 1) := by decide +kernel
theorem dX6_knows_35 : decode cX6_knows 35 = .ok (.iaload, 1) := by decide +kernel
theorem dX6_knows_36 : decode cX6_knows 36 = .ok (.ishl, 1) := by decide +kernel
theorem dX6_knows_37 : decode cX6_knows 37 = .ok (.goto 4, 3) := by decide +kernel
theorem dX6_knows_40 : decode cX6_knows 40 = .ok (.iconst 0, 1) := by decide +kernel
theorem dX6_knows_41 : decode cX6_knows 41 = .ok (.ior, 1) := by decide +kernel
theorem dX6_knows_42 : decode cX6_knows 42 = .ok (.istore 4, 2) := by decide +kernel
theorem dX6_knows_44 : decode cX6_knows 44 = .ok (.iload 4, 2) := by decide +kernel
theorem dX6_knows_46 : decode cX6_knows 46 = .ok (.aload_n 0, 1) := by decide +kernel
theorem dX6_knows_47 : decode cX6_knows 47 = .ok (.getfield 33, 3) := by decide +kernel
theorem dX6_knows_50 : decode cX6_knows 50 = .ok (.iload_n 2, 1) := by decide +kernel
theorem dX6_knows_51 : decode cX6_knows 51 = .ok (.iaload, 1) := by decide +kernel
theorem dX6_knows_52 : decode cX6_knows 52 = .ok (.iconst 3, 1) := by decide +kernel
theorem dX6_knows_53 : decode cX6_knows 53 = .ok (.if_icmp .ne 15, 3) := by decide +kernel
theorem dX6_knows_56 : decode cX6_knows 56 = .ok (.iconst 1, 1) := by decide +kernel
theorem dX6_knows_57 : decode cX6_knows 57 = .ok (.aload_n 1, 1) := by decide +kernel
theorem dX6_knows_58 : decode cX6_knows 58 = .ok (.iload_n 2, 1) := by decide +kernel
theorem dX6_knows_59 : decode cX6_knows 59 = .ok (.iaload, 1) := by decide +kernel
theorem dX6_knows_60 : decode cX6_knows 60 = .ok (.iconst 1, 1) := by decide +kernel
theorem dX6_knows_61 : decode cX6_knows 61 = .ok (.iadd, 1) := by decide +kernel
theorem dX6_knows_62 : decode cX6_knows 62 = .ok (.iconst 4, 1) := by decide +kernel
theorem dX6_knows_63 : decode cX6_knows 63 = .ok (.irem, 1) := by decide +kernel
theorem dX6_knows_64 : decode cX6_knows 64 = .ok (.ishl, 1) := by decide +kernel
theorem dX6_knows_65 : decode cX6_knows 65 = .ok (.goto 4, 3) := by decide +kernel
theorem dX6_knows_68 : decode cX6_knows 68 = .ok (.iconst 0, 1) := by decide +kernel
theorem dX6_knows_69 : decode cX6_knows 69 = .ok (.ior, 1) := by decide +kernel
theorem dX6_knows_70 : decode cX6_knows 70 = .ok (.istore 4, 2) := by decide +kernel
theorem dX6_knows_72 : decode cX6_knows 72 = .ok (.iload 4, 2) := by decide +kernel
theorem dX6_knows_74 : decode cX6_knows 74 = .ok (.aload_n 0, 1) := by decide +kernel
theorem dX6_knows_75 : decode cX6_knows 75 = .ok (.getfield 33, 3) := by decide +kernel
theorem dX6_knows_78 : decode cX6_knows 78 = .ok (.iload_n 2, 1) := by decide +kernel
theorem dX6_knows_79 : decode cX6_knows 79 = .ok (.iaload, 1) := by decide +kernel
theorem dX6_knows_80 : decode cX6_knows 80 = .ok (.iconst 5, 1) := by decide +kernel
theorem dX6_knows_81 : decode cX6_knows 81 = .ok (.if_icmp .ne 23, 3) := by decide +kernel
theorem dX6_knows_84 : decode cX6_knows 84 = .ok (.iconst 1, 1) := by decide +kernel
theorem dX6_knows_85 : decode cX6_knows 85 = .ok (.aload_n 1, 1) := by decide +kernel
theorem dX6_knows_86 : decode cX6_knows 86 = .ok (.iload_n 2, 1) := by decide +kernel
theorem dX6_knows_87 : decode cX6_knows 87 = .ok (.aload_n 0, 1) := by decide +kernel
theorem dX6_knows_88 : decode cX6_knows 88 = .ok (.getfield 147, 3) := by decide +kernel
theorem dX6_knows_91 : decode cX6_knows 91 = .ok (.iadd, 1) := by decide +kernel
theorem dX6_knows_92 : decode cX6_knows 92 = .ok (.iconst 1, 1) := by decide +kernel
theorem dX6_knows_93 : decode cX6_knows 93 = .ok (.isub, 1) := by decide +kernel
theorem dX6_knows_94 : decode cX6_knows 94 = .ok (.aload_n 0, 1) := by decide +kernel
theorem dX6_knows_95 : decode cX6_knows 95 = .ok (.getfield 147, 3) := by decide +kernel
theorem dX6_knows_98 : decode cX6_knows 98 = .ok (.irem, 1) := by decide +kernel
theorem dX6_knows_99 : decode cX6_knows 99 = .ok (.iaload, 1) := by decide +kernel
theorem dX6_knows_100 : decode cX6_knows 100 = .ok (.ishl, 1) := by decide +kernel
theorem dX6_knows_101 : decode cX6_knows 101 = .ok (.goto 4, 3) := by decide +kernel
theorem dX6_knows_104 : decode cX6_knows 104 = .ok (.iconst 0, 1) := by decide +kernel
theorem dX6_knows_105 : decode cX6_knows 105 = .ok (.ior, 1) := by decide +kernel
theorem dX6_knows_106 : decode cX6_knows 106 = .ok (.istore 4, 2) := by decide +kernel
theorem dX6_knows_108 : decode cX6_knows 108 = .ok (.iload 4, 2) := by decide +kernel
theorem dX6_knows_110 : decode cX6_knows 110 = .ok (.ireturn, 1) := by decide +kernel
theorem dX6_knowsIn_0 : decode cX6_knowsIn 0 = .ok (.aload_n 0, 1) := by decide +kernel
theorem dX6_knowsIn_1 : decode cX6_knowsIn 1 = .ok (.aload_n 1, 1) := by decide +kernel
theorem dX6_knowsIn_2 : decode cX6_knowsIn 2 = .ok (.iload_n 2, 1) := by decide +kernel
theorem dX6_knowsIn_3 : decode cX6_knowsIn 3 = .ok (.aload_n 1, 1) := by decide +kernel
theorem dX6_knowsIn_4 : decode cX6_knowsIn 4 = .ok (.bipush 13, 2) := by decide +kernel
theorem dX6_knowsIn_6 : decode cX6_knowsIn 6 = .ok (.iaload, 1) := by decide +kernel
theorem dX6_knowsIn_7 : decode cX6_knowsIn 7 = .ok (.iconst 1, 1) := by decide +kernel
theorem dX6_knowsIn_8 : decode cX6_knowsIn 8 = .ok (.if_icmp .ne 7, 3) := by decide +kernel
theorem dX6_knowsIn_11 : decode cX6_knowsIn 11 = .ok (.iconst 1, 1) := by decide +kernel
theorem dX6_knowsIn_12 : decode cX6_knowsIn 12 = .ok (.goto 4, 3) := by decide +kernel
theorem dX6_knowsIn_15 : decode cX6_knowsIn 15 = .ok (.iconst 0, 1) := by decide +kernel
theorem dX6_knowsIn_16 : decode cX6_knowsIn 16 = .ok (.invokevirtual 156, 3) := by decide +kernel
theorem dX6_knowsIn_19 : decode cX6_knowsIn 19 = .ok (.ireturn, 1) := by decide +kernel
theorem dX6_isMute_0 : decode cX6_isMute 0 = .ok (.aload_n 0, 1) := by decide +kernel
theorem dX6_isMute_1 : decode cX6_isMute 1 = .ok (.getfield 33, 3) := by decide +kernel
theorem dX6_isMute_4 : decode cX6_isMute 4 = .ok (.iload_n 1, 1) := by decide +kernel
theorem dX6_isMute_5 : decode cX6_isMute 5 = .ok (.iaload, 1) := by decide +kernel
theorem dX6_isMute_6 : decode cX6_isMute 6 = .ok (.iconst 2, 1) := by decide +kernel
theorem dX6_isMute_7 : decode cX6_isMute 7 = .ok (.if_icmp .eq 13, 3) := by decide +kernel
theorem dX6_isMute_10 : decode cX6_isMute 10 = .ok (.aload_n 0, 1) := by decide +kernel
theorem dX6_isMute_11 : decode cX6_isMute 11 = .ok (.getfield 33, 3) := by decide +kernel
theorem dX6_isMute_14 : decode cX6_isMute 14 = .ok (.iload_n 1, 1) := by decide +kernel
theorem dX6_isMute_15 : decode cX6_isMute 15 = .ok (.iaload, 1) := by decide +kernel
theorem dX6_isMute_16 : decode cX6_isMute 16 = .ok (.iconst 4, 1) := by decide +kernel
theorem dX6_isMute_17 : decode cX6_isMute 17 = .ok (.if_icmp .ne 7, 3) := by decide +kernel
theorem dX6_isMute_20 : decode cX6_isMute 20 = .ok (.iconst 1, 1) := by decide +kernel
theorem dX6_isMute_21 : decode cX6_isMute 21 = .ok (.goto 4, 3) := by decide +kernel
theorem dX6_isMute_24 : decode cX6_isMute 24 = .ok (.iconst 0, 1) := by decide +kernel
theorem dX6_isMute_25 : decode cX6_isMute 25 = .ok (.ireturn, 1) := by decide +kernel
theorem dX6_isShut_0 : decode cX6_isShut 0 = .ok (.aload_n 0, 1) := by decide +kernel
theorem dX6_isShut_1 : decode cX6_isShut 1 = .ok (.getfield 33, 3) := by decide +kernel
theorem dX6_isShut_4 : decode cX6_isShut 4 = .ok (.iload_n 2, 1) := by decide +kernel
theorem dX6_isShut_5 : decode cX6_isShut 5 = .ok (.iaload, 1) := by decide +kernel
theorem dX6_isShut_6 : decode cX6_isShut 6 = .ok (.iconst 4, 1) := by decide +kernel
theorem dX6_isShut_7 : decode cX6_isShut 7 = .ok (.if_icmp .ne 14, 3) := by decide +kernel
theorem dX6_isShut_10 : decode cX6_isShut 10 = .ok (.aload_n 1, 1) := by decide +kernel
theorem dX6_isShut_11 : decode cX6_isShut 11 = .ok (.bipush 13, 2) := by decide +kernel
theorem dX6_isShut_13 : decode cX6_isShut 13 = .ok (.iaload, 1) := by decide +kernel
theorem dX6_isShut_14 : decode cX6_isShut 14 = .ok (.ifCond .ne 7, 3) := by decide +kernel
theorem dX6_isShut_17 : decode cX6_isShut 17 = .ok (.iconst 1, 1) := by decide +kernel
theorem dX6_isShut_18 : decode cX6_isShut 18 = .ok (.goto 4, 3) := by decide +kernel
theorem dX6_isShut_21 : decode cX6_isShut 21 = .ok (.iconst 0, 1) := by decide +kernel
theorem dX6_isShut_22 : decode cX6_isShut 22 = .ok (.ireturn, 1) := by decide +kernel
theorem dX6_isTold_0 : decode cX6_isTold 0 = .ok (.aload_n 1, 1) := by decide +kernel
theorem dX6_isTold_1 : decode cX6_isTold 1 = .ok (.bipush 6, 2) := by decide +kernel
theorem dX6_isTold_3 : decode cX6_isTold 3 = .ok (.iload_n 2, 1) := by decide +kernel
theorem dX6_isTold_4 : decode cX6_isTold 4 = .ok (.iadd, 1) := by decide +kernel
theorem dX6_isTold_5 : decode cX6_isTold 5 = .ok (.iaload, 1) := by decide +kernel
theorem dX6_isTold_6 : decode cX6_isTold 6 = .ok (.iload_n 3, 1) := by decide +kernel
theorem dX6_isTold_7 : decode cX6_isTold 7 = .ok (.invokestatic 123, 3) := by decide +kernel
theorem dX6_isTold_10 : decode cX6_isTold 10 = .ok (.ifCond .ne 36, 3) := by decide +kernel
theorem dX6_isTold_13 : decode cX6_isTold 13 = .ok (.aload_n 0, 1) := by decide +kernel
theorem dX6_isTold_14 : decode cX6_isTold 14 = .ok (.iload_n 2, 1) := by decide +kernel
theorem dX6_isTold_15 : decode cX6_isTold 15 = .ok (.invokevirtual 160, 3) := by decide +kernel
theorem dX6_isTold_18 : decode cX6_isTold 18 = .ok (.ifCond .ne 32, 3) := by decide +kernel
theorem dX6_isTold_21 : decode cX6_isTold 21 = .ok (.aload_n 0, 1) := by decide +kernel
theorem dX6_isTold_22 : decode cX6_isTold 22 = .ok (.aload_n 1, 1) := by decide +kernel
theorem dX6_isTold_23 : decode cX6_isTold 23 = .ok (.iload_n 3, 1) := by decide +kernel
theorem dX6_isTold_24 : decode cX6_isTold 24 = .ok (.invokevirtual 163, 3) := by decide +kernel
theorem dX6_isTold_27 : decode cX6_isTold 27 = .ok (.ifCond .ne 23, 3) := by decide +kernel
theorem dX6_isTold_30 : decode cX6_isTold 30 = .ok (.aload_n 0, 1) := by decide +kernel
theorem dX6_isTold_31 : decode cX6_isTold 31 = .ok (.aload_n 1, 1) := by decide +kernel
theorem dX6_isTold_32 : decode cX6_isTold 32 = .ok (.iload_n 2, 1) := by decide +kernel
theorem dX6_isTold_33 : decode cX6_isTold 33 = .ok (.invokevirtual 167, 3) := by decide +kernel
theorem dX6_isTold_36 : decode cX6_isTold 36 = .ok (.aload_n 0, 1) := by decide +kernel
theorem dX6_isTold_37 : decode cX6_isTold 37 = .ok (.aload_n 1, 1) := by decide +kernel
theorem dX6_isTold_38 : decode cX6_isTold 38 = .ok (.iload_n 3, 1) := by decide +kernel
theorem dX6_isTold_39 : decode cX6_isTold 39 = .ok (.invokevirtual 167, 3) := by decide +kernel
theorem dX6_isTold_42 : decode cX6_isTold 42 = .ok (.iand, 1) := by decide +kernel
theorem dX6_isTold_43 : decode cX6_isTold 43 = .ok (.ifCond .eq 7, 3) := by decide +kernel
theorem dX6_isTold_46 : decode cX6_isTold 46 = .ok (.iconst 1, 1) := by decide +kernel
theorem dX6_isTold_47 : decode cX6_isTold 47 = .ok (.goto 4, 3) := by decide +kernel
theorem dX6_isTold_50 : decode cX6_isTold 50 = .ok (.iconst 0, 1) := by decide +kernel
theorem dX6_isTold_51 : decode cX6_isTold 51 = .ok (.ireturn, 1) := by decide +kernel
theorem dX6_layTells_0 : decode cX6_layTells 0 = .ok (.iconst 0, 1) := by decide +kernel
theorem dX6_layTells_1 : decode cX6_layTells 1 = .ok (.istore_n 2, 1) := by decide +kernel
theorem dX6_layTells_2 : decode cX6_layTells 2 = .ok (.iload_n 2, 1) := by decide +kernel
theorem dX6_layTells_3 : decode cX6_layTells 3 = .ok (.aload_n 0, 1) := by decide +kernel
theorem dX6_layTells_4 : decode cX6_layTells 4 = .ok (.getfield 147, 3) := by decide +kernel
theorem dX6_layTells_7 : decode cX6_layTells 7 = .ok (.if_icmp .ge 63, 3) := by decide +kernel
theorem dX6_layTells_10 : decode cX6_layTells 10 = .ok (.aload_n 0, 1) := by decide +kernel
theorem dX6_layTells_11 : decode cX6_layTells 11 = .ok (.getfield 54, 3) := by decide +kernel
theorem dX6_layTells_14 : decode cX6_layTells 14 = .ok (.iload_n 2, 1) := by decide +kernel
theorem dX6_layTells_15 : decode cX6_layTells 15 = .ok (.iconst 0, 1) := by decide +kernel
theorem dX6_layTells_16 : decode cX6_layTells 16 = .ok (.iastore, 1) := by decide +kernel
theorem dX6_layTells_17 : decode cX6_layTells 17 = .ok (.iconst 0, 1) := by decide +kernel
theorem dX6_layTells_18 : decode cX6_layTells 18 = .ok (.istore_n 3, 1) := by decide +kernel
theorem dX6_layTells_19 : decode cX6_layTells 19 = .ok (.iload_n 3, 1) := by decide +kernel
theorem dX6_layTells_20 : decode cX6_layTells 20 = .ok (.aload_n 0, 1) := by decide +kernel
theorem dX6_layTells_21 : decode cX6_layTells 21 = .ok (.getfield 147, 3) := by decide +kernel
theorem dX6_layTells_24 : decode cX6_layTells 24 = .ok (.if_icmp .ge 40, 3) := by decide +kernel
theorem dX6_layTells_27 : decode cX6_layTells 27 = .ok (.aload_n 0, 1) := by decide +kernel
theorem dX6_layTells_28 : decode cX6_layTells 28 = .ok (.getfield 54, 3) := by decide +kernel
theorem dX6_layTells_31 : decode cX6_layTells 31 = .ok (.iload_n 2, 1) := by decide +kernel
theorem dX6_layTells_32 : decode cX6_layTells 32 = .ok (.dup2, 1) := by decide +kernel
theorem dX6_layTells_33 : decode cX6_layTells 33 = .ok (.iaload, 1) := by decide +kernel
theorem dX6_layTells_34 : decode cX6_layTells 34 = .ok (.iload_n 2, 1) := by decide +kernel
theorem dX6_layTells_35 : decode cX6_layTells 35 = .ok (.iload_n 3, 1) := by decide +kernel
theorem dX6_layTells_36 : decode cX6_layTells 36 = .ok (.if_icmp .eq 19, 3) := by decide +kernel
theorem dX6_layTells_39 : decode cX6_layTells 39 = .ok (.aload_n 0, 1) := by decide +kernel
theorem dX6_layTells_40 : decode cX6_layTells 40 = .ok (.aload_n 1, 1) := by decide +kernel
theorem dX6_layTells_41 : decode cX6_layTells 41 = .ok (.iload_n 2, 1) := by decide +kernel
theorem dX6_layTells_42 : decode cX6_layTells 42 = .ok (.iload_n 3, 1) := by decide +kernel
theorem dX6_layTells_43 : decode cX6_layTells 43 = .ok (.invokevirtual 171, 3) := by decide +kernel
theorem dX6_layTells_46 : decode cX6_layTells 46 = .ok (.ifCond .eq 9, 3) := by decide +kernel
theorem dX6_layTells_49 : decode cX6_layTells 49 = .ok (.iconst 1, 1) := by decide +kernel
theorem dX6_layTells_50 : decode cX6_layTells 50 = .ok (.iload_n 3, 1) := by decide +kernel
theorem dX6_layTells_51 : decode cX6_layTells 51 = .ok (.ishl, 1) := by decide +kernel
theorem dX6_layTells_52 : decode cX6_layTells 52 = .ok (.goto 4, 3) := by decide +kernel
theorem dX6_layTells_55 : decode cX6_layTells 55 = .ok (.iconst 0, 1) := by decide +kernel
theorem dX6_layTells_56 : decode cX6_layTells 56 = .ok (.ior, 1) := by decide +kernel
theorem dX6_layTells_57 : decode cX6_layTells 57 = .ok (.iastore, 1) := by decide +kernel
theorem dX6_layTells_58 : decode cX6_layTells 58 = .ok (.iinc 3 1, 3) := by decide +kernel
theorem dX6_layTells_61 : decode cX6_layTells 61 = .ok (.goto (-42), 3) := by decide +kernel
theorem dX6_layTells_64 : decode cX6_layTells 64 = .ok (.iinc 2 1, 3) := by decide +kernel
theorem dX6_layTells_67 : decode cX6_layTells 67 = .ok (.goto (-65), 3) := by decide +kernel
theorem dX6_layTells_70 : decode cX6_layTells 70 = .ok (.return_, 1) := by decide +kernel
theorem dX6_reaches_0 : decode cX6_reaches 0 = .ok (.iconst 1, 1) := by decide +kernel
theorem dX6_reaches_1 : decode cX6_reaches 1 = .ok (.iload_n 1, 1) := by decide +kernel
theorem dX6_reaches_2 : decode cX6_reaches 2 = .ok (.ishl, 1) := by decide +kernel
theorem dX6_reaches_3 : decode cX6_reaches 3 = .ok (.istore_n 3, 1) := by decide +kernel
theorem dX6_reaches_4 : decode cX6_reaches 4 = .ok (.iconst 0, 1) := by decide +kernel
theorem dX6_reaches_5 : decode cX6_reaches 5 = .ok (.istore 4, 2) := by decide +kernel
theorem dX6_reaches_7 : decode cX6_reaches 7 = .ok (.iload 4, 2) := by decide +kernel
theorem dX6_reaches_9 : decode cX6_reaches 9 = .ok (.iload_n 3, 1) := by decide +kernel
theorem dX6_reaches_10 : decode cX6_reaches 10 = .ok (.if_icmp .eq 66, 3) := by decide +kernel
theorem dX6_reaches_13 : decode cX6_reaches 13 = .ok (.iload_n 3, 1) := by decide +kernel
theorem dX6_reaches_14 : decode cX6_reaches 14 = .ok (.istore 4, 2) := by decide +kernel
theorem dX6_reaches_16 : decode cX6_reaches 16 = .ok (.iconst 0, 1) := by decide +kernel
theorem dX6_reaches_17 : decode cX6_reaches 17 = .ok (.istore 5, 2) := by decide +kernel
theorem dX6_reaches_19 : decode cX6_reaches 19 = .ok (.iload 5, 2) := by decide +kernel
theorem dX6_reaches_21 : decode cX6_reaches 21 = .ok (.aload_n 0, 1) := by decide +kernel
theorem dX6_reaches_22 : decode cX6_reaches 22 = .ok (.getfield 147, 3) := by decide +kernel
theorem dX6_reaches_25 : decode cX6_reaches 25 = .ok (.if_icmp .ge 48, 3) := by decide +kernel
theorem dX6_reaches_28 : decode cX6_reaches 28 = .ok (.iload_n 3, 1) := by decide +kernel
theorem dX6_reaches_29 : decode cX6_reaches 29 = .ok (.iload 4, 2) := by decide +kernel
theorem dX6_reaches_31 : decode cX6_reaches 31 = .ok (.iload 5, 2) := by decide +kernel
theorem dX6_reaches_33 : decode cX6_reaches 33 = .ok (.invokestatic 123, 3) := by decide +kernel
theorem dX6_reaches_36 : decode cX6_reaches 36 = .ok (.ifCond .eq 28, 3) := by decide +kernel
theorem dX6_reaches_39 : decode cX6_reaches 39 = .ok (.iload 5, 2) := by decide +kernel
theorem dX6_reaches_41 : decode cX6_reaches 41 = .ok (.iload_n 1, 1) := by decide +kernel
theorem dX6_reaches_42 : decode cX6_reaches 42 = .ok (.if_icmp .eq 12, 3) := by decide +kernel
theorem dX6_reaches_45 : decode cX6_reaches 45 = .ok (.iload_n 2, 1) := by decide +kernel
theorem dX6_reaches_46 : decode cX6_reaches 46 = .ok (.iload 5, 2) := by decide +kernel
theorem dX6_reaches_48 : decode cX6_reaches 48 = .ok (.invokestatic 123, 3) := by decide +kernel
theorem dX6_reaches_51 : decode cX6_reaches 51 = .ok (.ifCond .eq 13, 3) := by decide +kernel
theorem dX6_reaches_54 : decode cX6_reaches 54 = .ok (.aload_n 0, 1) := by decide +kernel
theorem dX6_reaches_55 : decode cX6_reaches 55 = .ok (.getfield 54, 3) := by decide +kernel
theorem dX6_reaches_58 : decode cX6_reaches 58 = .ok (.iload 5, 2) := by decide +kernel
theorem dX6_reaches_60 : decode cX6_reaches 60 = .ok (.iaload, 1) := by decide +kernel
theorem dX6_reaches_61 : decode cX6_reaches 61 = .ok (.goto 4, 3) := by decide +kernel
theorem dX6_reaches_64 : decode cX6_reaches 64 = .ok (.iconst 0, 1) := by decide +kernel
theorem dX6_reaches_65 : decode cX6_reaches 65 = .ok (.ior, 1) := by decide +kernel
theorem dX6_reaches_66 : decode cX6_reaches 66 = .ok (.istore_n 3, 1) := by decide +kernel
theorem dX6_reaches_67 : decode cX6_reaches 67 = .ok (.iinc 5 1, 3) := by decide +kernel
theorem dX6_reaches_70 : decode cX6_reaches 70 = .ok (.goto (-51), 3) := by decide +kernel
theorem dX6_reaches_73 : decode cX6_reaches 73 = .ok (.goto (-66), 3) := by decide +kernel
theorem dX6_reaches_76 : decode cX6_reaches 76 = .ok (.iload_n 3, 1) := by decide +kernel
theorem dX6_reaches_77 : decode cX6_reaches 77 = .ok (.ireturn, 1) := by decide +kernel
theorem dX6_everybody_0 : decode cX6_everybody 0 = .ok (.iconst 1, 1) := by decide +kernel
theorem dX6_everybody_1 : decode cX6_everybody 1 = .ok (.aload_n 0, 1) := by decide +kernel
theorem dX6_everybody_2 : decode cX6_everybody 2 = .ok (.getfield 147, 3) := by decide +kernel
theorem dX6_everybody_5 : decode cX6_everybody 5 = .ok (.ishl, 1) := by decide +kernel
theorem dX6_everybody_6 : decode cX6_everybody 6 = .ok (.iconst 1, 1) := by decide +kernel
theorem dX6_everybody_7 : decode cX6_everybody 7 = .ok (.isub, 1) := by decide +kernel
theorem dX6_everybody_8 : decode cX6_everybody 8 = .ok (.ireturn, 1) := by decide +kernel
theorem dX6_stepsOf_0 : decode cX6_stepsOf 0 = .ok (.iconst 1, 1) := by decide +kernel
theorem dX6_stepsOf_1 : decode cX6_stepsOf 1 = .ok (.iload_n 1, 1) := by decide +kernel
theorem dX6_stepsOf_2 : decode cX6_stepsOf 2 = .ok (.ishl, 1) := by decide +kernel
theorem dX6_stepsOf_3 : decode cX6_stepsOf 3 = .ok (.istore_n 3, 1) := by decide +kernel
theorem dX6_stepsOf_4 : decode cX6_stepsOf 4 = .ok (.iconst 0, 1) := by decide +kernel
theorem dX6_stepsOf_5 : decode cX6_stepsOf 5 = .ok (.istore 4, 2) := by decide +kernel
theorem dX6_stepsOf_7 : decode cX6_stepsOf 7 = .ok (.iload 4, 2) := by decide +kernel
theorem dX6_stepsOf_9 : decode cX6_stepsOf 9 = .ok (.aload_n 0, 1) := by decide +kernel
theorem dX6_stepsOf_10 : decode cX6_stepsOf 10 = .ok (.getfield 147, 3) := by decide +kernel
theorem dX6_stepsOf_13 : decode cX6_stepsOf 13 = .ok (.if_icmp .gt 69, 3) := by decide +kernel
theorem dX6_stepsOf_16 : decode cX6_stepsOf 16 = .ok (.iload_n 3, 1) := by decide +kernel
theorem dX6_stepsOf_17 : decode cX6_stepsOf 17 = .ok (.iload_n 2, 1) := by decide +kernel
theorem dX6_stepsOf_18 : decode cX6_stepsOf 18 = .ok (.invokestatic 123, 3) := by decide +kernel
theorem dX6_stepsOf_21 : decode cX6_stepsOf 21 = .ok (.ifCond .eq 6, 3) := by decide +kernel
theorem dX6_stepsOf_24 : decode cX6_stepsOf 24 = .ok (.iload 4, 2) := by decide +kernel
theorem dX6_stepsOf_26 : decode cX6_stepsOf 26 = .ok (.ireturn, 1) := by decide +kernel
theorem dX6_stepsOf_27 : decode cX6_stepsOf 27 = .ok (.iload_n 3, 1) := by decide +kernel
theorem dX6_stepsOf_28 : decode cX6_stepsOf 28 = .ok (.istore 5, 2) := by decide +kernel
theorem dX6_stepsOf_30 : decode cX6_stepsOf 30 = .ok (.iconst 0, 1) := by decide +kernel
theorem dX6_stepsOf_31 : decode cX6_stepsOf 31 = .ok (.istore 6, 2) := by decide +kernel
theorem dX6_stepsOf_33 : decode cX6_stepsOf 33 = .ok (.iload 6, 2) := by decide +kernel
theorem dX6_stepsOf_35 : decode cX6_stepsOf 35 = .ok (.aload_n 0, 1) := by decide +kernel
theorem dX6_stepsOf_36 : decode cX6_stepsOf 36 = .ok (.getfield 147, 3) := by decide +kernel
theorem dX6_stepsOf_39 : decode cX6_stepsOf 39 = .ok (.if_icmp .ge 34, 3) := by decide +kernel
theorem dX6_stepsOf_42 : decode cX6_stepsOf 42 = .ok (.iload 5, 2) := by decide +kernel
theorem dX6_stepsOf_44 : decode cX6_stepsOf 44 = .ok (.iload_n 3, 1) := by decide +kernel
theorem dX6_stepsOf_45 : decode cX6_stepsOf 45 = .ok (.iload 6, 2) := by decide +kernel
theorem dX6_stepsOf_47 : decode cX6_stepsOf 47 = .ok (.invokestatic 123, 3) := by decide +kernel
theorem dX6_stepsOf_50 : decode cX6_stepsOf 50 = .ok (.ifCond .eq 13, 3) := by decide +kernel
theorem dX6_stepsOf_53 : decode cX6_stepsOf 53 = .ok (.aload_n 0, 1) := by decide +kernel
theorem dX6_stepsOf_54 : decode cX6_stepsOf 54 = .ok (.getfield 54, 3) := by decide +kernel
theorem dX6_stepsOf_57 : decode cX6_stepsOf 57 = .ok (.iload 6, 2) := by decide +kernel
theorem dX6_stepsOf_59 : decode cX6_stepsOf 59 = .ok (.iaload, 1) := by decide +kernel
theorem dX6_stepsOf_60 : decode cX6_stepsOf 60 = .ok (.goto 4, 3) := by decide +kernel
theorem dX6_stepsOf_63 : decode cX6_stepsOf 63 = .ok (.iconst 0, 1) := by decide +kernel
theorem dX6_stepsOf_64 : decode cX6_stepsOf 64 = .ok (.ior, 1) := by decide +kernel
theorem dX6_stepsOf_65 : decode cX6_stepsOf 65 = .ok (.istore 5, 2) := by decide +kernel
theorem dX6_stepsOf_67 : decode cX6_stepsOf 67 = .ok (.iinc 6 1, 3) := by decide +kernel
theorem dX6_stepsOf_70 : decode cX6_stepsOf 70 = .ok (.goto (-37), 3) := by decide +kernel
theorem dX6_stepsOf_73 : decode cX6_stepsOf 73 = .ok (.iload 5, 2) := by decide +kernel
theorem dX6_stepsOf_75 : decode cX6_stepsOf 75 = .ok (.istore_n 3, 1) := by decide +kernel
theorem dX6_stepsOf_76 : decode cX6_stepsOf 76 = .ok (.iinc 4 1, 3) := by decide +kernel
theorem dX6_stepsOf_79 : decode cX6_stepsOf 79 = .ok (.goto (-72), 3) := by decide +kernel
theorem dX6_stepsOf_82 : decode cX6_stepsOf 82 = .ok (.bipush (-9), 2) := by decide +kernel
theorem dX6_stepsOf_84 : decode cX6_stepsOf 84 = .ok (.ireturn, 1) := by decide +kernel
theorem dX6_personTells_0 : decode cX6_personTells 0 = .ok (.iload_n 2, 1) := by decide +kernel
theorem dX6_personTells_1 : decode cX6_personTells 1 = .ok (.tableswitch 62 0 3 #[31, 38, 45, 55], 31) := by decide +kernel
theorem dX6_personTells_32 : decode cX6_personTells 32 = .ok (.aload_n 0, 1) := by decide +kernel
theorem dX6_personTells_33 : decode cX6_personTells 33 = .ok (.getfield 33, 3) := by decide +kernel
theorem dX6_personTells_36 : decode cX6_personTells 36 = .ok (.iload_n 1, 1) := by decide +kernel
theorem dX6_personTells_37 : decode cX6_personTells 37 = .ok (.iaload, 1) := by decide +kernel
theorem dX6_personTells_38 : decode cX6_personTells 38 = .ok (.ireturn, 1) := by decide +kernel
theorem dX6_personTells_39 : decode cX6_personTells 39 = .ok (.aload_n 0, 1) := by decide +kernel
theorem dX6_personTells_40 : decode cX6_personTells 40 = .ok (.getfield 48, 3) := by decide +kernel
theorem dX6_personTells_43 : decode cX6_personTells 43 = .ok (.iload_n 1, 1) := by decide +kernel
theorem dX6_personTells_44 : decode cX6_personTells 44 = .ok (.iaload, 1) := by decide +kernel
theorem dX6_personTells_45 : decode cX6_personTells 45 = .ok (.ireturn, 1) := by decide +kernel
theorem dX6_personTells_46 : decode cX6_personTells 46 = .ok (.aload_n 0, 1) := by decide +kernel
theorem dX6_personTells_47 : decode cX6_personTells 47 = .ok (.aload_n 0, 1) := by decide +kernel
theorem dX6_personTells_48 : decode cX6_personTells 48 = .ok (.getfield 48, 3) := by decide +kernel
theorem dX6_personTells_51 : decode cX6_personTells 51 = .ok (.iload_n 1, 1) := by decide +kernel
theorem dX6_personTells_52 : decode cX6_personTells 52 = .ok (.invokevirtual 167, 3) := by decide +kernel
theorem dX6_personTells_55 : decode cX6_personTells 55 = .ok (.ireturn, 1) := by decide +kernel
theorem dX6_personTells_56 : decode cX6_personTells 56 = .ok (.aload_n 0, 1) := by decide +kernel
theorem dX6_personTells_57 : decode cX6_personTells 57 = .ok (.getfield 36, 3) := by decide +kernel
theorem dX6_personTells_60 : decode cX6_personTells 60 = .ok (.iload_n 1, 1) := by decide +kernel
theorem dX6_personTells_61 : decode cX6_personTells 61 = .ok (.iaload, 1) := by decide +kernel
theorem dX6_personTells_62 : decode cX6_personTells 62 = .ok (.ireturn, 1) := by decide +kernel
theorem dX6_personTells_63 : decode cX6_personTells 63 = .ok (.aload_n 0, 1) := by decide +kernel
theorem dX6_personTells_64 : decode cX6_personTells 64 = .ok (.getfield 48, 3) := by decide +kernel
theorem dX6_personTells_67 : decode cX6_personTells 67 = .ok (.bipush 6, 2) := by decide +kernel
theorem dX6_personTells_69 : decode cX6_personTells 69 = .ok (.iload_n 1, 1) := by decide +kernel
theorem dX6_personTells_70 : decode cX6_personTells 70 = .ok (.iadd, 1) := by decide +kernel
theorem dX6_personTells_71 : decode cX6_personTells 71 = .ok (.iaload, 1) := by decide +kernel
theorem dX6_personTells_72 : decode cX6_personTells 72 = .ok (.ireturn, 1) := by decide +kernel
theorem dX6_person_0 : decode cX6_person 0 = .ok (.aload_n 0, 1) := by decide +kernel
theorem dX6_person_1 : decode cX6_person 1 = .ok (.iload_n 1, 1) := by decide +kernel
theorem dX6_person_2 : decode cX6_person 2 = .ok (.invokevirtual 175, 3) := by decide +kernel
theorem dX6_person_5 : decode cX6_person 5 = .ok (.ifCond .eq 26, 3) := by decide +kernel
theorem dX6_person_8 : decode cX6_person 8 = .ok (.iload_n 2, 1) := by decide +kernel
theorem dX6_person_9 : decode cX6_person 9 = .ok (.iconst 0, 1) := by decide +kernel
theorem dX6_person_10 : decode cX6_person 10 = .ok (.iconst 4, 1) := by decide +kernel
theorem dX6_person_11 : decode cX6_person 11 = .ok (.invokestatic 86, 3) := by decide +kernel
theorem dX6_person_14 : decode cX6_person 14 = .ok (.ifCond .eq 17, 3) := by decide +kernel
theorem dX6_person_17 : decode cX6_person 17 = .ok (.aload_n 0, 1) := by decide +kernel
theorem dX6_person_18 : decode cX6_person 18 = .ok (.aload_n 0, 1) := by decide +kernel
theorem dX6_person_19 : decode cX6_person 19 = .ok (.iload_n 1, 1) := by decide +kernel
theorem dX6_person_20 : decode cX6_person 20 = .ok (.iload_n 2, 1) := by decide +kernel
theorem dX6_person_21 : decode cX6_person 21 = .ok (.invokevirtual 178, 3) := by decide +kernel
theorem dX6_person_24 : decode cX6_person 24 = .ok (.iconst 1, 1) := by decide +kernel
theorem dX6_person_25 : decode cX6_person 25 = .ok (.invokevirtual 108, 3) := by decide +kernel
theorem dX6_person_28 : decode cX6_person 28 = .ok (.goto 4, 3) := by decide +kernel
theorem dX6_person_31 : decode cX6_person 31 = .ok (.iconst (-1), 1) := by decide +kernel
theorem dX6_person_32 : decode cX6_person 32 = .ok (.ireturn, 1) := by decide +kernel
theorem dX6_othersKnow_0 : decode cX6_othersKnow 0 = .ok (.iconst 0, 1) := by decide +kernel
theorem dX6_othersKnow_1 : decode cX6_othersKnow 1 = .ok (.istore_n 3, 1) := by decide +kernel
theorem dX6_othersKnow_2 : decode cX6_othersKnow 2 = .ok (.iconst 0, 1) := by decide +kernel
theorem dX6_othersKnow_3 : decode cX6_othersKnow 3 = .ok (.istore 4, 2) := by decide +kernel
theorem dX6_othersKnow_5 : decode cX6_othersKnow 5 = .ok (.iload 4, 2) := by decide +kernel
theorem dX6_othersKnow_7 : decode cX6_othersKnow 7 = .ok (.aload_n 0, 1) := by decide +kernel
theorem dX6_othersKnow_8 : decode cX6_othersKnow 8 = .ok (.getfield 147, 3) := by decide +kernel
theorem dX6_othersKnow_11 : decode cX6_othersKnow 11 = .ok (.if_icmp .ge 38, 3) := by decide +kernel
theorem dX6_othersKnow_14 : decode cX6_othersKnow 14 = .ok (.iload_n 3, 1) := by decide +kernel
theorem dX6_othersKnow_15 : decode cX6_othersKnow 15 = .ok (.iload 4, 2) := by decide +kernel
theorem dX6_othersKnow_17 : decode cX6_othersKnow 17 = .ok (.iload_n 1, 1) := by decide +kernel
theorem dX6_othersKnow_18 : decode cX6_othersKnow 18 = .ok (.if_icmp .eq 22, 3) := by decide +kernel
theorem dX6_othersKnow_21 : decode cX6_othersKnow 21 = .ok (.aload_n 0, 1) := by decide +kernel
theorem dX6_othersKnow_22 : decode cX6_othersKnow 22 = .ok (.aload_n 0, 1) := by decide +kernel
theorem dX6_othersKnow_23 : decode cX6_othersKnow 23 = .ok (.getfield 48, 3) := by decide +kernel
theorem dX6_othersKnow_26 : decode cX6_othersKnow 26 = .ok (.iload 4, 2) := by decide +kernel
theorem dX6_othersKnow_28 : decode cX6_othersKnow 28 = .ok (.invokevirtual 167, 3) := by decide +kernel
theorem dX6_othersKnow_31 : decode cX6_othersKnow 31 = .ok (.iload_n 2, 1) := by decide +kernel
theorem dX6_othersKnow_32 : decode cX6_othersKnow 32 = .ok (.iand, 1) := by decide +kernel
theorem dX6_othersKnow_33 : decode cX6_othersKnow 33 = .ok (.ifCond .eq 7, 3) := by decide +kernel
theorem dX6_othersKnow_36 : decode cX6_othersKnow 36 = .ok (.iconst 1, 1) := by decide +kernel
theorem dX6_othersKnow_37 : decode cX6_othersKnow 37 = .ok (.goto 4, 3) := by decide +kernel
theorem dX6_othersKnow_40 : decode cX6_othersKnow 40 = .ok (.iconst 0, 1) := by decide +kernel
theorem dX6_othersKnow_41 : decode cX6_othersKnow 41 = .ok (.iadd, 1) := by decide +kernel
theorem dX6_othersKnow_42 : decode cX6_othersKnow 42 = .ok (.istore_n 3, 1) := by decide +kernel
theorem dX6_othersKnow_43 : decode cX6_othersKnow 43 = .ok (.iinc 4 1, 3) := by decide +kernel
theorem dX6_othersKnow_46 : decode cX6_othersKnow 46 = .ok (.goto (-41), 3) := by decide +kernel
theorem dX6_othersKnow_49 : decode cX6_othersKnow 49 = .ok (.iload_n 3, 1) := by decide +kernel
theorem dX6_othersKnow_50 : decode cX6_othersKnow 50 = .ok (.ireturn, 1) := by decide +kernel
theorem dX6_tellersOf_0 : decode cX6_tellersOf 0 = .ok (.iconst 0, 1) := by decide +kernel
theorem dX6_tellersOf_1 : decode cX6_tellersOf 1 = .ok (.istore_n 2, 1) := by decide +kernel
theorem dX6_tellersOf_2 : decode cX6_tellersOf 2 = .ok (.iconst 0, 1) := by decide +kernel
theorem dX6_tellersOf_3 : decode cX6_tellersOf 3 = .ok (.istore_n 3, 1) := by decide +kernel
theorem dX6_tellersOf_4 : decode cX6_tellersOf 4 = .ok (.iload_n 3, 1) := by decide +kernel
theorem dX6_tellersOf_5 : decode cX6_tellersOf 5 = .ok (.aload_n 0, 1) := by decide +kernel
theorem dX6_tellersOf_6 : decode cX6_tellersOf 6 = .ok (.getfield 147, 3) := by decide +kernel
theorem dX6_tellersOf_9 : decode cX6_tellersOf 9 = .ok (.if_icmp .ge 35, 3) := by decide +kernel
theorem dX6_tellersOf_12 : decode cX6_tellersOf 12 = .ok (.iload_n 2, 1) := by decide +kernel
theorem dX6_tellersOf_13 : decode cX6_tellersOf 13 = .ok (.iload_n 3, 1) := by decide +kernel
theorem dX6_tellersOf_14 : decode cX6_tellersOf 14 = .ok (.iload_n 1, 1) := by decide +kernel
theorem dX6_tellersOf_15 : decode cX6_tellersOf 15 = .ok (.if_icmp .eq 20, 3) := by decide +kernel
theorem dX6_tellersOf_18 : decode cX6_tellersOf 18 = .ok (.aload_n 0, 1) := by decide +kernel
theorem dX6_tellersOf_19 : decode cX6_tellersOf 19 = .ok (.aload_n 0, 1) := by decide +kernel
theorem dX6_tellersOf_20 : decode cX6_tellersOf 20 = .ok (.getfield 48, 3) := by decide +kernel
theorem dX6_tellersOf_23 : decode cX6_tellersOf 23 = .ok (.iload_n 3, 1) := by decide +kernel
theorem dX6_tellersOf_24 : decode cX6_tellersOf 24 = .ok (.iload_n 1, 1) := by decide +kernel
theorem dX6_tellersOf_25 : decode cX6_tellersOf 25 = .ok (.invokevirtual 171, 3) := by decide +kernel
theorem dX6_tellersOf_28 : decode cX6_tellersOf 28 = .ok (.ifCond .eq 7, 3) := by decide +kernel
theorem dX6_tellersOf_31 : decode cX6_tellersOf 31 = .ok (.iconst 1, 1) := by decide +kernel
theorem dX6_tellersOf_32 : decode cX6_tellersOf 32 = .ok (.goto 4, 3) := by decide +kernel
theorem dX6_tellersOf_35 : decode cX6_tellersOf 35 = .ok (.iconst 0, 1) := by decide +kernel
theorem dX6_tellersOf_36 : decode cX6_tellersOf 36 = .ok (.iadd, 1) := by decide +kernel
theorem dX6_tellersOf_37 : decode cX6_tellersOf 37 = .ok (.istore_n 2, 1) := by decide +kernel
theorem dX6_tellersOf_38 : decode cX6_tellersOf 38 = .ok (.iinc 3 1, 3) := by decide +kernel
theorem dX6_tellersOf_41 : decode cX6_tellersOf 41 = .ok (.goto (-37), 3) := by decide +kernel
theorem dX6_tellersOf_44 : decode cX6_tellersOf 44 = .ok (.iload_n 2, 1) := by decide +kernel
theorem dX6_tellersOf_45 : decode cX6_tellersOf 45 = .ok (.ireturn, 1) := by decide +kernel
theorem dX6_mark_0 : decode cX6_mark 0 = .ok (.aload_n 0, 1) := by decide +kernel
theorem dX6_mark_1 : decode cX6_mark 1 = .ok (.iload_n 1, 1) := by decide +kernel
theorem dX6_mark_2 : decode cX6_mark 2 = .ok (.invokevirtual 175, 3) := by decide +kernel
theorem dX6_mark_5 : decode cX6_mark 5 = .ok (.ifCond .eq 12, 3) := by decide +kernel
theorem dX6_mark_8 : decode cX6_mark 8 = .ok (.iload_n 2, 1) := by decide +kernel
theorem dX6_mark_9 : decode cX6_mark 9 = .ok (.iconst 1, 1) := by decide +kernel
theorem dX6_mark_10 : decode cX6_mark 10 = .ok (.iconst 5, 1) := by decide +kernel
theorem dX6_mark_11 : decode cX6_mark 11 = .ok (.invokestatic 86, 3) := by decide +kernel
theorem dX6_mark_14 : decode cX6_mark 14 = .ok (.ifCond .ne 5, 3) := by decide +kernel
theorem dX6_mark_17 : decode cX6_mark 17 = .ok (.iconst (-1), 1) := by decide +kernel
theorem dX6_mark_18 : decode cX6_mark 18 = .ok (.ireturn, 1) := by decide +kernel
theorem dX6_mark_19 : decode cX6_mark 19 = .ok (.aload_n 0, 1) := by decide +kernel
theorem dX6_mark_20 : decode cX6_mark 20 = .ok (.getfield 33, 3) := by decide +kernel
theorem dX6_mark_23 : decode cX6_mark 23 = .ok (.iload_n 1, 1) := by decide +kernel
theorem dX6_mark_24 : decode cX6_mark 24 = .ok (.iaload, 1) := by decide +kernel
theorem dX6_mark_25 : decode cX6_mark 25 = .ok (.istore_n 3, 1) := by decide +kernel
theorem dX6_mark_26 : decode cX6_mark 26 = .ok (.iload_n 3, 1) := by decide +kernel
theorem dX6_mark_27 : decode cX6_mark 27 = .ok (.iload_n 2, 1) := by decide +kernel
theorem dX6_mark_28 : decode cX6_mark 28 = .ok (.if_icmp .eq 29, 3) := by decide +kernel
theorem dX6_mark_31 : decode cX6_mark 31 = .ok (.iload_n 2, 1) := by decide +kernel
theorem dX6_mark_32 : decode cX6_mark 32 = .ok (.iconst 1, 1) := by decide +kernel
theorem dX6_mark_33 : decode cX6_mark 33 = .ok (.if_icmp .ne 8, 3) := by decide +kernel
theorem dX6_mark_36 : decode cX6_mark 36 = .ok (.iload_n 3, 1) := by decide +kernel
theorem dX6_mark_37 : decode cX6_mark 37 = .ok (.iconst 3, 1) := by decide +kernel
theorem dX6_mark_38 : decode cX6_mark 38 = .ok (.if_icmp .eq 19, 3) := by decide +kernel
theorem dX6_mark_41 : decode cX6_mark 41 = .ok (.iload_n 2, 1) := by decide +kernel
theorem dX6_mark_42 : decode cX6_mark 42 = .ok (.iconst 2, 1) := by decide +kernel
theorem dX6_mark_43 : decode cX6_mark 43 = .ok (.if_icmp .ne 8, 3) := by decide +kernel
theorem dX6_mark_46 : decode cX6_mark 46 = .ok (.iload_n 3, 1) := by decide +kernel
theorem dX6_mark_47 : decode cX6_mark 47 = .ok (.iconst 4, 1) := by decide +kernel
theorem dX6_mark_48 : decode cX6_mark 48 = .ok (.if_icmp .eq 9, 3) := by decide +kernel
theorem dX6_mark_51 : decode cX6_mark 51 = .ok (.aload_n 0, 1) := by decide +kernel
theorem dX6_mark_52 : decode cX6_mark 52 = .ok (.iconst 3, 1) := by decide +kernel
theorem dX6_mark_53 : decode cX6_mark 53 = .ok (.invokevirtual 100, 3) := by decide +kernel
theorem dX6_mark_56 : decode cX6_mark 56 = .ok (.ireturn, 1) := by decide +kernel
theorem dX6_mark_57 : decode cX6_mark 57 = .ok (.iload_n 2, 1) := by decide +kernel
theorem dX6_mark_58 : decode cX6_mark 58 = .ok (.tableswitch 97 1 4 #[30, 58, 64, 82], 30) := by decide +kernel
theorem dX6_mark_88 : decode cX6_mark 88 = .ok (.aload_n 0, 1) := by decide +kernel
theorem dX6_mark_89 : decode cX6_mark 89 = .ok (.aload_n 0, 1) := by decide +kernel
theorem dX6_mark_90 : decode cX6_mark 90 = .ok (.getfield 48, 3) := by decide +kernel
theorem dX6_mark_93 : decode cX6_mark 93 = .ok (.iload_n 1, 1) := by decide +kernel
theorem dX6_mark_94 : decode cX6_mark 94 = .ok (.iconst 1, 1) := by decide +kernel
theorem dX6_mark_95 : decode cX6_mark 95 = .ok (.invokevirtual 156, 3) := by decide +kernel
theorem dX6_mark_98 : decode cX6_mark 98 = .ok (.invokestatic 181, 3) := by decide +kernel
theorem dX6_mark_101 : decode cX6_mark 101 = .ok (.aload_n 0, 1) := by decide +kernel
theorem dX6_mark_102 : decode cX6_mark 102 = .ok (.aload_n 0, 1) := by decide +kernel
theorem dX6_mark_103 : decode cX6_mark 103 = .ok (.getfield 48, 3) := by decide +kernel
theorem dX6_mark_106 : decode cX6_mark 106 = .ok (.iload_n 1, 1) := by decide +kernel
theorem dX6_mark_107 : decode cX6_mark 107 = .ok (.iconst 0, 1) := by decide +kernel
theorem dX6_mark_108 : decode cX6_mark 108 = .ok (.invokevirtual 156, 3) := by decide +kernel
theorem dX6_mark_111 : decode cX6_mark 111 = .ok (.invokestatic 181, 3) := by decide +kernel
theorem dX6_mark_114 : decode cX6_mark 114 = .ok (.isub, 1) := by decide +kernel
theorem dX6_mark_115 : decode cX6_mark 115 = .ok (.ireturn, 1) := by decide +kernel
theorem dX6_mark_116 : decode cX6_mark 116 = .ok (.aload_n 0, 1) := by decide +kernel
theorem dX6_mark_117 : decode cX6_mark 117 = .ok (.iload_n 1, 1) := by decide +kernel
theorem dX6_mark_118 : decode cX6_mark 118 = .ok (.invokevirtual 184, 3) := by decide +kernel
theorem dX6_mark_121 : decode cX6_mark 121 = .ok (.ireturn, 1) := by decide +kernel
theorem dX6_mark_122 : decode cX6_mark 122 = .ok (.aload_n 0, 1) := by decide +kernel
theorem dX6_mark_123 : decode cX6_mark 123 = .ok (.iload_n 1, 1) := by decide +kernel
theorem dX6_mark_124 : decode cX6_mark 124 = .ok (.iconst 1, 1) := by decide +kernel
theorem dX6_mark_125 : decode cX6_mark 125 = .ok (.aload_n 0, 1) := by decide +kernel
theorem dX6_mark_126 : decode cX6_mark 126 = .ok (.getfield 48, 3) := by decide +kernel
theorem dX6_mark_129 : decode cX6_mark 129 = .ok (.iload_n 1, 1) := by decide +kernel
theorem dX6_mark_130 : decode cX6_mark 130 = .ok (.iaload, 1) := by decide +kernel
theorem dX6_mark_131 : decode cX6_mark 131 = .ok (.iconst 1, 1) := by decide +kernel
theorem dX6_mark_132 : decode cX6_mark 132 = .ok (.iadd, 1) := by decide +kernel
theorem dX6_mark_133 : decode cX6_mark 133 = .ok (.iconst 4, 1) := by decide +kernel
theorem dX6_mark_134 : decode cX6_mark 134 = .ok (.irem, 1) := by decide +kernel
theorem dX6_mark_135 : decode cX6_mark 135 = .ok (.ishl, 1) := by decide +kernel
theorem dX6_mark_136 : decode cX6_mark 136 = .ok (.invokevirtual 187, 3) := by decide +kernel
theorem dX6_mark_139 : decode cX6_mark 139 = .ok (.ireturn, 1) := by decide +kernel
theorem dX6_mark_140 : decode cX6_mark 140 = .ok (.aload_n 0, 1) := by decide +kernel
theorem dX6_mark_141 : decode cX6_mark 141 = .ok (.iload_n 1, 1) := by decide +kernel
theorem dX6_mark_142 : decode cX6_mark 142 = .ok (.aload_n 0, 1) := by decide +kernel
theorem dX6_mark_143 : decode cX6_mark 143 = .ok (.aload_n 0, 1) := by decide +kernel
theorem dX6_mark_144 : decode cX6_mark 144 = .ok (.getfield 48, 3) := by decide +kernel
theorem dX6_mark_147 : decode cX6_mark 147 = .ok (.iload_n 1, 1) := by decide +kernel
theorem dX6_mark_148 : decode cX6_mark 148 = .ok (.invokevirtual 167, 3) := by decide +kernel
theorem dX6_mark_151 : decode cX6_mark 151 = .ok (.invokevirtual 187, 3) := by decide +kernel
theorem dX6_mark_154 : decode cX6_mark 154 = .ok (.ireturn, 1) := by decide +kernel
theorem dX6_mark_155 : decode cX6_mark 155 = .ok (.aload_n 0, 1) := by decide +kernel
theorem dX6_mark_156 : decode cX6_mark 156 = .ok (.aload_n 0, 1) := by decide +kernel
theorem dX6_mark_157 : decode cX6_mark 157 = .ok (.getfield 48, 3) := by decide +kernel
theorem dX6_mark_160 : decode cX6_mark 160 = .ok (.iload_n 1, 1) := by decide +kernel
theorem dX6_mark_161 : decode cX6_mark 161 = .ok (.invokevirtual 167, 3) := by decide +kernel
theorem dX6_mark_164 : decode cX6_mark 164 = .ok (.invokestatic 181, 3) := by decide +kernel
theorem dX6_mark_167 : decode cX6_mark 167 = .ok (.ireturn, 1) := by decide +kernel
theorem dX6_remember_0 : decode cX6_remember 0 = .ok (.iconst 0, 1) := by decide +kernel
theorem dX6_remember_1 : decode cX6_remember 1 = .ok (.istore_n 1, 1) := by decide +kernel
theorem dX6_remember_2 : decode cX6_remember 2 = .ok (.iload_n 1, 1) := by decide +kernel
theorem dX6_remember_3 : decode cX6_remember 3 = .ok (.bipush 14, 2) := by decide +kernel
theorem dX6_remember_5 : decode cX6_remember 5 = .ok (.if_icmp .ge 29, 3) := by decide +kernel
theorem dX6_remember_8 : decode cX6_remember 8 = .ok (.aload_n 0, 1) := by decide +kernel
theorem dX6_remember_9 : decode cX6_remember 9 = .ok (.getfield 57, 3) := by decide +kernel
theorem dX6_remember_12 : decode cX6_remember 12 = .ok (.bipush 14, 2) := by decide +kernel
theorem dX6_remember_14 : decode cX6_remember 14 = .ok (.aload_n 0, 1) := by decide +kernel
theorem dX6_remember_15 : decode cX6_remember 15 = .ok (.getfield 150, 3) := by decide +kernel
theorem dX6_remember_18 : decode cX6_remember 18 = .ok (.imul, 1) := by decide +kernel
theorem dX6_remember_19 : decode cX6_remember 19 = .ok (.iload_n 1, 1) := by decide +kernel
theorem dX6_remember_20 : decode cX6_remember 20 = .ok (.iadd, 1) := by decide +kernel
theorem dX6_remember_21 : decode cX6_remember 21 = .ok (.aload_n 0, 1) := by decide +kernel
theorem dX6_remember_22 : decode cX6_remember 22 = .ok (.getfield 48, 3) := by decide +kernel
theorem dX6_remember_25 : decode cX6_remember 25 = .ok (.iload_n 1, 1) := by decide +kernel
theorem dX6_remember_26 : decode cX6_remember 26 = .ok (.iaload, 1) := by decide +kernel
theorem dX6_remember_27 : decode cX6_remember 27 = .ok (.iastore, 1) := by decide +kernel
theorem dX6_remember_28 : decode cX6_remember 28 = .ok (.iinc 1 1, 3) := by decide +kernel
theorem dX6_remember_31 : decode cX6_remember 31 = .ok (.goto (-29), 3) := by decide +kernel
theorem dX6_remember_34 : decode cX6_remember 34 = .ok (.aload_n 0, 1) := by decide +kernel
theorem dX6_remember_35 : decode cX6_remember 35 = .ok (.dup, 1) := by decide +kernel
theorem dX6_remember_36 : decode cX6_remember 36 = .ok (.getfield 150, 3) := by decide +kernel
theorem dX6_remember_39 : decode cX6_remember 39 = .ok (.iconst 1, 1) := by decide +kernel
theorem dX6_remember_40 : decode cX6_remember 40 = .ok (.iadd, 1) := by decide +kernel
theorem dX6_remember_41 : decode cX6_remember 41 = .ok (.putfield 150, 3) := by decide +kernel
theorem dX6_remember_44 : decode cX6_remember 44 = .ok (.return_, 1) := by decide +kernel
theorem dX6_agrees_0 : decode cX6_agrees 0 = .ok (.iconst 1, 1) := by decide +kernel
theorem dX6_agrees_1 : decode cX6_agrees 1 = .ok (.istore_n 3, 1) := by decide +kernel
theorem dX6_agrees_2 : decode cX6_agrees 2 = .ok (.iconst 0, 1) := by decide +kernel
theorem dX6_agrees_3 : decode cX6_agrees 3 = .ok (.istore 4, 2) := by decide +kernel
theorem dX6_agrees_5 : decode cX6_agrees 5 = .ok (.iload 4, 2) := by decide +kernel
theorem dX6_agrees_7 : decode cX6_agrees 7 = .ok (.aload_n 0, 1) := by decide +kernel
theorem dX6_agrees_8 : decode cX6_agrees 8 = .ok (.getfield 147, 3) := by decide +kernel
theorem dX6_agrees_11 : decode cX6_agrees 11 = .ok (.if_icmp .ge 73, 3) := by decide +kernel
theorem dX6_agrees_14 : decode cX6_agrees 14 = .ok (.iconst 0, 1) := by decide +kernel
theorem dX6_agrees_15 : decode cX6_agrees 15 = .ok (.istore 5, 2) := by decide +kernel
theorem dX6_agrees_17 : decode cX6_agrees 17 = .ok (.iload 5, 2) := by decide +kernel
theorem dX6_agrees_19 : decode cX6_agrees 19 = .ok (.aload_n 0, 1) := by decide +kernel
theorem dX6_agrees_20 : decode cX6_agrees 20 = .ok (.getfield 147, 3) := by decide +kernel
theorem dX6_agrees_23 : decode cX6_agrees 23 = .ok (.if_icmp .ge 55, 3) := by decide +kernel
theorem dX6_agrees_26 : decode cX6_agrees 26 = .ok (.iload_n 3, 1) := by decide +kernel
theorem dX6_agrees_27 : decode cX6_agrees 27 = .ok (.ifCond .eq 43, 3) := by decide +kernel
theorem dX6_agrees_30 : decode cX6_agrees 30 = .ok (.aload_n 0, 1) := by decide +kernel
theorem dX6_agrees_31 : decode cX6_agrees 31 = .ok (.getfield 36, 3) := by decide +kernel
theorem dX6_agrees_34 : decode cX6_agrees 34 = .ok (.iload 4, 2) := by decide +kernel
theorem dX6_agrees_36 : decode cX6_agrees 36 = .ok (.iaload, 1) := by decide +kernel
theorem dX6_agrees_37 : decode cX6_agrees 37 = .ok (.iload 5, 2) := by decide +kernel
theorem dX6_agrees_39 : decode cX6_agrees 39 = .ok (.invokestatic 123, 3) := by decide +kernel
theorem dX6_agrees_42 : decode cX6_agrees 42 = .ok (.ifCond .eq 24, 3) := by decide +kernel
theorem dX6_agrees_45 : decode cX6_agrees 45 = .ok (.aload_n 0, 1) := by decide +kernel
theorem dX6_agrees_46 : decode cX6_agrees 46 = .ok (.iload_n 1, 1) := by decide +kernel
theorem dX6_agrees_47 : decode cX6_agrees 47 = .ok (.iload_n 2, 1) := by decide +kernel
theorem dX6_agrees_48 : decode cX6_agrees 48 = .ok (.iload 4, 2) := by decide +kernel
theorem dX6_agrees_50 : decode cX6_agrees 50 = .ok (.iadd, 1) := by decide +kernel
theorem dX6_agrees_51 : decode cX6_agrees 51 = .ok (.invokevirtual 104, 3) := by decide +kernel
theorem dX6_agrees_54 : decode cX6_agrees 54 = .ok (.aload_n 0, 1) := by decide +kernel
theorem dX6_agrees_55 : decode cX6_agrees 55 = .ok (.iload_n 1, 1) := by decide +kernel
theorem dX6_agrees_56 : decode cX6_agrees 56 = .ok (.iload_n 2, 1) := by decide +kernel
theorem dX6_agrees_57 : decode cX6_agrees 57 = .ok (.iload 5, 2) := by decide +kernel
theorem dX6_agrees_59 : decode cX6_agrees 59 = .ok (.iadd, 1) := by decide +kernel
theorem dX6_agrees_60 : decode cX6_agrees 60 = .ok (.invokevirtual 104, 3) := by decide +kernel
theorem dX6_agrees_63 : decode cX6_agrees 63 = .ok (.if_icmp .ne 7, 3) := by decide +kernel
theorem dX6_agrees_66 : decode cX6_agrees 66 = .ok (.iconst 1, 1) := by decide +kernel
theorem dX6_agrees_67 : decode cX6_agrees 67 = .ok (.goto 4, 3) := by decide +kernel
theorem dX6_agrees_70 : decode cX6_agrees 70 = .ok (.iconst 0, 1) := by decide +kernel
theorem dX6_agrees_71 : decode cX6_agrees 71 = .ok (.istore_n 3, 1) := by decide +kernel
theorem dX6_agrees_72 : decode cX6_agrees 72 = .ok (.iinc 5 1, 3) := by decide +kernel
theorem dX6_agrees_75 : decode cX6_agrees 75 = .ok (.goto (-58), 3) := by decide +kernel
theorem dX6_agrees_78 : decode cX6_agrees 78 = .ok (.iinc 4 1, 3) := by decide +kernel
theorem dX6_agrees_81 : decode cX6_agrees 81 = .ok (.goto (-76), 3) := by decide +kernel
theorem dX6_agrees_84 : decode cX6_agrees 84 = .ok (.iload_n 3, 1) := by decide +kernel
theorem dX6_agrees_85 : decode cX6_agrees 85 = .ok (.ireturn, 1) := by decide +kernel
theorem dX6_areTongues_0 : decode cX6_areTongues 0 = .ok (.iconst 1, 1) := by decide +kernel
theorem dX6_areTongues_1 : decode cX6_areTongues 1 = .ok (.istore_n 2, 1) := by decide +kernel
theorem dX6_areTongues_2 : decode cX6_areTongues 2 = .ok (.iconst 0, 1) := by decide +kernel
theorem dX6_areTongues_3 : decode cX6_areTongues 3 = .ok (.istore_n 3, 1) := by decide +kernel
theorem dX6_areTongues_4 : decode cX6_areTongues 4 = .ok (.iload_n 3, 1) := by decide +kernel
theorem dX6_areTongues_5 : decode cX6_areTongues 5 = .ok (.aload_n 0, 1) := by decide +kernel
theorem dX6_areTongues_6 : decode cX6_areTongues 6 = .ok (.getfield 17, 3) := by decide +kernel
theorem dX6_areTongues_9 : decode cX6_areTongues 9 = .ok (.iload_n 1, 1) := by decide +kernel
theorem dX6_areTongues_10 : decode cX6_areTongues 10 = .ok (.iaload, 1) := by decide +kernel
theorem dX6_areTongues_11 : decode cX6_areTongues 11 = .ok (.if_icmp .ge 33, 3) := by decide +kernel
theorem dX6_areTongues_14 : decode cX6_areTongues 14 = .ok (.iload_n 2, 1) := by decide +kernel
theorem dX6_areTongues_15 : decode cX6_areTongues 15 = .ok (.ifCond .eq 21, 3) := by decide +kernel
theorem dX6_areTongues_18 : decode cX6_areTongues 18 = .ok (.aload_n 0, 1) := by decide +kernel
theorem dX6_areTongues_19 : decode cX6_areTongues 19 = .ok (.iload_n 1, 1) := by decide +kernel
theorem dX6_areTongues_20 : decode cX6_areTongues 20 = .ok (.iload_n 3, 1) := by decide +kernel
theorem dX6_areTongues_21 : decode cX6_areTongues 21 = .ok (.invokevirtual 104, 3) := by decide +kernel
theorem dX6_areTongues_24 : decode cX6_areTongues 24 = .ok (.iconst 0, 1) := by decide +kernel
theorem dX6_areTongues_25 : decode cX6_areTongues 25 = .ok (.iconst 3, 1) := by decide +kernel
theorem dX6_areTongues_26 : decode cX6_areTongues 26 = .ok (.invokestatic 86, 3) := by decide +kernel
theorem dX6_areTongues_29 : decode cX6_areTongues 29 = .ok (.ifCond .eq 7, 3) := by decide +kernel
theorem dX6_areTongues_32 : decode cX6_areTongues 32 = .ok (.iconst 1, 1) := by decide +kernel
theorem dX6_areTongues_33 : decode cX6_areTongues 33 = .ok (.goto 4, 3) := by decide +kernel
theorem dX6_areTongues_36 : decode cX6_areTongues 36 = .ok (.iconst 0, 1) := by decide +kernel
theorem dX6_areTongues_37 : decode cX6_areTongues 37 = .ok (.istore_n 2, 1) := by decide +kernel
theorem dX6_areTongues_38 : decode cX6_areTongues 38 = .ok (.iinc 3 1, 3) := by decide +kernel
theorem dX6_areTongues_41 : decode cX6_areTongues 41 = .ok (.goto (-37), 3) := by decide +kernel
theorem dX6_areTongues_44 : decode cX6_areTongues 44 = .ok (.iload_n 2, 1) := by decide +kernel
theorem dX6_areTongues_45 : decode cX6_areTongues 45 = .ok (.ireturn, 1) := by decide +kernel
theorem dX6_deal_0 : decode cX6_deal 0 = .ok (.iload_n 1, 1) := by decide +kernel
theorem dX6_deal_1 : decode cX6_deal 1 = .ok (.invokestatic 96, 3) := by decide +kernel
theorem dX6_deal_4 : decode cX6_deal 4 = .ok (.ifCond .ne 5, 3) := by decide +kernel
theorem dX6_deal_7 : decode cX6_deal 7 = .ok (.iconst (-1), 1) := by decide +kernel
theorem dX6_deal_8 : decode cX6_deal 8 = .ok (.ireturn, 1) := by decide +kernel
theorem dX6_deal_9 : decode cX6_deal 9 = .ok (.aload_n 0, 1) := by decide +kernel
theorem dX6_deal_10 : decode cX6_deal 10 = .ok (.getfield 147, 3) := by decide +kernel
theorem dX6_deal_13 : decode cX6_deal 13 = .ok (.ifCond .ne 6, 3) := by decide +kernel
theorem dX6_deal_16 : decode cX6_deal 16 = .ok (.bipush (-4), 2) := by decide +kernel
theorem dX6_deal_18 : decode cX6_deal 18 = .ok (.ireturn, 1) := by decide +kernel
theorem dX6_deal_19 : decode cX6_deal 19 = .ok (.aload_n 0, 1) := by decide +kernel
theorem dX6_deal_20 : decode cX6_deal 20 = .ok (.getfield 17, 3) := by decide +kernel
theorem dX6_deal_23 : decode cX6_deal 23 = .ok (.iload_n 1, 1) := by decide +kernel
theorem dX6_deal_24 : decode cX6_deal 24 = .ok (.iaload, 1) := by decide +kernel
theorem dX6_deal_25 : decode cX6_deal 25 = .ok (.ifCond .ge 9, 3) := by decide +kernel
theorem dX6_deal_28 : decode cX6_deal 28 = .ok (.aload_n 0, 1) := by decide +kernel
theorem dX6_deal_29 : decode cX6_deal 29 = .ok (.iconst 1, 1) := by decide +kernel
theorem dX6_deal_30 : decode cX6_deal 30 = .ok (.invokevirtual 100, 3) := by decide +kernel
theorem dX6_deal_33 : decode cX6_deal 33 = .ok (.ireturn, 1) := by decide +kernel
theorem dX6_deal_34 : decode cX6_deal 34 = .ok (.aload_n 0, 1) := by decide +kernel
theorem dX6_deal_35 : decode cX6_deal 35 = .ok (.getfield 17, 3) := by decide +kernel
theorem dX6_deal_38 : decode cX6_deal 38 = .ok (.iload_n 1, 1) := by decide +kernel
theorem dX6_deal_39 : decode cX6_deal 39 = .ok (.iaload, 1) := by decide +kernel
theorem dX6_deal_40 : decode cX6_deal 40 = .ok (.aload_n 0, 1) := by decide +kernel
theorem dX6_deal_41 : decode cX6_deal 41 = .ok (.getfield 147, 3) := by decide +kernel
theorem dX6_deal_44 : decode cX6_deal 44 = .ok (.if_icmp .eq 9, 3) := by decide +kernel
theorem dX6_deal_47 : decode cX6_deal 47 = .ok (.aload_n 0, 1) := by decide +kernel
theorem dX6_deal_48 : decode cX6_deal 48 = .ok (.iconst 5, 1) := by decide +kernel
theorem dX6_deal_49 : decode cX6_deal 49 = .ok (.invokevirtual 100, 3) := by decide +kernel
theorem dX6_deal_52 : decode cX6_deal 52 = .ok (.ireturn, 1) := by decide +kernel
theorem dX6_deal_53 : decode cX6_deal 53 = .ok (.aload_n 0, 1) := by decide +kernel
theorem dX6_deal_54 : decode cX6_deal 54 = .ok (.iload_n 1, 1) := by decide +kernel
theorem dX6_deal_55 : decode cX6_deal 55 = .ok (.invokevirtual 190, 3) := by decide +kernel
theorem dX6_deal_58 : decode cX6_deal 58 = .ok (.ifCond .eq 12, 3) := by decide +kernel
theorem dX6_deal_61 : decode cX6_deal 61 = .ok (.aload_n 0, 1) := by decide +kernel
theorem dX6_deal_62 : decode cX6_deal 62 = .ok (.iload_n 1, 1) := by decide +kernel
theorem dX6_deal_63 : decode cX6_deal 63 = .ok (.iconst 0, 1) := by decide +kernel
theorem dX6_deal_64 : decode cX6_deal 64 = .ok (.invokevirtual 193, 3) := by decide +kernel
theorem dX6_deal_67 : decode cX6_deal 67 = .ok (.ifCond .ne 9, 3) := by decide +kernel
theorem dX6_deal_70 : decode cX6_deal 70 = .ok (.aload_n 0, 1) := by decide +kernel
theorem dX6_deal_71 : decode cX6_deal 71 = .ok (.iconst 3, 1) := by decide +kernel
theorem dX6_deal_72 : decode cX6_deal 72 = .ok (.invokevirtual 100, 3) := by decide +kernel
theorem dX6_deal_75 : decode cX6_deal 75 = .ok (.ireturn, 1) := by decide +kernel
theorem dX6_deal_76 : decode cX6_deal 76 = .ok (.aload_n 0, 1) := by decide +kernel
theorem dX6_deal_77 : decode cX6_deal 77 = .ok (.getfield 150, 3) := by decide +kernel
theorem dX6_deal_80 : decode cX6_deal 80 = .ok (.bipush 40, 2) := by decide +kernel
theorem dX6_deal_82 : decode cX6_deal 82 = .ok (.if_icmp .ne 6, 3) := by decide +kernel
theorem dX6_deal_85 : decode cX6_deal 85 = .ok (.bipush (-2), 2) := by decide +kernel
theorem dX6_deal_87 : decode cX6_deal 87 = .ok (.ireturn, 1) := by decide +kernel
theorem dX6_deal_88 : decode cX6_deal 88 = .ok (.aload_n 0, 1) := by decide +kernel
theorem dX6_deal_89 : decode cX6_deal 89 = .ok (.invokevirtual 196, 3) := by decide +kernel
theorem dX6_deal_92 : decode cX6_deal 92 = .ok (.iconst 0, 1) := by decide +kernel
theorem dX6_deal_93 : decode cX6_deal 93 = .ok (.istore_n 2, 1) := by decide +kernel
theorem dX6_deal_94 : decode cX6_deal 94 = .ok (.iload_n 2, 1) := by decide +kernel
theorem dX6_deal_95 : decode cX6_deal 95 = .ok (.aload_n 0, 1) := by decide +kernel
theorem dX6_deal_96 : decode cX6_deal 96 = .ok (.getfield 147, 3) := by decide +kernel
theorem dX6_deal_99 : decode cX6_deal 99 = .ok (.if_icmp .ge 21, 3) := by decide +kernel
theorem dX6_deal_102 : decode cX6_deal 102 = .ok (.aload_n 0, 1) := by decide +kernel
theorem dX6_deal_103 : decode cX6_deal 103 = .ok (.getfield 48, 3) := by decide +kernel
theorem dX6_deal_106 : decode cX6_deal 106 = .ok (.iload_n 2, 1) := by decide +kernel
theorem dX6_deal_107 : decode cX6_deal 107 = .ok (.aload_n 0, 1) := by decide +kernel
theorem dX6_deal_108 : decode cX6_deal 108 = .ok (.iload_n 1, 1) := by decide +kernel
theorem dX6_deal_109 : decode cX6_deal 109 = .ok (.iload_n 2, 1) := by decide +kernel
theorem dX6_deal_110 : decode cX6_deal 110 = .ok (.invokevirtual 104, 3) := by decide +kernel
theorem dX6_deal_113 : decode cX6_deal 113 = .ok (.iastore, 1) := by decide +kernel
theorem dX6_deal_114 : decode cX6_deal 114 = .ok (.iinc 2 1, 3) := by decide +kernel
theorem dX6_deal_117 : decode cX6_deal 117 = .ok (.goto (-23), 3) := by decide +kernel
theorem dX6_deal_120 : decode cX6_deal 120 = .ok (.aload_n 0, 1) := by decide +kernel
theorem dX6_deal_121 : decode cX6_deal 121 = .ok (.getfield 48, 3) := by decide +kernel
theorem dX6_deal_124 : decode cX6_deal 124 = .ok (.bipush 12, 2) := by decide +kernel
theorem dX6_deal_126 : decode cX6_deal 126 = .ok (.dup2, 1) := by decide +kernel
theorem dX6_deal_127 : decode cX6_deal 127 = .ok (.iaload, 1) := by decide +kernel
theorem dX6_deal_128 : decode cX6_deal 128 = .ok (.iconst 1, 1) := by decide +kernel
theorem dX6_deal_129 : decode cX6_deal 129 = .ok (.iadd, 1) := by decide +kernel
theorem dX6_deal_130 : decode cX6_deal 130 = .ok (.iastore, 1) := by decide +kernel
theorem dX6_deal_131 : decode cX6_deal 131 = .ok (.aload_n 0, 1) := by decide +kernel
theorem dX6_deal_132 : decode cX6_deal 132 = .ok (.getfield 48, 3) := by decide +kernel
theorem dX6_deal_135 : decode cX6_deal 135 = .ok (.bipush 13, 2) := by decide +kernel
theorem dX6_deal_137 : decode cX6_deal 137 = .ok (.iconst 0, 1) := by decide +kernel
theorem dX6_deal_138 : decode cX6_deal 138 = .ok (.iastore, 1) := by decide +kernel
theorem dX6_deal_139 : decode cX6_deal 139 = .ok (.aload_n 0, 1) := by decide +kernel
theorem dX6_deal_140 : decode cX6_deal 140 = .ok (.getfield 48, 3) := by decide +kernel
theorem dX6_deal_143 : decode cX6_deal 143 = .ok (.bipush 12, 2) := by decide +kernel
theorem dX6_deal_145 : decode cX6_deal 145 = .ok (.iaload, 1) := by decide +kernel
theorem dX6_deal_146 : decode cX6_deal 146 = .ok (.ireturn, 1) := by decide +kernel
theorem dX6_noon_0 : decode cX6_noon 0 = .ok (.aload_n 0, 1) := by decide +kernel
theorem dX6_noon_1 : decode cX6_noon 1 = .ok (.getfield 147, 3) := by decide +kernel
theorem dX6_noon_4 : decode cX6_noon 4 = .ok (.ifCond .eq 14, 3) := by decide +kernel
theorem dX6_noon_7 : decode cX6_noon 7 = .ok (.aload_n 0, 1) := by decide +kernel
theorem dX6_noon_8 : decode cX6_noon 8 = .ok (.getfield 48, 3) := by decide +kernel
theorem dX6_noon_11 : decode cX6_noon 11 = .ok (.bipush 13, 2) := by decide +kernel
theorem dX6_noon_13 : decode cX6_noon 13 = .ok (.iaload, 1) := by decide +kernel
theorem dX6_noon_14 : decode cX6_noon 14 = .ok (.iconst 1, 1) := by decide +kernel
theorem dX6_noon_15 : decode cX6_noon 15 = .ok (.if_icmp .ne 6, 3) := by decide +kernel
theorem dX6_noon_18 : decode cX6_noon 18 = .ok (.bipush (-4), 2) := by decide +kernel
theorem dX6_noon_20 : decode cX6_noon 20 = .ok (.ireturn, 1) := by decide +kernel
theorem dX6_noon_21 : decode cX6_noon 21 = .ok (.aload_n 0, 1) := by decide +kernel
theorem dX6_noon_22 : decode cX6_noon 22 = .ok (.getfield 150, 3) := by decide +kernel
theorem dX6_noon_25 : decode cX6_noon 25 = .ok (.bipush 40, 2) := by decide +kernel
theorem dX6_noon_27 : decode cX6_noon 27 = .ok (.if_icmp .ne 6, 3) := by decide +kernel
theorem dX6_noon_30 : decode cX6_noon 30 = .ok (.bipush (-2), 2) := by decide +kernel
theorem dX6_noon_32 : decode cX6_noon 32 = .ok (.ireturn, 1) := by decide +kernel
theorem dX6_noon_33 : decode cX6_noon 33 = .ok (.aload_n 0, 1) := by decide +kernel
theorem dX6_noon_34 : decode cX6_noon 34 = .ok (.invokevirtual 196, 3) := by decide +kernel
theorem dX6_noon_37 : decode cX6_noon 37 = .ok (.iconst 0, 1) := by decide +kernel
theorem dX6_noon_38 : decode cX6_noon 38 = .ok (.istore_n 1, 1) := by decide +kernel
theorem dX6_noon_39 : decode cX6_noon 39 = .ok (.iconst 0, 1) := by decide +kernel
theorem dX6_noon_40 : decode cX6_noon 40 = .ok (.istore_n 2, 1) := by decide +kernel
theorem dX6_noon_41 : decode cX6_noon 41 = .ok (.iload_n 2, 1) := by decide +kernel
theorem dX6_noon_42 : decode cX6_noon 42 = .ok (.aload_n 0, 1) := by decide +kernel
theorem dX6_noon_43 : decode cX6_noon 43 = .ok (.getfield 147, 3) := by decide +kernel
theorem dX6_noon_46 : decode cX6_noon 46 = .ok (.if_icmp .ge 40, 3) := by decide +kernel
theorem dX6_noon_49 : decode cX6_noon 49 = .ok (.iload_n 1, 1) := by decide +kernel
theorem dX6_noon_50 : decode cX6_noon 50 = .ok (.aload_n 0, 1) := by decide +kernel
theorem dX6_noon_51 : decode cX6_noon 51 = .ok (.aload_n 0, 1) := by decide +kernel
theorem dX6_noon_52 : decode cX6_noon 52 = .ok (.getfield 48, 3) := by decide +kernel
theorem dX6_noon_55 : decode cX6_noon 55 = .ok (.iload_n 2, 1) := by decide +kernel
theorem dX6_noon_56 : decode cX6_noon 56 = .ok (.iconst 1, 1) := by decide +kernel
theorem dX6_noon_57 : decode cX6_noon 57 = .ok (.invokevirtual 156, 3) := by decide +kernel
theorem dX6_noon_60 : decode cX6_noon 60 = .ok (.aload_n 0, 1) := by decide +kernel
theorem dX6_noon_61 : decode cX6_noon 61 = .ok (.aload_n 0, 1) := by decide +kernel
theorem dX6_noon_62 : decode cX6_noon 62 = .ok (.getfield 48, 3) := by decide +kernel
theorem dX6_noon_65 : decode cX6_noon 65 = .ok (.iload_n 2, 1) := by decide +kernel
theorem dX6_noon_66 : decode cX6_noon 66 = .ok (.iconst 0, 1) := by decide +kernel
theorem dX6_noon_67 : decode cX6_noon 67 = .ok (.invokevirtual 156, 3) := by decide +kernel
theorem dX6_noon_70 : decode cX6_noon 70 = .ok (.if_icmp .eq 7, 3) := by decide +kernel
theorem dX6_noon_73 : decode cX6_noon 73 = .ok (.iconst 1, 1) := by decide +kernel
theorem dX6_noon_74 : decode cX6_noon 74 = .ok (.goto 4, 3) := by decide +kernel
theorem dX6_noon_77 : decode cX6_noon 77 = .ok (.iconst 0, 1) := by decide +kernel
theorem dX6_noon_78 : decode cX6_noon 78 = .ok (.iadd, 1) := by decide +kernel
theorem dX6_noon_79 : decode cX6_noon 79 = .ok (.istore_n 1, 1) := by decide +kernel
theorem dX6_noon_80 : decode cX6_noon 80 = .ok (.iinc 2 1, 3) := by decide +kernel
theorem dX6_noon_83 : decode cX6_noon 83 = .ok (.goto (-42), 3) := by decide +kernel
theorem dX6_noon_86 : decode cX6_noon 86 = .ok (.aload_n 0, 1) := by decide +kernel
theorem dX6_noon_87 : decode cX6_noon 87 = .ok (.getfield 48, 3) := by decide +kernel
theorem dX6_noon_90 : decode cX6_noon 90 = .ok (.bipush 13, 2) := by decide +kernel
theorem dX6_noon_92 : decode cX6_noon 92 = .ok (.iconst 1, 1) := by decide +kernel
theorem dX6_noon_93 : decode cX6_noon 93 = .ok (.iastore, 1) := by decide +kernel
theorem dX6_noon_94 : decode cX6_noon 94 = .ok (.iload_n 1, 1) := by decide +kernel
theorem dX6_noon_95 : decode cX6_noon 95 = .ok (.ireturn, 1) := by decide +kernel
theorem dX6_signMany_0 : decode cX6_signMany 0 = .ok (.iconst 0, 1) := by decide +kernel
theorem dX6_signMany_1 : decode cX6_signMany 1 = .ok (.istore_n 1, 1) := by decide +kernel
theorem dX6_signMany_2 : decode cX6_signMany 2 = .ok (.iconst 0, 1) := by decide +kernel
theorem dX6_signMany_3 : decode cX6_signMany 3 = .ok (.istore_n 2, 1) := by decide +kernel
theorem dX6_signMany_4 : decode cX6_signMany 4 = .ok (.iload_n 2, 1) := by decide +kernel
theorem dX6_signMany_5 : decode cX6_signMany 5 = .ok (.aload_n 0, 1) := by decide +kernel
theorem dX6_signMany_6 : decode cX6_signMany 6 = .ok (.getfield 147, 3) := by decide +kernel
theorem dX6_signMany_9 : decode cX6_signMany 9 = .ok (.if_icmp .ge 24, 3) := by decide +kernel
theorem dX6_signMany_12 : decode cX6_signMany 12 = .ok (.iload_n 1, 1) := by decide +kernel
theorem dX6_signMany_13 : decode cX6_signMany 13 = .ok (.aload_n 0, 1) := by decide +kernel
theorem dX6_signMany_14 : decode cX6_signMany 14 = .ok (.getfield 48, 3) := by decide +kernel
theorem dX6_signMany_17 : decode cX6_signMany 17 = .ok (.bipush 6, 2) := by decide +kernel
theorem dX6_signMany_19 : decode cX6_signMany 19 = .ok (.iload_n 2, 1) := by decide +kernel
theorem dX6_signMany_20 : decode cX6_signMany 20 = .ok (.iadd, 1) := by decide +kernel
theorem dX6_signMany_21 : decode cX6_signMany 21 = .ok (.iaload, 1) := by decide +kernel
theorem dX6_signMany_22 : decode cX6_signMany 22 = .ok (.invokestatic 181, 3) := by decide +kernel
theorem dX6_signMany_25 : decode cX6_signMany 25 = .ok (.iadd, 1) := by decide +kernel
theorem dX6_signMany_26 : decode cX6_signMany 26 = .ok (.istore_n 1, 1) := by decide +kernel
theorem dX6_signMany_27 : decode cX6_signMany 27 = .ok (.iinc 2 1, 3) := by decide +kernel
theorem dX6_signMany_30 : decode cX6_signMany 30 = .ok (.goto (-26), 3) := by decide +kernel
theorem dX6_signMany_33 : decode cX6_signMany 33 = .ok (.iload_n 1, 1) := by decide +kernel
theorem dX6_signMany_34 : decode cX6_signMany 34 = .ok (.iconst 2, 1) := by decide +kernel
theorem dX6_signMany_35 : decode cX6_signMany 35 = .ok (.idiv, 1) := by decide +kernel
theorem dX6_signMany_36 : decode cX6_signMany 36 = .ok (.ireturn, 1) := by decide +kernel
theorem dX6_areTwo_0 : decode cX6_areTwo 0 = .ok (.aload_n 0, 1) := by decide +kernel
theorem dX6_areTwo_1 : decode cX6_areTwo 1 = .ok (.iload_n 1, 1) := by decide +kernel
theorem dX6_areTwo_2 : decode cX6_areTwo 2 = .ok (.invokevirtual 175, 3) := by decide +kernel
theorem dX6_areTwo_5 : decode cX6_areTwo 5 = .ok (.ifCond .eq 20, 3) := by decide +kernel
theorem dX6_areTwo_8 : decode cX6_areTwo 8 = .ok (.aload_n 0, 1) := by decide +kernel
theorem dX6_areTwo_9 : decode cX6_areTwo 9 = .ok (.iload_n 2, 1) := by decide +kernel
theorem dX6_areTwo_10 : decode cX6_areTwo 10 = .ok (.invokevirtual 175, 3) := by decide +kernel
theorem dX6_areTwo_13 : decode cX6_areTwo 13 = .ok (.ifCond .eq 12, 3) := by decide +kernel
theorem dX6_areTwo_16 : decode cX6_areTwo 16 = .ok (.iload_n 1, 1) := by decide +kernel
theorem dX6_areTwo_17 : decode cX6_areTwo 17 = .ok (.iload_n 2, 1) := by decide +kernel
theorem dX6_areTwo_18 : decode cX6_areTwo 18 = .ok (.if_icmp .eq 7, 3) := by decide +kernel
theorem dX6_areTwo_21 : decode cX6_areTwo 21 = .ok (.iconst 1, 1) := by decide +kernel
theorem dX6_areTwo_22 : decode cX6_areTwo 22 = .ok (.goto 4, 3) := by decide +kernel
theorem dX6_areTwo_25 : decode cX6_areTwo 25 = .ok (.iconst 0, 1) := by decide +kernel
theorem dX6_areTwo_26 : decode cX6_areTwo 26 = .ok (.ireturn, 1) := by decide +kernel
theorem dX6_sign_0 : decode cX6_sign 0 = .ok (.aload_n 0, 1) := by decide +kernel
theorem dX6_sign_1 : decode cX6_sign 1 = .ok (.iload_n 1, 1) := by decide +kernel
theorem dX6_sign_2 : decode cX6_sign 2 = .ok (.iload_n 2, 1) := by decide +kernel
theorem dX6_sign_3 : decode cX6_sign 3 = .ok (.invokevirtual 199, 3) := by decide +kernel
theorem dX6_sign_6 : decode cX6_sign 6 = .ok (.ifCond .ne 5, 3) := by decide +kernel
theorem dX6_sign_9 : decode cX6_sign 9 = .ok (.iconst (-1), 1) := by decide +kernel
theorem dX6_sign_10 : decode cX6_sign 10 = .ok (.ireturn, 1) := by decide +kernel
theorem dX6_sign_11 : decode cX6_sign 11 = .ok (.aload_n 0, 1) := by decide +kernel
theorem dX6_sign_12 : decode cX6_sign 12 = .ok (.getfield 48, 3) := by decide +kernel
theorem dX6_sign_15 : decode cX6_sign 15 = .ok (.bipush 6, 2) := by decide +kernel
theorem dX6_sign_17 : decode cX6_sign 17 = .ok (.iload_n 1, 1) := by decide +kernel
theorem dX6_sign_18 : decode cX6_sign 18 = .ok (.iadd, 1) := by decide +kernel
theorem dX6_sign_19 : decode cX6_sign 19 = .ok (.iaload, 1) := by decide +kernel
theorem dX6_sign_20 : decode cX6_sign 20 = .ok (.iload_n 2, 1) := by decide +kernel
theorem dX6_sign_21 : decode cX6_sign 21 = .ok (.invokestatic 123, 3) := by decide +kernel
theorem dX6_sign_24 : decode cX6_sign 24 = .ok (.ifCond .eq 6, 3) := by decide +kernel
theorem dX6_sign_27 : decode cX6_sign 27 = .ok (.bipush (-4), 2) := by decide +kernel
theorem dX6_sign_29 : decode cX6_sign 29 = .ok (.ireturn, 1) := by decide +kernel
theorem dX6_sign_30 : decode cX6_sign 30 = .ok (.aload_n 0, 1) := by decide +kernel
theorem dX6_sign_31 : decode cX6_sign 31 = .ok (.getfield 150, 3) := by decide +kernel
theorem dX6_sign_34 : decode cX6_sign 34 = .ok (.bipush 40, 2) := by decide +kernel
theorem dX6_sign_36 : decode cX6_sign 36 = .ok (.if_icmp .ne 6, 3) := by decide +kernel
theorem dX6_sign_39 : decode cX6_sign 39 = .ok (.bipush (-2), 2) := by decide +kernel
theorem dX6_sign_41 : decode cX6_sign 41 = .ok (.ireturn, 1) := by decide +kernel
theorem dX6_sign_42 : decode cX6_sign 42 = .ok (.aload_n 0, 1) := by decide +kernel
theorem dX6_sign_43 : decode cX6_sign 43 = .ok (.invokevirtual 196, 3) := by decide +kernel
theorem dX6_sign_46 : decode cX6_sign 46 = .ok (.aload_n 0, 1) := by decide +kernel
theorem dX6_sign_47 : decode cX6_sign 47 = .ok (.getfield 48, 3) := by decide +kernel
theorem dX6_sign_50 : decode cX6_sign 50 = .ok (.bipush 6, 2) := by decide +kernel
theorem dX6_sign_52 : decode cX6_sign 52 = .ok (.iload_n 1, 1) := by decide +kernel
theorem dX6_sign_53 : decode cX6_sign 53 = .ok (.iadd, 1) := by decide +kernel
theorem dX6_sign_54 : decode cX6_sign 54 = .ok (.dup2, 1) := by decide +kernel
theorem dX6_sign_55 : decode cX6_sign 55 = .ok (.iaload, 1) := by decide +kernel
theorem dX6_sign_56 : decode cX6_sign 56 = .ok (.iconst 1, 1) := by decide +kernel
theorem dX6_sign_57 : decode cX6_sign 57 = .ok (.iload_n 2, 1) := by decide +kernel
theorem dX6_sign_58 : decode cX6_sign 58 = .ok (.ishl, 1) := by decide +kernel
theorem dX6_sign_59 : decode cX6_sign 59 = .ok (.ior, 1) := by decide +kernel
theorem dX6_sign_60 : decode cX6_sign 60 = .ok (.iastore, 1) := by decide +kernel
theorem dX6_sign_61 : decode cX6_sign 61 = .ok (.aload_n 0, 1) := by decide +kernel
