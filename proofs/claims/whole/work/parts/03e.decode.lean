theorem dX6_sign_62 : decode cX6_sign 62 = .ok (.getfield 48, 3) := by decide +kernel
theorem dX6_sign_65 : decode cX6_sign 65 = .ok (.bipush 6, 2) := by decide +kernel
theorem dX6_sign_67 : decode cX6_sign 67 = .ok (.iload_n 2, 1) := by decide +kernel
theorem dX6_sign_68 : decode cX6_sign 68 = .ok (.iadd, 1) := by decide +kernel
theorem dX6_sign_69 : decode cX6_sign 69 = .ok (.dup2, 1) := by decide +kernel
theorem dX6_sign_70 : decode cX6_sign 70 = .ok (.iaload, 1) := by decide +kernel
theorem dX6_sign_71 : decode cX6_sign 71 = .ok (.iconst 1, 1) := by decide +kernel
theorem dX6_sign_72 : decode cX6_sign 72 = .ok (.iload_n 1, 1) := by decide +kernel
theorem dX6_sign_73 : decode cX6_sign 73 = .ok (.ishl, 1) := by decide +kernel
theorem dX6_sign_74 : decode cX6_sign 74 = .ok (.ior, 1) := by decide +kernel
theorem dX6_sign_75 : decode cX6_sign 75 = .ok (.iastore, 1) := by decide +kernel
theorem dX6_sign_76 : decode cX6_sign 76 = .ok (.aload_n 0, 1) := by decide +kernel
theorem dX6_sign_77 : decode cX6_sign 77 = .ok (.invokevirtual 202, 3) := by decide +kernel
theorem dX6_sign_80 : decode cX6_sign 80 = .ok (.ireturn, 1) := by decide +kernel
theorem dX6_undo_0 : decode cX6_undo 0 = .ok (.iload_n 1, 1) := by decide +kernel
theorem dX6_undo_1 : decode cX6_undo 1 = .ok (.iconst 0, 1) := by decide +kernel
theorem dX6_undo_2 : decode cX6_undo 2 = .ok (.aload_n 0, 1) := by decide +kernel
theorem dX6_undo_3 : decode cX6_undo 3 = .ok (.getfield 150, 3) := by decide +kernel
theorem dX6_undo_6 : decode cX6_undo 6 = .ok (.invokestatic 86, 3) := by decide +kernel
theorem dX6_undo_9 : decode cX6_undo 9 = .ok (.ifCond .ne 5, 3) := by decide +kernel
theorem dX6_undo_12 : decode cX6_undo 12 = .ok (.iconst (-1), 1) := by decide +kernel
theorem dX6_undo_13 : decode cX6_undo 13 = .ok (.ireturn, 1) := by decide +kernel
theorem dX6_undo_14 : decode cX6_undo 14 = .ok (.aload_n 0, 1) := by decide +kernel
theorem dX6_undo_15 : decode cX6_undo 15 = .ok (.getfield 150, 3) := by decide +kernel
theorem dX6_undo_18 : decode cX6_undo 18 = .ok (.iload_n 1, 1) := by decide +kernel
theorem dX6_undo_19 : decode cX6_undo 19 = .ok (.isub, 1) := by decide +kernel
theorem dX6_undo_20 : decode cX6_undo 20 = .ok (.istore_n 2, 1) := by decide +kernel
theorem dX6_undo_21 : decode cX6_undo 21 = .ok (.iconst 0, 1) := by decide +kernel
theorem dX6_undo_22 : decode cX6_undo 22 = .ok (.istore_n 3, 1) := by decide +kernel
theorem dX6_undo_23 : decode cX6_undo 23 = .ok (.iload_n 3, 1) := by decide +kernel
theorem dX6_undo_24 : decode cX6_undo 24 = .ok (.bipush 14, 2) := by decide +kernel
theorem dX6_undo_26 : decode cX6_undo 26 = .ok (.if_icmp .ge 30, 3) := by decide +kernel
theorem dX6_undo_29 : decode cX6_undo 29 = .ok (.iload_n 2, 1) := by decide +kernel
theorem dX6_undo_30 : decode cX6_undo 30 = .ok (.ifCond .le 26, 3) := by decide +kernel
theorem dX6_undo_33 : decode cX6_undo 33 = .ok (.aload_n 0, 1) := by decide +kernel
theorem dX6_undo_34 : decode cX6_undo 34 = .ok (.getfield 48, 3) := by decide +kernel
theorem dX6_undo_37 : decode cX6_undo 37 = .ok (.iload_n 3, 1) := by decide +kernel
theorem dX6_undo_38 : decode cX6_undo 38 = .ok (.aload_n 0, 1) := by decide +kernel
theorem dX6_undo_39 : decode cX6_undo 39 = .ok (.getfield 57, 3) := by decide +kernel
theorem dX6_undo_42 : decode cX6_undo 42 = .ok (.bipush 14, 2) := by decide +kernel
theorem dX6_undo_44 : decode cX6_undo 44 = .ok (.iload_n 1, 1) := by decide +kernel
theorem dX6_undo_45 : decode cX6_undo 45 = .ok (.imul, 1) := by decide +kernel
theorem dX6_undo_46 : decode cX6_undo 46 = .ok (.iload_n 3, 1) := by decide +kernel
theorem dX6_undo_47 : decode cX6_undo 47 = .ok (.iadd, 1) := by decide +kernel
theorem dX6_undo_48 : decode cX6_undo 48 = .ok (.iaload, 1) := by decide +kernel
theorem dX6_undo_49 : decode cX6_undo 49 = .ok (.iastore, 1) := by decide +kernel
theorem dX6_undo_50 : decode cX6_undo 50 = .ok (.iinc 3 1, 3) := by decide +kernel
theorem dX6_undo_53 : decode cX6_undo 53 = .ok (.goto (-30), 3) := by decide +kernel
theorem dX6_undo_56 : decode cX6_undo 56 = .ok (.aload_n 0, 1) := by decide +kernel
theorem dX6_undo_57 : decode cX6_undo 57 = .ok (.iload_n 1, 1) := by decide +kernel
theorem dX6_undo_58 : decode cX6_undo 58 = .ok (.putfield 150, 3) := by decide +kernel
theorem dX6_undo_61 : decode cX6_undo 61 = .ok (.iload_n 2, 1) := by decide +kernel
theorem dX6_undo_62 : decode cX6_undo 62 = .ok (.ireturn, 1) := by decide +kernel
theorem dX6_keep_0 : decode cX6_keep 0 = .ok (.iload_n 1, 1) := by decide +kernel
theorem dX6_keep_1 : decode cX6_keep 1 = .ok (.iconst 0, 1) := by decide +kernel
theorem dX6_keep_2 : decode cX6_keep 2 = .ok (.iconst 2, 1) := by decide +kernel
theorem dX6_keep_3 : decode cX6_keep 3 = .ok (.invokestatic 86, 3) := by decide +kernel
theorem dX6_keep_6 : decode cX6_keep 6 = .ok (.ifCond .ne 5, 3) := by decide +kernel
theorem dX6_keep_9 : decode cX6_keep 9 = .ok (.iconst (-1), 1) := by decide +kernel
theorem dX6_keep_10 : decode cX6_keep 10 = .ok (.ireturn, 1) := by decide +kernel
theorem dX6_keep_11 : decode cX6_keep 11 = .ok (.aload_n 0, 1) := by decide +kernel
theorem dX6_keep_12 : decode cX6_keep 12 = .ok (.getfield 147, 3) := by decide +kernel
theorem dX6_keep_15 : decode cX6_keep 15 = .ok (.ifCond .ne 6, 3) := by decide +kernel
theorem dX6_keep_18 : decode cX6_keep 18 = .ok (.bipush (-4), 2) := by decide +kernel
theorem dX6_keep_20 : decode cX6_keep 20 = .ok (.ireturn, 1) := by decide +kernel
theorem dX6_keep_21 : decode cX6_keep 21 = .ok (.aload_n 0, 1) := by decide +kernel
theorem dX6_keep_22 : decode cX6_keep 22 = .ok (.getfield 60, 3) := by decide +kernel
theorem dX6_keep_25 : decode cX6_keep 25 = .ok (.iload_n 1, 1) := by decide +kernel
theorem dX6_keep_26 : decode cX6_keep 26 = .ok (.iconst 1, 1) := by decide +kernel
theorem dX6_keep_27 : decode cX6_keep 27 = .ok (.bastore, 1) := by decide +kernel
theorem dX6_keep_28 : decode cX6_keep 28 = .ok (.aload_n 0, 1) := by decide +kernel
theorem dX6_keep_29 : decode cX6_keep 29 = .ok (.getfield 64, 3) := by decide +kernel
theorem dX6_keep_32 : decode cX6_keep 32 = .ok (.iload_n 1, 1) := by decide +kernel
theorem dX6_keep_33 : decode cX6_keep 33 = .ok (.aload_n 0, 1) := by decide +kernel
theorem dX6_keep_34 : decode cX6_keep 34 = .ok (.getfield 150, 3) := by decide +kernel
theorem dX6_keep_37 : decode cX6_keep 37 = .ok (.iastore, 1) := by decide +kernel
theorem dX6_keep_38 : decode cX6_keep 38 = .ok (.iconst 0, 1) := by decide +kernel
theorem dX6_keep_39 : decode cX6_keep 39 = .ok (.istore_n 2, 1) := by decide +kernel
theorem dX6_keep_40 : decode cX6_keep 40 = .ok (.iload_n 2, 1) := by decide +kernel
theorem dX6_keep_41 : decode cX6_keep 41 = .ok (.bipush 14, 2) := by decide +kernel
theorem dX6_keep_43 : decode cX6_keep 43 = .ok (.if_icmp .ge 26, 3) := by decide +kernel
theorem dX6_keep_46 : decode cX6_keep 46 = .ok (.aload_n 0, 1) := by decide +kernel
theorem dX6_keep_47 : decode cX6_keep 47 = .ok (.getfield 67, 3) := by decide +kernel
theorem dX6_keep_50 : decode cX6_keep 50 = .ok (.bipush 14, 2) := by decide +kernel
theorem dX6_keep_52 : decode cX6_keep 52 = .ok (.iload_n 1, 1) := by decide +kernel
theorem dX6_keep_53 : decode cX6_keep 53 = .ok (.imul, 1) := by decide +kernel
theorem dX6_keep_54 : decode cX6_keep 54 = .ok (.iload_n 2, 1) := by decide +kernel
theorem dX6_keep_55 : decode cX6_keep 55 = .ok (.iadd, 1) := by decide +kernel
theorem dX6_keep_56 : decode cX6_keep 56 = .ok (.aload_n 0, 1) := by decide +kernel
theorem dX6_keep_57 : decode cX6_keep 57 = .ok (.getfield 48, 3) := by decide +kernel
theorem dX6_keep_60 : decode cX6_keep 60 = .ok (.iload_n 2, 1) := by decide +kernel
theorem dX6_keep_61 : decode cX6_keep 61 = .ok (.iaload, 1) := by decide +kernel
theorem dX6_keep_62 : decode cX6_keep 62 = .ok (.iastore, 1) := by decide +kernel
theorem dX6_keep_63 : decode cX6_keep 63 = .ok (.iinc 2 1, 3) := by decide +kernel
theorem dX6_keep_66 : decode cX6_keep 66 = .ok (.goto (-26), 3) := by decide +kernel
theorem dX6_keep_69 : decode cX6_keep 69 = .ok (.iconst 0, 1) := by decide +kernel
theorem dX6_keep_70 : decode cX6_keep 70 = .ok (.istore_n 2, 1) := by decide +kernel
theorem dX6_keep_71 : decode cX6_keep 71 = .ok (.iload_n 2, 1) := by decide +kernel
theorem dX6_keep_72 : decode cX6_keep 72 = .ok (.bipush 14, 2) := by decide +kernel
theorem dX6_keep_74 : decode cX6_keep 74 = .ok (.aload_n 0, 1) := by decide +kernel
theorem dX6_keep_75 : decode cX6_keep 75 = .ok (.getfield 150, 3) := by decide +kernel
theorem dX6_keep_78 : decode cX6_keep 78 = .ok (.imul, 1) := by decide +kernel
theorem dX6_keep_79 : decode cX6_keep 79 = .ok (.if_icmp .ge 27, 3) := by decide +kernel
theorem dX6_keep_82 : decode cX6_keep 82 = .ok (.aload_n 0, 1) := by decide +kernel
theorem dX6_keep_83 : decode cX6_keep 83 = .ok (.getfield 70, 3) := by decide +kernel
theorem dX6_keep_86 : decode cX6_keep 86 = .ok (.sipush 560, 3) := by decide +kernel
theorem dX6_keep_89 : decode cX6_keep 89 = .ok (.iload_n 1, 1) := by decide +kernel
theorem dX6_keep_90 : decode cX6_keep 90 = .ok (.imul, 1) := by decide +kernel
theorem dX6_keep_91 : decode cX6_keep 91 = .ok (.iload_n 2, 1) := by decide +kernel
theorem dX6_keep_92 : decode cX6_keep 92 = .ok (.iadd, 1) := by decide +kernel
theorem dX6_keep_93 : decode cX6_keep 93 = .ok (.aload_n 0, 1) := by decide +kernel
theorem dX6_keep_94 : decode cX6_keep 94 = .ok (.getfield 57, 3) := by decide +kernel
theorem dX6_keep_97 : decode cX6_keep 97 = .ok (.iload_n 2, 1) := by decide +kernel
theorem dX6_keep_98 : decode cX6_keep 98 = .ok (.iaload, 1) := by decide +kernel
theorem dX6_keep_99 : decode cX6_keep 99 = .ok (.iastore, 1) := by decide +kernel
theorem dX6_keep_100 : decode cX6_keep 100 = .ok (.iinc 2 1, 3) := by decide +kernel
theorem dX6_keep_103 : decode cX6_keep 103 = .ok (.goto (-32), 3) := by decide +kernel
theorem dX6_keep_106 : decode cX6_keep 106 = .ok (.aload_n 0, 1) := by decide +kernel
theorem dX6_keep_107 : decode cX6_keep 107 = .ok (.getfield 150, 3) := by decide +kernel
theorem dX6_keep_110 : decode cX6_keep 110 = .ok (.ireturn, 1) := by decide +kernel
theorem dX6_on_0 : decode cX6_on 0 = .ok (.iload_n 1, 1) := by decide +kernel
theorem dX6_on_1 : decode cX6_on 1 = .ok (.iconst 0, 1) := by decide +kernel
theorem dX6_on_2 : decode cX6_on 2 = .ok (.iconst 2, 1) := by decide +kernel
theorem dX6_on_3 : decode cX6_on 3 = .ok (.invokestatic 86, 3) := by decide +kernel
theorem dX6_on_6 : decode cX6_on 6 = .ok (.ifCond .ne 5, 3) := by decide +kernel
theorem dX6_on_9 : decode cX6_on 9 = .ok (.iconst (-1), 1) := by decide +kernel
theorem dX6_on_10 : decode cX6_on 10 = .ok (.ireturn, 1) := by decide +kernel
theorem dX6_on_11 : decode cX6_on 11 = .ok (.aload_n 0, 1) := by decide +kernel
theorem dX6_on_12 : decode cX6_on 12 = .ok (.getfield 60, 3) := by decide +kernel
theorem dX6_on_15 : decode cX6_on 15 = .ok (.iload_n 1, 1) := by decide +kernel
theorem dX6_on_16 : decode cX6_on 16 = .ok (.baload, 1) := by decide +kernel
theorem dX6_on_17 : decode cX6_on 17 = .ok (.ifCond .ne 9, 3) := by decide +kernel
theorem dX6_on_20 : decode cX6_on 20 = .ok (.aload_n 0, 1) := by decide +kernel
theorem dX6_on_21 : decode cX6_on 21 = .ok (.iconst 1, 1) := by decide +kernel
theorem dX6_on_22 : decode cX6_on 22 = .ok (.invokevirtual 100, 3) := by decide +kernel
theorem dX6_on_25 : decode cX6_on 25 = .ok (.ireturn, 1) := by decide +kernel
theorem dX6_on_26 : decode cX6_on 26 = .ok (.aload_n 0, 1) := by decide +kernel
theorem dX6_on_27 : decode cX6_on 27 = .ok (.aload_n 0, 1) := by decide +kernel
theorem dX6_on_28 : decode cX6_on 28 = .ok (.getfield 64, 3) := by decide +kernel
theorem dX6_on_31 : decode cX6_on 31 = .ok (.iload_n 1, 1) := by decide +kernel
theorem dX6_on_32 : decode cX6_on 32 = .ok (.iaload, 1) := by decide +kernel
theorem dX6_on_33 : decode cX6_on 33 = .ok (.putfield 150, 3) := by decide +kernel
theorem dX6_on_36 : decode cX6_on 36 = .ok (.iconst 0, 1) := by decide +kernel
theorem dX6_on_37 : decode cX6_on 37 = .ok (.istore_n 2, 1) := by decide +kernel
theorem dX6_on_38 : decode cX6_on 38 = .ok (.iload_n 2, 1) := by decide +kernel
theorem dX6_on_39 : decode cX6_on 39 = .ok (.bipush 14, 2) := by decide +kernel
theorem dX6_on_41 : decode cX6_on 41 = .ok (.if_icmp .ge 26, 3) := by decide +kernel
theorem dX6_on_44 : decode cX6_on 44 = .ok (.aload_n 0, 1) := by decide +kernel
theorem dX6_on_45 : decode cX6_on 45 = .ok (.getfield 48, 3) := by decide +kernel
theorem dX6_on_48 : decode cX6_on 48 = .ok (.iload_n 2, 1) := by decide +kernel
theorem dX6_on_49 : decode cX6_on 49 = .ok (.aload_n 0, 1) := by decide +kernel
theorem dX6_on_50 : decode cX6_on 50 = .ok (.getfield 67, 3) := by decide +kernel
theorem dX6_on_53 : decode cX6_on 53 = .ok (.bipush 14, 2) := by decide +kernel
theorem dX6_on_55 : decode cX6_on 55 = .ok (.iload_n 1, 1) := by decide +kernel
theorem dX6_on_56 : decode cX6_on 56 = .ok (.imul, 1) := by decide +kernel
theorem dX6_on_57 : decode cX6_on 57 = .ok (.iload_n 2, 1) := by decide +kernel
theorem dX6_on_58 : decode cX6_on 58 = .ok (.iadd, 1) := by decide +kernel
theorem dX6_on_59 : decode cX6_on 59 = .ok (.iaload, 1) := by decide +kernel
theorem dX6_on_60 : decode cX6_on 60 = .ok (.iastore, 1) := by decide +kernel
theorem dX6_on_61 : decode cX6_on 61 = .ok (.iinc 2 1, 3) := by decide +kernel
theorem dX6_on_64 : decode cX6_on 64 = .ok (.goto (-26), 3) := by decide +kernel
theorem dX6_on_67 : decode cX6_on 67 = .ok (.iconst 0, 1) := by decide +kernel
theorem dX6_on_68 : decode cX6_on 68 = .ok (.istore_n 2, 1) := by decide +kernel
theorem dX6_on_69 : decode cX6_on 69 = .ok (.iload_n 2, 1) := by decide +kernel
theorem dX6_on_70 : decode cX6_on 70 = .ok (.bipush 14, 2) := by decide +kernel
theorem dX6_on_72 : decode cX6_on 72 = .ok (.aload_n 0, 1) := by decide +kernel
theorem dX6_on_73 : decode cX6_on 73 = .ok (.getfield 150, 3) := by decide +kernel
theorem dX6_on_76 : decode cX6_on 76 = .ok (.imul, 1) := by decide +kernel
theorem dX6_on_77 : decode cX6_on 77 = .ok (.if_icmp .ge 27, 3) := by decide +kernel
theorem dX6_on_80 : decode cX6_on 80 = .ok (.aload_n 0, 1) := by decide +kernel
theorem dX6_on_81 : decode cX6_on 81 = .ok (.getfield 57, 3) := by decide +kernel
theorem dX6_on_84 : decode cX6_on 84 = .ok (.iload_n 2, 1) := by decide +kernel
theorem dX6_on_85 : decode cX6_on 85 = .ok (.aload_n 0, 1) := by decide +kernel
theorem dX6_on_86 : decode cX6_on 86 = .ok (.getfield 70, 3) := by decide +kernel
theorem dX6_on_89 : decode cX6_on 89 = .ok (.sipush 560, 3) := by decide +kernel
theorem dX6_on_92 : decode cX6_on 92 = .ok (.iload_n 1, 1) := by decide +kernel
theorem dX6_on_93 : decode cX6_on 93 = .ok (.imul, 1) := by decide +kernel
theorem dX6_on_94 : decode cX6_on 94 = .ok (.iload_n 2, 1) := by decide +kernel
theorem dX6_on_95 : decode cX6_on 95 = .ok (.iadd, 1) := by decide +kernel
theorem dX6_on_96 : decode cX6_on 96 = .ok (.iaload, 1) := by decide +kernel
theorem dX6_on_97 : decode cX6_on 97 = .ok (.iastore, 1) := by decide +kernel
theorem dX6_on_98 : decode cX6_on 98 = .ok (.iinc 2 1, 3) := by decide +kernel
theorem dX6_on_101 : decode cX6_on 101 = .ok (.goto (-32), 3) := by decide +kernel
theorem dX6_on_104 : decode cX6_on 104 = .ok (.aload_n 0, 1) := by decide +kernel
theorem dX6_on_105 : decode cX6_on 105 = .ok (.getfield 150, 3) := by decide +kernel
theorem dX6_on_108 : decode cX6_on 108 = .ok (.ireturn, 1) := by decide +kernel
theorem dX6_tells_0 : decode cX6_tells 0 = .ok (.aload_n 0, 1) := by decide +kernel
theorem dX6_tells_1 : decode cX6_tells 1 = .ok (.iload_n 1, 1) := by decide +kernel
theorem dX6_tells_2 : decode cX6_tells 2 = .ok (.iload_n 2, 1) := by decide +kernel
theorem dX6_tells_3 : decode cX6_tells 3 = .ok (.invokevirtual 199, 3) := by decide +kernel
theorem dX6_tells_6 : decode cX6_tells 6 = .ok (.ifCond .ne 7, 3) := by decide +kernel
theorem dX6_tells_9 : decode cX6_tells 9 = .ok (.iconst (-1), 1) := by decide +kernel
theorem dX6_tells_10 : decode cX6_tells 10 = .ok (.goto 21, 3) := by decide +kernel
theorem dX6_tells_13 : decode cX6_tells 13 = .ok (.aload_n 0, 1) := by decide +kernel
theorem dX6_tells_14 : decode cX6_tells 14 = .ok (.aload_n 0, 1) := by decide +kernel
theorem dX6_tells_15 : decode cX6_tells 15 = .ok (.getfield 48, 3) := by decide +kernel
theorem dX6_tells_18 : decode cX6_tells 18 = .ok (.iload_n 1, 1) := by decide +kernel
theorem dX6_tells_19 : decode cX6_tells 19 = .ok (.iload_n 2, 1) := by decide +kernel
theorem dX6_tells_20 : decode cX6_tells 20 = .ok (.invokevirtual 171, 3) := by decide +kernel
theorem dX6_tells_23 : decode cX6_tells 23 = .ok (.ifCond .eq 7, 3) := by decide +kernel
theorem dX6_tells_26 : decode cX6_tells 26 = .ok (.iconst 1, 1) := by decide +kernel
theorem dX6_tells_27 : decode cX6_tells 27 = .ok (.goto 4, 3) := by decide +kernel
theorem dX6_tells_30 : decode cX6_tells 30 = .ok (.iconst 0, 1) := by decide +kernel
theorem dX6_tells_31 : decode cX6_tells 31 = .ok (.ireturn, 1) := by decide +kernel
theorem dX6_order_0 : decode cX6_order 0 = .ok (.aload_n 0, 1) := by decide +kernel
theorem dX6_order_1 : decode cX6_order 1 = .ok (.iload_n 1, 1) := by decide +kernel
theorem dX6_order_2 : decode cX6_order 2 = .ok (.iload_n 2, 1) := by decide +kernel
theorem dX6_order_3 : decode cX6_order 3 = .ok (.invokevirtual 199, 3) := by decide +kernel
theorem dX6_order_6 : decode cX6_order 6 = .ok (.ifCond .eq 10, 3) := by decide +kernel
theorem dX6_order_9 : decode cX6_order 9 = .ok (.iload_n 3, 1) := by decide +kernel
theorem dX6_order_10 : decode cX6_order 10 = .ok (.invokestatic 96, 3) := by decide +kernel
theorem dX6_order_13 : decode cX6_order 13 = .ok (.ifCond .ne 5, 3) := by decide +kernel
theorem dX6_order_16 : decode cX6_order 16 = .ok (.iconst (-1), 1) := by decide +kernel
theorem dX6_order_17 : decode cX6_order 17 = .ok (.ireturn, 1) := by decide +kernel
theorem dX6_order_18 : decode cX6_order 18 = .ok (.aload_n 0, 1) := by decide +kernel
theorem dX6_order_19 : decode cX6_order 19 = .ok (.aload_n 0, 1) := by decide +kernel
theorem dX6_order_20 : decode cX6_order 20 = .ok (.getfield 48, 3) := by decide +kernel
theorem dX6_order_23 : decode cX6_order 23 = .ok (.invokevirtual 206, 3) := by decide +kernel
theorem dX6_order_26 : decode cX6_order 26 = .ok (.aload_n 0, 1) := by decide +kernel
theorem dX6_order_27 : decode cX6_order 27 = .ok (.iload_n 1, 1) := by decide +kernel
theorem dX6_order_28 : decode cX6_order 28 = .ok (.iload_n 2, 1) := by decide +kernel
theorem dX6_order_29 : decode cX6_order 29 = .ok (.invokevirtual 210, 3) := by decide +kernel
theorem dX6_order_32 : decode cX6_order 32 = .ok (.istore 4, 2) := by decide +kernel
theorem dX6_order_34 : decode cX6_order 34 = .ok (.iload 4, 2) := by decide +kernel
theorem dX6_order_36 : decode cX6_order 36 = .ok (.bipush (-9), 2) := by decide +kernel
theorem dX6_order_38 : decode cX6_order 38 = .ok (.if_icmp .ne 6, 3) := by decide +kernel
theorem dX6_order_41 : decode cX6_order 41 = .ok (.bipush (-9), 2) := by decide +kernel
theorem dX6_order_43 : decode cX6_order 43 = .ok (.ireturn, 1) := by decide +kernel
theorem dX6_order_44 : decode cX6_order 44 = .ok (.aload_n 0, 1) := by decide +kernel
theorem dX6_order_45 : decode cX6_order 45 = .ok (.getfield 73, 3) := by decide +kernel
theorem dX6_order_48 : decode cX6_order 48 = .ok (.iconst 0, 1) := by decide +kernel
theorem dX6_order_49 : decode cX6_order 49 = .ok (.iload_n 1, 1) := by decide +kernel
theorem dX6_order_50 : decode cX6_order 50 = .ok (.iastore, 1) := by decide +kernel
theorem dX6_order_51 : decode cX6_order 51 = .ok (.iconst 1, 1) := by decide +kernel
theorem dX6_order_52 : decode cX6_order 52 = .ok (.istore 5, 2) := by decide +kernel
theorem dX6_order_54 : decode cX6_order 54 = .ok (.iload 5, 2) := by decide +kernel
theorem dX6_order_56 : decode cX6_order 56 = .ok (.iload 4, 2) := by decide +kernel
theorem dX6_order_58 : decode cX6_order 58 = .ok (.if_icmp .gt 64, 3) := by decide +kernel
theorem dX6_order_61 : decode cX6_order 61 = .ok (.iconst 0, 1) := by decide +kernel
theorem dX6_order_62 : decode cX6_order 62 = .ok (.istore 6, 2) := by decide +kernel
theorem dX6_order_64 : decode cX6_order 64 = .ok (.aload_n 0, 1) := by decide +kernel
theorem dX6_order_65 : decode cX6_order 65 = .ok (.getfield 54, 3) := by decide +kernel
theorem dX6_order_68 : decode cX6_order 68 = .ok (.aload_n 0, 1) := by decide +kernel
theorem dX6_order_69 : decode cX6_order 69 = .ok (.getfield 73, 3) := by decide +kernel
theorem dX6_order_72 : decode cX6_order 72 = .ok (.iload 5, 2) := by decide +kernel
theorem dX6_order_74 : decode cX6_order 74 = .ok (.iconst 1, 1) := by decide +kernel
theorem dX6_order_75 : decode cX6_order 75 = .ok (.isub, 1) := by decide +kernel
theorem dX6_order_76 : decode cX6_order 76 = .ok (.iaload, 1) := by decide +kernel
theorem dX6_order_77 : decode cX6_order 77 = .ok (.iaload, 1) := by decide +kernel
theorem dX6_order_78 : decode cX6_order 78 = .ok (.iload 6, 2) := by decide +kernel
theorem dX6_order_80 : decode cX6_order 80 = .ok (.invokestatic 123, 3) := by decide +kernel
theorem dX6_order_83 : decode cX6_order 83 = .ok (.ifCond .eq 18, 3) := by decide +kernel
theorem dX6_order_86 : decode cX6_order 86 = .ok (.aload_n 0, 1) := by decide +kernel
theorem dX6_order_87 : decode cX6_order 87 = .ok (.iload 6, 2) := by decide +kernel
theorem dX6_order_89 : decode cX6_order 89 = .ok (.iload_n 2, 1) := by decide +kernel
theorem dX6_order_90 : decode cX6_order 90 = .ok (.invokevirtual 210, 3) := by decide +kernel
theorem dX6_order_93 : decode cX6_order 93 = .ok (.iload 4, 2) := by decide +kernel
theorem dX6_order_95 : decode cX6_order 95 = .ok (.iload 5, 2) := by decide +kernel
theorem dX6_order_97 : decode cX6_order 97 = .ok (.isub, 1) := by decide +kernel
theorem dX6_order_98 : decode cX6_order 98 = .ok (.if_icmp .eq 9, 3) := by decide +kernel
theorem dX6_order_101 : decode cX6_order 101 = .ok (.iinc 6 1, 3) := by decide +kernel
theorem dX6_order_104 : decode cX6_order 104 = .ok (.goto (-40), 3) := by decide +kernel
theorem dX6_order_107 : decode cX6_order 107 = .ok (.aload_n 0, 1) := by decide +kernel
theorem dX6_order_108 : decode cX6_order 108 = .ok (.getfield 73, 3) := by decide +kernel
theorem dX6_order_111 : decode cX6_order 111 = .ok (.iload 5, 2) := by decide +kernel
theorem dX6_order_113 : decode cX6_order 113 = .ok (.iload 6, 2) := by decide +kernel
theorem dX6_order_115 : decode cX6_order 115 = .ok (.iastore, 1) := by decide +kernel
theorem dX6_order_116 : decode cX6_order 116 = .ok (.iinc 5 1, 3) := by decide +kernel
theorem dX6_order_119 : decode cX6_order 119 = .ok (.goto (-65), 3) := by decide +kernel
theorem dX6_order_122 : decode cX6_order 122 = .ok (.aload_n 0, 1) := by decide +kernel
theorem dX6_order_123 : decode cX6_order 123 = .ok (.iload_n 3, 1) := by decide +kernel
theorem dX6_order_124 : decode cX6_order 124 = .ok (.aload_n 0, 1) := by decide +kernel
theorem dX6_order_125 : decode cX6_order 125 = .ok (.getfield 73, 3) := by decide +kernel
theorem dX6_order_128 : decode cX6_order 128 = .ok (.iload 4, 2) := by decide +kernel
theorem dX6_order_130 : decode cX6_order 130 = .ok (.iconst 1, 1) := by decide +kernel
theorem dX6_order_131 : decode cX6_order 131 = .ok (.iadd, 1) := by decide +kernel
theorem dX6_order_132 : decode cX6_order 132 = .ok (.invokevirtual 213, 3) := by decide +kernel
theorem dX6_order_135 : decode cX6_order 135 = .ok (.iload 4, 2) := by decide +kernel
theorem dX6_order_137 : decode cX6_order 137 = .ok (.iconst 1, 1) := by decide +kernel
theorem dX6_order_138 : decode cX6_order 138 = .ok (.isub, 1) := by decide +kernel
theorem dX6_order_139 : decode cX6_order 139 = .ok (.ireturn, 1) := by decide +kernel
theorem dX6_needs_0 : decode cX6_needs 0 = .ok (.aload_n 0, 1) := by decide +kernel
theorem dX6_needs_1 : decode cX6_needs 1 = .ok (.iload_n 1, 1) := by decide +kernel
theorem dX6_needs_2 : decode cX6_needs 2 = .ok (.iload_n 2, 1) := by decide +kernel
theorem dX6_needs_3 : decode cX6_needs 3 = .ok (.invokevirtual 199, 3) := by decide +kernel
theorem dX6_needs_6 : decode cX6_needs 6 = .ok (.ifCond .ne 5, 3) := by decide +kernel
theorem dX6_needs_9 : decode cX6_needs 9 = .ok (.iconst (-1), 1) := by decide +kernel
theorem dX6_needs_10 : decode cX6_needs 10 = .ok (.ireturn, 1) := by decide +kernel
theorem dX6_needs_11 : decode cX6_needs 11 = .ok (.aload_n 0, 1) := by decide +kernel
theorem dX6_needs_12 : decode cX6_needs 12 = .ok (.aload_n 0, 1) := by decide +kernel
theorem dX6_needs_13 : decode cX6_needs 13 = .ok (.getfield 48, 3) := by decide +kernel
theorem dX6_needs_16 : decode cX6_needs 16 = .ok (.invokevirtual 206, 3) := by decide +kernel
theorem dX6_needs_19 : decode cX6_needs 19 = .ok (.iconst 0, 1) := by decide +kernel
theorem dX6_needs_20 : decode cX6_needs 20 = .ok (.istore_n 3, 1) := by decide +kernel
theorem dX6_needs_21 : decode cX6_needs 21 = .ok (.iconst 0, 1) := by decide +kernel
theorem dX6_needs_22 : decode cX6_needs 22 = .ok (.istore 4, 2) := by decide +kernel
theorem dX6_needs_24 : decode cX6_needs 24 = .ok (.iload 4, 2) := by decide +kernel
theorem dX6_needs_26 : decode cX6_needs 26 = .ok (.aload_n 0, 1) := by decide +kernel
theorem dX6_needs_27 : decode cX6_needs 27 = .ok (.getfield 147, 3) := by decide +kernel
theorem dX6_needs_30 : decode cX6_needs 30 = .ok (.if_icmp .ge 55, 3) := by decide +kernel
theorem dX6_needs_33 : decode cX6_needs 33 = .ok (.iload_n 3, 1) := by decide +kernel
theorem dX6_needs_34 : decode cX6_needs 34 = .ok (.iload 4, 2) := by decide +kernel
theorem dX6_needs_36 : decode cX6_needs 36 = .ok (.iload_n 1, 1) := by decide +kernel
theorem dX6_needs_37 : decode cX6_needs 37 = .ok (.if_icmp .eq 39, 3) := by decide +kernel
theorem dX6_needs_40 : decode cX6_needs 40 = .ok (.iload 4, 2) := by decide +kernel
theorem dX6_needs_42 : decode cX6_needs 42 = .ok (.iload_n 2, 1) := by decide +kernel
theorem dX6_needs_43 : decode cX6_needs 43 = .ok (.if_icmp .eq 33, 3) := by decide +kernel
theorem dX6_needs_46 : decode cX6_needs 46 = .ok (.aload_n 0, 1) := by decide +kernel
theorem dX6_needs_47 : decode cX6_needs 47 = .ok (.iload_n 1, 1) := by decide +kernel
theorem dX6_needs_48 : decode cX6_needs 48 = .ok (.aload_n 0, 1) := by decide +kernel
theorem dX6_needs_49 : decode cX6_needs 49 = .ok (.invokevirtual 217, 3) := by decide +kernel
theorem dX6_needs_52 : decode cX6_needs 52 = .ok (.iconst 1, 1) := by decide +kernel
theorem dX6_needs_53 : decode cX6_needs 53 = .ok (.iload 4, 2) := by decide +kernel
theorem dX6_needs_55 : decode cX6_needs 55 = .ok (.ishl, 1) := by decide +kernel
theorem dX6_needs_56 : decode cX6_needs 56 = .ok (.iconst (-1), 1) := by decide +kernel
theorem dX6_needs_57 : decode cX6_needs 57 = .ok (.ixor, 1) := by decide +kernel
theorem dX6_needs_58 : decode cX6_needs 58 = .ok (.iand, 1) := by decide +kernel
theorem dX6_needs_59 : decode cX6_needs 59 = .ok (.invokevirtual 220, 3) := by decide +kernel
theorem dX6_needs_62 : decode cX6_needs 62 = .ok (.iload_n 2, 1) := by decide +kernel
theorem dX6_needs_63 : decode cX6_needs 63 = .ok (.invokestatic 123, 3) := by decide +kernel
theorem dX6_needs_66 : decode cX6_needs 66 = .ok (.ifCond .ne 10, 3) := by decide +kernel
theorem dX6_needs_69 : decode cX6_needs 69 = .ok (.iconst 1, 1) := by decide +kernel
theorem dX6_needs_70 : decode cX6_needs 70 = .ok (.iload 4, 2) := by decide +kernel
theorem dX6_needs_72 : decode cX6_needs 72 = .ok (.ishl, 1) := by decide +kernel
theorem dX6_needs_73 : decode cX6_needs 73 = .ok (.goto 4, 3) := by decide +kernel
theorem dX6_needs_76 : decode cX6_needs 76 = .ok (.iconst 0, 1) := by decide +kernel
theorem dX6_needs_77 : decode cX6_needs 77 = .ok (.ior, 1) := by decide +kernel
theorem dX6_needs_78 : decode cX6_needs 78 = .ok (.istore_n 3, 1) := by decide +kernel
theorem dX6_needs_79 : decode cX6_needs 79 = .ok (.iinc 4 1, 3) := by decide +kernel
theorem dX6_needs_82 : decode cX6_needs 82 = .ok (.goto (-58), 3) := by decide +kernel
theorem dX6_needs_85 : decode cX6_needs 85 = .ok (.aload_n 0, 1) := by decide +kernel
theorem dX6_needs_86 : decode cX6_needs 86 = .ok (.aload_n 0, 1) := by decide +kernel
theorem dX6_needs_87 : decode cX6_needs 87 = .ok (.iload_n 1, 1) := by decide +kernel
theorem dX6_needs_88 : decode cX6_needs 88 = .ok (.aload_n 0, 1) := by decide +kernel
theorem dX6_needs_89 : decode cX6_needs 89 = .ok (.invokevirtual 217, 3) := by decide +kernel
theorem dX6_needs_92 : decode cX6_needs 92 = .ok (.invokevirtual 220, 3) := by decide +kernel
theorem dX6_needs_95 : decode cX6_needs 95 = .ok (.iload_n 2, 1) := by decide +kernel
theorem dX6_needs_96 : decode cX6_needs 96 = .ok (.invokestatic 123, 3) := by decide +kernel
theorem dX6_needs_99 : decode cX6_needs 99 = .ok (.ifCond .eq 7, 3) := by decide +kernel
theorem dX6_needs_102 : decode cX6_needs 102 = .ok (.iconst 1, 1) := by decide +kernel
theorem dX6_needs_103 : decode cX6_needs 103 = .ok (.goto 4, 3) := by decide +kernel
theorem dX6_needs_106 : decode cX6_needs 106 = .ok (.iconst 0, 1) := by decide +kernel
theorem dX6_needs_107 : decode cX6_needs 107 = .ok (.iload_n 3, 1) := by decide +kernel
theorem dX6_needs_108 : decode cX6_needs 108 = .ok (.invokevirtual 108, 3) := by decide +kernel
theorem dX6_needs_111 : decode cX6_needs 111 = .ok (.ireturn, 1) := by decide +kernel
theorem dX6_isCrew_0 : decode cX6_isCrew 0 = .ok (.iconst 1, 1) := by decide +kernel
theorem dX6_isCrew_1 : decode cX6_isCrew 1 = .ok (.istore_n 2, 1) := by decide +kernel
theorem dX6_isCrew_2 : decode cX6_isCrew 2 = .ok (.iconst 0, 1) := by decide +kernel
theorem dX6_isCrew_3 : decode cX6_isCrew 3 = .ok (.istore_n 3, 1) := by decide +kernel
theorem dX6_isCrew_4 : decode cX6_isCrew 4 = .ok (.iload_n 3, 1) := by decide +kernel
theorem dX6_isCrew_5 : decode cX6_isCrew 5 = .ok (.aload_n 0, 1) := by decide +kernel
theorem dX6_isCrew_6 : decode cX6_isCrew 6 = .ok (.getfield 147, 3) := by decide +kernel
theorem dX6_isCrew_9 : decode cX6_isCrew 9 = .ok (.if_icmp .ge 46, 3) := by decide +kernel
theorem dX6_isCrew_12 : decode cX6_isCrew 12 = .ok (.iload_n 2, 1) := by decide +kernel
theorem dX6_isCrew_13 : decode cX6_isCrew 13 = .ok (.ifCond .eq 34, 3) := by decide +kernel
theorem dX6_isCrew_16 : decode cX6_isCrew 16 = .ok (.iload_n 1, 1) := by decide +kernel
theorem dX6_isCrew_17 : decode cX6_isCrew 17 = .ok (.iload_n 3, 1) := by decide +kernel
theorem dX6_isCrew_18 : decode cX6_isCrew 18 = .ok (.invokestatic 123, 3) := by decide +kernel
theorem dX6_isCrew_21 : decode cX6_isCrew 21 = .ok (.ifCond .eq 22, 3) := by decide +kernel
theorem dX6_isCrew_24 : decode cX6_isCrew 24 = .ok (.iload_n 1, 1) := by decide +kernel
theorem dX6_isCrew_25 : decode cX6_isCrew 25 = .ok (.iconst 1, 1) := by decide +kernel
theorem dX6_isCrew_26 : decode cX6_isCrew 26 = .ok (.iload_n 3, 1) := by decide +kernel
theorem dX6_isCrew_27 : decode cX6_isCrew 27 = .ok (.ishl, 1) := by decide +kernel
theorem dX6_isCrew_28 : decode cX6_isCrew 28 = .ok (.iconst (-1), 1) := by decide +kernel
theorem dX6_isCrew_29 : decode cX6_isCrew 29 = .ok (.ixor, 1) := by decide +kernel
theorem dX6_isCrew_30 : decode cX6_isCrew 30 = .ok (.iand, 1) := by decide +kernel
theorem dX6_isCrew_31 : decode cX6_isCrew 31 = .ok (.aload_n 0, 1) := by decide +kernel
theorem dX6_isCrew_32 : decode cX6_isCrew 32 = .ok (.getfield 54, 3) := by decide +kernel
theorem dX6_isCrew_35 : decode cX6_isCrew 35 = .ok (.iload_n 3, 1) := by decide +kernel
theorem dX6_isCrew_36 : decode cX6_isCrew 36 = .ok (.iaload, 1) := by decide +kernel
theorem dX6_isCrew_37 : decode cX6_isCrew 37 = .ok (.iconst (-1), 1) := by decide +kernel
theorem dX6_isCrew_38 : decode cX6_isCrew 38 = .ok (.ixor, 1) := by decide +kernel
theorem dX6_isCrew_39 : decode cX6_isCrew 39 = .ok (.iand, 1) := by decide +kernel
theorem dX6_isCrew_40 : decode cX6_isCrew 40 = .ok (.ifCond .ne 7, 3) := by decide +kernel
theorem dX6_isCrew_43 : decode cX6_isCrew 43 = .ok (.iconst 1, 1) := by decide +kernel
theorem dX6_isCrew_44 : decode cX6_isCrew 44 = .ok (.goto 4, 3) := by decide +kernel
theorem dX6_isCrew_47 : decode cX6_isCrew 47 = .ok (.iconst 0, 1) := by decide +kernel
theorem dX6_isCrew_48 : decode cX6_isCrew 48 = .ok (.istore_n 2, 1) := by decide +kernel
theorem dX6_isCrew_49 : decode cX6_isCrew 49 = .ok (.iinc 3 1, 3) := by decide +kernel
theorem dX6_isCrew_52 : decode cX6_isCrew 52 = .ok (.goto (-48), 3) := by decide +kernel
theorem dX6_isCrew_55 : decode cX6_isCrew 55 = .ok (.iload_n 2, 1) := by decide +kernel
theorem dX6_isCrew_56 : decode cX6_isCrew 56 = .ok (.ireturn, 1) := by decide +kernel
theorem dX6_crew_0 : decode cX6_crew 0 = .ok (.aload_n 0, 1) := by decide +kernel
theorem dX6_crew_1 : decode cX6_crew 1 = .ok (.getfield 147, 3) := by decide +kernel
theorem dX6_crew_4 : decode cX6_crew 4 = .ok (.ifCond .ne 6, 3) := by decide +kernel
theorem dX6_crew_7 : decode cX6_crew 7 = .ok (.bipush (-4), 2) := by decide +kernel
theorem dX6_crew_9 : decode cX6_crew 9 = .ok (.ireturn, 1) := by decide +kernel
theorem dX6_crew_10 : decode cX6_crew 10 = .ok (.aload_n 0, 1) := by decide +kernel
theorem dX6_crew_11 : decode cX6_crew 11 = .ok (.aload_n 0, 1) := by decide +kernel
theorem dX6_crew_12 : decode cX6_crew 12 = .ok (.getfield 48, 3) := by decide +kernel
theorem dX6_crew_15 : decode cX6_crew 15 = .ok (.invokevirtual 206, 3) := by decide +kernel
theorem dX6_crew_18 : decode cX6_crew 18 = .ok (.iconst 0, 1) := by decide +kernel
theorem dX6_crew_19 : decode cX6_crew 19 = .ok (.istore_n 1, 1) := by decide +kernel
theorem dX6_crew_20 : decode cX6_crew 20 = .ok (.iconst 0, 1) := by decide +kernel
theorem dX6_crew_21 : decode cX6_crew 21 = .ok (.istore_n 2, 1) := by decide +kernel
theorem dX6_crew_22 : decode cX6_crew 22 = .ok (.iload_n 2, 1) := by decide +kernel
theorem dX6_crew_23 : decode cX6_crew 23 = .ok (.aload_n 0, 1) := by decide +kernel
theorem dX6_crew_24 : decode cX6_crew 24 = .ok (.invokevirtual 217, 3) := by decide +kernel
theorem dX6_crew_27 : decode cX6_crew 27 = .ok (.if_icmp .gt 34, 3) := by decide +kernel
theorem dX6_crew_30 : decode cX6_crew 30 = .ok (.iload_n 2, 1) := by decide +kernel
theorem dX6_crew_31 : decode cX6_crew 31 = .ok (.invokestatic 181, 3) := by decide +kernel
theorem dX6_crew_34 : decode cX6_crew 34 = .ok (.iload_n 1, 1) := by decide +kernel
theorem dX6_crew_35 : decode cX6_crew 35 = .ok (.invokestatic 181, 3) := by decide +kernel
theorem dX6_crew_38 : decode cX6_crew 38 = .ok (.if_icmp .le 15, 3) := by decide +kernel
theorem dX6_crew_41 : decode cX6_crew 41 = .ok (.aload_n 0, 1) := by decide +kernel
theorem dX6_crew_42 : decode cX6_crew 42 = .ok (.iload_n 2, 1) := by decide +kernel
theorem dX6_crew_43 : decode cX6_crew 43 = .ok (.invokevirtual 223, 3) := by decide +kernel
theorem dX6_crew_46 : decode cX6_crew 46 = .ok (.ifCond .eq 7, 3) := by decide +kernel
theorem dX6_crew_49 : decode cX6_crew 49 = .ok (.iload_n 2, 1) := by decide +kernel
theorem dX6_crew_50 : decode cX6_crew 50 = .ok (.goto 4, 3) := by decide +kernel
theorem dX6_crew_53 : decode cX6_crew 53 = .ok (.iload_n 1, 1) := by decide +kernel
theorem dX6_crew_54 : decode cX6_crew 54 = .ok (.istore_n 1, 1) := by decide +kernel
theorem dX6_crew_55 : decode cX6_crew 55 = .ok (.iinc 2 1, 3) := by decide +kernel
theorem dX6_crew_58 : decode cX6_crew 58 = .ok (.goto (-36), 3) := by decide +kernel
theorem dX6_crew_61 : decode cX6_crew 61 = .ok (.aload_n 0, 1) := by decide +kernel
theorem dX6_crew_62 : decode cX6_crew 62 = .ok (.iload_n 1, 1) := by decide +kernel
theorem dX6_crew_63 : decode cX6_crew 63 = .ok (.iload_n 1, 1) := by decide +kernel
theorem dX6_crew_64 : decode cX6_crew 64 = .ok (.invokestatic 181, 3) := by decide +kernel
theorem dX6_crew_67 : decode cX6_crew 67 = .ok (.invokevirtual 108, 3) := by decide +kernel
theorem dX6_crew_70 : decode cX6_crew 70 = .ok (.ireturn, 1) := by decide +kernel
theorem dX6_reach_0 : decode cX6_reach 0 = .ok (.aload_n 0, 1) := by decide +kernel
theorem dX6_reach_1 : decode cX6_reach 1 = .ok (.iload_n 1, 1) := by decide +kernel
theorem dX6_reach_2 : decode cX6_reach 2 = .ok (.invokevirtual 175, 3) := by decide +kernel
theorem dX6_reach_5 : decode cX6_reach 5 = .ok (.ifCond .ne 5, 3) := by decide +kernel
theorem dX6_reach_8 : decode cX6_reach 8 = .ok (.iconst (-1), 1) := by decide +kernel
theorem dX6_reach_9 : decode cX6_reach 9 = .ok (.ireturn, 1) := by decide +kernel
theorem dX6_reach_10 : decode cX6_reach 10 = .ok (.aload_n 0, 1) := by decide +kernel
theorem dX6_reach_11 : decode cX6_reach 11 = .ok (.aload_n 0, 1) := by decide +kernel
theorem dX6_reach_12 : decode cX6_reach 12 = .ok (.getfield 48, 3) := by decide +kernel
theorem dX6_reach_15 : decode cX6_reach 15 = .ok (.invokevirtual 206, 3) := by decide +kernel
theorem dX6_reach_18 : decode cX6_reach 18 = .ok (.aload_n 0, 1) := by decide +kernel
theorem dX6_reach_19 : decode cX6_reach 19 = .ok (.iload_n 1, 1) := by decide +kernel
theorem dX6_reach_20 : decode cX6_reach 20 = .ok (.aload_n 0, 1) := by decide +kernel
theorem dX6_reach_21 : decode cX6_reach 21 = .ok (.invokevirtual 217, 3) := by decide +kernel
theorem dX6_reach_24 : decode cX6_reach 24 = .ok (.invokevirtual 220, 3) := by decide +kernel
theorem dX6_reach_27 : decode cX6_reach 27 = .ok (.ireturn, 1) := by decide +kernel
theorem dX6_crier_0 : decode cX6_crier 0 = .ok (.aload_n 0, 1) := by decide +kernel
theorem dX6_crier_1 : decode cX6_crier 1 = .ok (.getfield 147, 3) := by decide +kernel
theorem dX6_crier_4 : decode cX6_crier 4 = .ok (.ifCond .ne 6, 3) := by decide +kernel
theorem dX6_crier_7 : decode cX6_crier 7 = .ok (.bipush (-4), 2) := by decide +kernel
theorem dX6_crier_9 : decode cX6_crier 9 = .ok (.ireturn, 1) := by decide +kernel
theorem dX6_crier_10 : decode cX6_crier 10 = .ok (.aload_n 0, 1) := by decide +kernel
theorem dX6_crier_11 : decode cX6_crier 11 = .ok (.aload_n 0, 1) := by decide +kernel
theorem dX6_crier_12 : decode cX6_crier 12 = .ok (.getfield 48, 3) := by decide +kernel
theorem dX6_crier_15 : decode cX6_crier 15 = .ok (.invokevirtual 206, 3) := by decide +kernel
theorem dX6_crier_18 : decode cX6_crier 18 = .ok (.iconst 0, 1) := by decide +kernel
theorem dX6_crier_19 : decode cX6_crier 19 = .ok (.istore_n 1, 1) := by decide +kernel
theorem dX6_crier_20 : decode cX6_crier 20 = .ok (.iconst 0, 1) := by decide +kernel
theorem dX6_crier_21 : decode cX6_crier 21 = .ok (.istore_n 2, 1) := by decide +kernel
theorem dX6_crier_22 : decode cX6_crier 22 = .ok (.iload_n 2, 1) := by decide +kernel
theorem dX6_crier_23 : decode cX6_crier 23 = .ok (.aload_n 0, 1) := by decide +kernel
theorem dX6_crier_24 : decode cX6_crier 24 = .ok (.getfield 147, 3) := by decide +kernel
theorem dX6_crier_27 : decode cX6_crier 27 = .ok (.if_icmp .ge 42, 3) := by decide +kernel
theorem dX6_crier_30 : decode cX6_crier 30 = .ok (.aload_n 0, 1) := by decide +kernel
theorem dX6_crier_31 : decode cX6_crier 31 = .ok (.iload_n 2, 1) := by decide +kernel
theorem dX6_crier_32 : decode cX6_crier 32 = .ok (.aload_n 0, 1) := by decide +kernel
theorem dX6_crier_33 : decode cX6_crier 33 = .ok (.invokevirtual 217, 3) := by decide +kernel
theorem dX6_crier_36 : decode cX6_crier 36 = .ok (.invokevirtual 220, 3) := by decide +kernel
theorem dX6_crier_39 : decode cX6_crier 39 = .ok (.invokestatic 181, 3) := by decide +kernel
theorem dX6_crier_42 : decode cX6_crier 42 = .ok (.aload_n 0, 1) := by decide +kernel
theorem dX6_crier_43 : decode cX6_crier 43 = .ok (.iload_n 1, 1) := by decide +kernel
theorem dX6_crier_44 : decode cX6_crier 44 = .ok (.aload_n 0, 1) := by decide +kernel
theorem dX6_crier_45 : decode cX6_crier 45 = .ok (.invokevirtual 217, 3) := by decide +kernel
theorem dX6_crier_48 : decode cX6_crier 48 = .ok (.invokevirtual 220, 3) := by decide +kernel
theorem dX6_crier_51 : decode cX6_crier 51 = .ok (.invokestatic 181, 3) := by decide +kernel
theorem dX6_crier_54 : decode cX6_crier 54 = .ok (.if_icmp .le 7, 3) := by decide +kernel
theorem dX6_crier_57 : decode cX6_crier 57 = .ok (.iload_n 2, 1) := by decide +kernel
theorem dX6_crier_58 : decode cX6_crier 58 = .ok (.goto 4, 3) := by decide +kernel
theorem dX6_crier_61 : decode cX6_crier 61 = .ok (.iload_n 1, 1) := by decide +kernel
theorem dX6_crier_62 : decode cX6_crier 62 = .ok (.istore_n 1, 1) := by decide +kernel
theorem dX6_crier_63 : decode cX6_crier 63 = .ok (.iinc 2 1, 3) := by decide +kernel
theorem dX6_crier_66 : decode cX6_crier 66 = .ok (.goto (-44), 3) := by decide +kernel
theorem dX6_crier_69 : decode cX6_crier 69 = .ok (.aload_n 0, 1) := by decide +kernel
theorem dX6_crier_70 : decode cX6_crier 70 = .ok (.aload_n 0, 1) := by decide +kernel
theorem dX6_crier_71 : decode cX6_crier 71 = .ok (.iload_n 1, 1) := by decide +kernel
theorem dX6_crier_72 : decode cX6_crier 72 = .ok (.aload_n 0, 1) := by decide +kernel
theorem dX6_crier_73 : decode cX6_crier 73 = .ok (.invokevirtual 217, 3) := by decide +kernel
theorem dX6_crier_76 : decode cX6_crier 76 = .ok (.invokevirtual 220, 3) := by decide +kernel
theorem dX6_crier_79 : decode cX6_crier 79 = .ok (.invokestatic 181, 3) := by decide +kernel
theorem dX6_crier_82 : decode cX6_crier 82 = .ok (.iconst 1, 1) := by decide +kernel
theorem dX6_crier_83 : decode cX6_crier 83 = .ok (.isub, 1) := by decide +kernel
theorem dX6_crier_84 : decode cX6_crier 84 = .ok (.iload_n 1, 1) := by decide +kernel
theorem dX6_crier_85 : decode cX6_crier 85 = .ok (.invokevirtual 108, 3) := by decide +kernel
theorem dX6_crier_88 : decode cX6_crier 88 = .ok (.ireturn, 1) := by decide +kernel
theorem dX6_dealMany_0 : decode cX6_dealMany 0 = .ok (.iconst 1, 1) := by decide +kernel
theorem dX6_dealMany_1 : decode cX6_dealMany 1 = .ok (.istore_n 1, 1) := by decide +kernel
theorem dX6_dealMany_2 : decode cX6_dealMany 2 = .ok (.iconst 0, 1) := by decide +kernel
theorem dX6_dealMany_3 : decode cX6_dealMany 3 = .ok (.istore_n 2, 1) := by decide +kernel
theorem dX6_dealMany_4 : decode cX6_dealMany 4 = .ok (.iload_n 2, 1) := by decide +kernel
theorem dX6_dealMany_5 : decode cX6_dealMany 5 = .ok (.aload_n 0, 1) := by decide +kernel
theorem dX6_dealMany_6 : decode cX6_dealMany 6 = .ok (.getfield 147, 3) := by decide +kernel
theorem dX6_dealMany_9 : decode cX6_dealMany 9 = .ok (.if_icmp .ge 25, 3) := by decide +kernel
theorem dX6_dealMany_12 : decode cX6_dealMany 12 = .ok (.iload_n 1, 1) := by decide +kernel
theorem dX6_dealMany_13 : decode cX6_dealMany 13 = .ok (.aload_n 0, 1) := by decide +kernel
theorem dX6_dealMany_14 : decode cX6_dealMany 14 = .ok (.iload_n 2, 1) := by decide +kernel
theorem dX6_dealMany_15 : decode cX6_dealMany 15 = .ok (.invokevirtual 226, 3) := by decide +kernel
theorem dX6_dealMany_18 : decode cX6_dealMany 18 = .ok (.ifCond .eq 7, 3) := by decide +kernel
theorem dX6_dealMany_21 : decode cX6_dealMany 21 = .ok (.iconst 1, 1) := by decide +kernel
theorem dX6_dealMany_22 : decode cX6_dealMany 22 = .ok (.goto 4, 3) := by decide +kernel
theorem dX6_dealMany_25 : decode cX6_dealMany 25 = .ok (.iconst 4, 1) := by decide +kernel
theorem dX6_dealMany_26 : decode cX6_dealMany 26 = .ok (.imul, 1) := by decide +kernel
theorem dX6_dealMany_27 : decode cX6_dealMany 27 = .ok (.istore_n 1, 1) := by decide +kernel
theorem dX6_dealMany_28 : decode cX6_dealMany 28 = .ok (.iinc 2 1, 3) := by decide +kernel
theorem dX6_dealMany_31 : decode cX6_dealMany 31 = .ok (.goto (-27), 3) := by decide +kernel
theorem dX6_dealMany_34 : decode cX6_dealMany 34 = .ok (.iload_n 1, 1) := by decide +kernel
theorem dX6_dealMany_35 : decode cX6_dealMany 35 = .ok (.ireturn, 1) := by decide +kernel
theorem dX6_firstOf_0 : decode cX6_firstOf 0 = .ok (.iconst 0, 1) := by decide +kernel
theorem dX6_firstOf_1 : decode cX6_firstOf 1 = .ok (.istore_n 2, 1) := by decide +kernel
theorem dX6_firstOf_2 : decode cX6_firstOf 2 = .ok (.iload_n 1, 1) := by decide +kernel
theorem dX6_firstOf_3 : decode cX6_firstOf 3 = .ok (.iload_n 2, 1) := by decide +kernel
theorem dX6_firstOf_4 : decode cX6_firstOf 4 = .ok (.invokestatic 123, 3) := by decide +kernel
theorem dX6_firstOf_7 : decode cX6_firstOf 7 = .ok (.ifCond .ne 9, 3) := by decide +kernel
theorem dX6_firstOf_10 : decode cX6_firstOf 10 = .ok (.iinc 2 1, 3) := by decide +kernel
theorem dX6_firstOf_13 : decode cX6_firstOf 13 = .ok (.goto (-11), 3) := by decide +kernel
theorem dX6_firstOf_16 : decode cX6_firstOf 16 = .ok (.iload_n 2, 1) := by decide +kernel
theorem dX6_firstOf_17 : decode cX6_firstOf 17 = .ok (.ireturn, 1) := by decide +kernel
theorem dX6_deals_0 : decode cX6_deals 0 = .ok (.iload_n 1, 1) := by decide +kernel
theorem dX6_deals_1 : decode cX6_deals 1 = .ok (.istore_n 2, 1) := by decide +kernel
theorem dX6_deals_2 : decode cX6_deals 2 = .ok (.iconst 0, 1) := by decide +kernel
theorem dX6_deals_3 : decode cX6_deals 3 = .ok (.istore_n 3, 1) := by decide +kernel
theorem dX6_deals_4 : decode cX6_deals 4 = .ok (.iload_n 3, 1) := by decide +kernel
theorem dX6_deals_5 : decode cX6_deals 5 = .ok (.bipush 14, 2) := by decide +kernel
theorem dX6_deals_7 : decode cX6_deals 7 = .ok (.if_icmp .ge 21, 3) := by decide +kernel
theorem dX6_deals_10 : decode cX6_deals 10 = .ok (.aload_n 0, 1) := by decide +kernel
theorem dX6_deals_11 : decode cX6_deals 11 = .ok (.getfield 51, 3) := by decide +kernel
theorem dX6_deals_14 : decode cX6_deals 14 = .ok (.iload_n 3, 1) := by decide +kernel
theorem dX6_deals_15 : decode cX6_deals 15 = .ok (.aload_n 0, 1) := by decide +kernel
theorem dX6_deals_16 : decode cX6_deals 16 = .ok (.getfield 48, 3) := by decide +kernel
theorem dX6_deals_19 : decode cX6_deals 19 = .ok (.iload_n 3, 1) := by decide +kernel
theorem dX6_deals_20 : decode cX6_deals 20 = .ok (.iaload, 1) := by decide +kernel
theorem dX6_deals_21 : decode cX6_deals 21 = .ok (.iastore, 1) := by decide +kernel
theorem dX6_deals_22 : decode cX6_deals 22 = .ok (.iinc 3 1, 3) := by decide +kernel
theorem dX6_deals_25 : decode cX6_deals 25 = .ok (.goto (-21), 3) := by decide +kernel
theorem dX6_deals_28 : decode cX6_deals 28 = .ok (.iconst 0, 1) := by decide +kernel
theorem dX6_deals_29 : decode cX6_deals 29 = .ok (.istore_n 3, 1) := by decide +kernel
theorem dX6_deals_30 : decode cX6_deals 30 = .ok (.iload_n 3, 1) := by decide +kernel
theorem dX6_deals_31 : decode cX6_deals 31 = .ok (.aload_n 0, 1) := by decide +kernel
theorem dX6_deals_32 : decode cX6_deals 32 = .ok (.getfield 147, 3) := by decide +kernel
theorem dX6_deals_35 : decode cX6_deals 35 = .ok (.if_icmp .ge 54, 3) := by decide +kernel
theorem dX6_deals_38 : decode cX6_deals 38 = .ok (.aload_n 0, 1) := by decide +kernel
theorem dX6_deals_39 : decode cX6_deals 39 = .ok (.iload_n 3, 1) := by decide +kernel
theorem dX6_deals_40 : decode cX6_deals 40 = .ok (.invokevirtual 226, 3) := by decide +kernel
theorem dX6_deals_43 : decode cX6_deals 43 = .ok (.ifCond .eq 27, 3) := by decide +kernel
theorem dX6_deals_46 : decode cX6_deals 46 = .ok (.aload_n 0, 1) := by decide +kernel
theorem dX6_deals_47 : decode cX6_deals 47 = .ok (.getfield 51, 3) := by decide +kernel
theorem dX6_deals_50 : decode cX6_deals 50 = .ok (.iload_n 3, 1) := by decide +kernel
theorem dX6_deals_51 : decode cX6_deals 51 = .ok (.aload_n 0, 1) := by decide +kernel
theorem dX6_deals_52 : decode cX6_deals 52 = .ok (.getfield 51, 3) := by decide +kernel
theorem dX6_deals_55 : decode cX6_deals 55 = .ok (.aload_n 0, 1) := by decide +kernel
theorem dX6_deals_56 : decode cX6_deals 56 = .ok (.aload_n 0, 1) := by decide +kernel
theorem dX6_deals_57 : decode cX6_deals 57 = .ok (.getfield 36, 3) := by decide +kernel
theorem dX6_deals_60 : decode cX6_deals 60 = .ok (.iload_n 3, 1) := by decide +kernel
theorem dX6_deals_61 : decode cX6_deals 61 = .ok (.iaload, 1) := by decide +kernel
theorem dX6_deals_62 : decode cX6_deals 62 = .ok (.invokevirtual 229, 3) := by decide +kernel
theorem dX6_deals_65 : decode cX6_deals 65 = .ok (.iaload, 1) := by decide +kernel
theorem dX6_deals_66 : decode cX6_deals 66 = .ok (.iastore, 1) := by decide +kernel
theorem dX6_deals_67 : decode cX6_deals 67 = .ok (.goto 16, 3) := by decide +kernel
theorem dX6_deals_70 : decode cX6_deals 70 = .ok (.aload_n 0, 1) := by decide +kernel
theorem dX6_deals_71 : decode cX6_deals 71 = .ok (.getfield 51, 3) := by decide +kernel
theorem dX6_deals_74 : decode cX6_deals 74 = .ok (.iload_n 3, 1) := by decide +kernel
theorem dX6_deals_75 : decode cX6_deals 75 = .ok (.iload_n 2, 1) := by decide +kernel
theorem dX6_deals_76 : decode cX6_deals 76 = .ok (.iconst 4, 1) := by decide +kernel
theorem dX6_deals_77 : decode cX6_deals 77 = .ok (.irem, 1) := by decide +kernel
theorem dX6_deals_78 : decode cX6_deals 78 = .ok (.iastore, 1) := by decide +kernel
theorem dX6_deals_79 : decode cX6_deals 79 = .ok (.iload_n 2, 1) := by decide +kernel
theorem dX6_deals_80 : decode cX6_deals 80 = .ok (.iconst 4, 1) := by decide +kernel
theorem dX6_deals_81 : decode cX6_deals 81 = .ok (.idiv, 1) := by decide +kernel
theorem dX6_deals_82 : decode cX6_deals 82 = .ok (.istore_n 2, 1) := by decide +kernel
theorem dX6_deals_83 : decode cX6_deals 83 = .ok (.iinc 3 1, 3) := by decide +kernel
theorem dX6_deals_86 : decode cX6_deals 86 = .ok (.goto (-56), 3) := by decide +kernel
theorem dX6_deals_89 : decode cX6_deals 89 = .ok (.return_, 1) := by decide +kernel
theorem dX6_layDeals_0 : decode cX6_layDeals 0 = .ok (.iconst 0, 1) := by decide +kernel
theorem dX6_layDeals_1 : decode cX6_layDeals 1 = .ok (.istore_n 1, 1) := by decide +kernel
theorem dX6_layDeals_2 : decode cX6_layDeals 2 = .ok (.iload_n 1, 1) := by decide +kernel
theorem dX6_layDeals_3 : decode cX6_layDeals 3 = .ok (.aload_n 0, 1) := by decide +kernel
theorem dX6_layDeals_4 : decode cX6_layDeals 4 = .ok (.invokevirtual 232, 3) := by decide +kernel
theorem dX6_layDeals_7 : decode cX6_layDeals 7 = .ok (.if_icmp .ge 55, 3) := by decide +kernel
theorem dX6_layDeals_10 : decode cX6_layDeals 10 = .ok (.aload_n 0, 1) := by decide +kernel
theorem dX6_layDeals_11 : decode cX6_layDeals 11 = .ok (.iload_n 1, 1) := by decide +kernel
theorem dX6_layDeals_12 : decode cX6_layDeals 12 = .ok (.invokevirtual 235, 3) := by decide +kernel
theorem dX6_layDeals_15 : decode cX6_layDeals 15 = .ok (.aload_n 0, 1) := by decide +kernel
theorem dX6_layDeals_16 : decode cX6_layDeals 16 = .ok (.aload_n 0, 1) := by decide +kernel
theorem dX6_layDeals_17 : decode cX6_layDeals 17 = .ok (.getfield 51, 3) := by decide +kernel
theorem dX6_layDeals_20 : decode cX6_layDeals 20 = .ok (.invokevirtual 206, 3) := by decide +kernel
theorem dX6_layDeals_23 : decode cX6_layDeals 23 = .ok (.iconst 0, 1) := by decide +kernel
theorem dX6_layDeals_24 : decode cX6_layDeals 24 = .ok (.istore_n 2, 1) := by decide +kernel
theorem dX6_layDeals_25 : decode cX6_layDeals 25 = .ok (.iload_n 2, 1) := by decide +kernel
theorem dX6_layDeals_26 : decode cX6_layDeals 26 = .ok (.aload_n 0, 1) := by decide +kernel
theorem dX6_layDeals_27 : decode cX6_layDeals 27 = .ok (.getfield 147, 3) := by decide +kernel
theorem dX6_layDeals_30 : decode cX6_layDeals 30 = .ok (.if_icmp .ge 26, 3) := by decide +kernel
theorem dX6_layDeals_33 : decode cX6_layDeals 33 = .ok (.aload_n 0, 1) := by decide +kernel
theorem dX6_layDeals_34 : decode cX6_layDeals 34 = .ok (.getfield 76, 3) := by decide +kernel
theorem dX6_layDeals_37 : decode cX6_layDeals 37 = .ok (.bipush 6, 2) := by decide +kernel
theorem dX6_layDeals_39 : decode cX6_layDeals 39 = .ok (.iload_n 1, 1) := by decide +kernel
theorem dX6_layDeals_40 : decode cX6_layDeals 40 = .ok (.imul, 1) := by decide +kernel
theorem dX6_layDeals_41 : decode cX6_layDeals 41 = .ok (.iload_n 2, 1) := by decide +kernel
theorem dX6_layDeals_42 : decode cX6_layDeals 42 = .ok (.iadd, 1) := by decide +kernel
theorem dX6_layDeals_43 : decode cX6_layDeals 43 = .ok (.aload_n 0, 1) := by decide +kernel
theorem dX6_layDeals_44 : decode cX6_layDeals 44 = .ok (.getfield 54, 3) := by decide +kernel
theorem dX6_layDeals_47 : decode cX6_layDeals 47 = .ok (.iload_n 2, 1) := by decide +kernel
theorem dX6_layDeals_48 : decode cX6_layDeals 48 = .ok (.iaload, 1) := by decide +kernel
theorem dX6_layDeals_49 : decode cX6_layDeals 49 = .ok (.iastore, 1) := by decide +kernel
theorem dX6_layDeals_50 : decode cX6_layDeals 50 = .ok (.iinc 2 1, 3) := by decide +kernel
theorem dX6_layDeals_53 : decode cX6_layDeals 53 = .ok (.goto (-28), 3) := by decide +kernel
theorem dX6_layDeals_56 : decode cX6_layDeals 56 = .ok (.iinc 1 1, 3) := by decide +kernel
theorem dX6_layDeals_59 : decode cX6_layDeals 59 = .ok (.goto (-57), 3) := by decide +kernel
theorem dX6_layDeals_62 : decode cX6_layDeals 62 = .ok (.return_, 1) := by decide +kernel
theorem dX6_laySets_0 : decode cX6_laySets 0 = .ok (.iconst 0, 1) := by decide +kernel
theorem dX6_laySets_1 : decode cX6_laySets 1 = .ok (.istore_n 2, 1) := by decide +kernel
theorem dX6_laySets_2 : decode cX6_laySets 2 = .ok (.iload_n 2, 1) := by decide +kernel
theorem dX6_laySets_3 : decode cX6_laySets 3 = .ok (.aload_n 0, 1) := by decide +kernel
theorem dX6_laySets_4 : decode cX6_laySets 4 = .ok (.getfield 147, 3) := by decide +kernel
theorem dX6_laySets_7 : decode cX6_laySets 7 = .ok (.if_icmp .ge 33, 3) := by decide +kernel
theorem dX6_laySets_10 : decode cX6_laySets 10 = .ok (.aload_n 0, 1) := by decide +kernel
theorem dX6_laySets_11 : decode cX6_laySets 11 = .ok (.getfield 54, 3) := by decide +kernel
theorem dX6_laySets_14 : decode cX6_laySets 14 = .ok (.iload_n 2, 1) := by decide +kernel
theorem dX6_laySets_15 : decode cX6_laySets 15 = .ok (.aload_n 0, 1) := by decide +kernel
theorem dX6_laySets_16 : decode cX6_laySets 16 = .ok (.getfield 76, 3) := by decide +kernel
theorem dX6_laySets_19 : decode cX6_laySets 19 = .ok (.bipush 6, 2) := by decide +kernel
theorem dX6_laySets_21 : decode cX6_laySets 21 = .ok (.iload_n 1, 1) := by decide +kernel
theorem dX6_laySets_22 : decode cX6_laySets 22 = .ok (.imul, 1) := by decide +kernel
theorem dX6_laySets_23 : decode cX6_laySets 23 = .ok (.iload_n 2, 1) := by decide +kernel
theorem dX6_laySets_24 : decode cX6_laySets 24 = .ok (.iadd, 1) := by decide +kernel
theorem dX6_laySets_25 : decode cX6_laySets 25 = .ok (.iaload, 1) := by decide +kernel
theorem dX6_laySets_26 : decode cX6_laySets 26 = .ok (.aload_n 0, 1) := by decide +kernel
theorem dX6_laySets_27 : decode cX6_laySets 27 = .ok (.getfield 79, 3) := by decide +kernel
theorem dX6_laySets_30 : decode cX6_laySets 30 = .ok (.iload_n 2, 1) := by decide +kernel
theorem dX6_laySets_31 : decode cX6_laySets 31 = .ok (.iaload, 1) := by decide +kernel
theorem dX6_laySets_32 : decode cX6_laySets 32 = .ok (.ior, 1) := by decide +kernel
theorem dX6_laySets_33 : decode cX6_laySets 33 = .ok (.iastore, 1) := by decide +kernel
theorem dX6_laySets_34 : decode cX6_laySets 34 = .ok (.iinc 2 1, 3) := by decide +kernel
theorem dX6_laySets_37 : decode cX6_laySets 37 = .ok (.goto (-35), 3) := by decide +kernel
theorem dX6_laySets_40 : decode cX6_laySets 40 = .ok (.return_, 1) := by decide +kernel
theorem dX6_goesAlways_0 : decode cX6_goesAlways 0 = .ok (.iconst 0, 1) := by decide +kernel
theorem dX6_goesAlways_1 : decode cX6_goesAlways 1 = .ok (.istore_n 3, 1) := by decide +kernel
theorem dX6_goesAlways_2 : decode cX6_goesAlways 2 = .ok (.iload_n 3, 1) := by decide +kernel
theorem dX6_goesAlways_3 : decode cX6_goesAlways 3 = .ok (.aload_n 0, 1) := by decide +kernel
theorem dX6_goesAlways_4 : decode cX6_goesAlways 4 = .ok (.invokevirtual 232, 3) := by decide +kernel
theorem dX6_goesAlways_7 : decode cX6_goesAlways 7 = .ok (.if_icmp .ge 32, 3) := by decide +kernel
theorem dX6_goesAlways_10 : decode cX6_goesAlways 10 = .ok (.aload_n 0, 1) := by decide +kernel
theorem dX6_goesAlways_11 : decode cX6_goesAlways 11 = .ok (.iload_n 3, 1) := by decide +kernel
theorem dX6_goesAlways_12 : decode cX6_goesAlways 12 = .ok (.invokevirtual 239, 3) := by decide +kernel
theorem dX6_goesAlways_15 : decode cX6_goesAlways 15 = .ok (.aload_n 0, 1) := by decide +kernel
theorem dX6_goesAlways_16 : decode cX6_goesAlways 16 = .ok (.iload_n 1, 1) := by decide +kernel
theorem dX6_goesAlways_17 : decode cX6_goesAlways 17 = .ok (.aload_n 0, 1) := by decide +kernel
theorem dX6_goesAlways_18 : decode cX6_goesAlways 18 = .ok (.invokevirtual 217, 3) := by decide +kernel
theorem dX6_goesAlways_21 : decode cX6_goesAlways 21 = .ok (.invokevirtual 220, 3) := by decide +kernel
theorem dX6_goesAlways_24 : decode cX6_goesAlways 24 = .ok (.iload_n 2, 1) := by decide +kernel
theorem dX6_goesAlways_25 : decode cX6_goesAlways 25 = .ok (.invokestatic 123, 3) := by decide +kernel
theorem dX6_goesAlways_28 : decode cX6_goesAlways 28 = .ok (.ifCond .ne 5, 3) := by decide +kernel
theorem dX6_goesAlways_31 : decode cX6_goesAlways 31 = .ok (.iconst 0, 1) := by decide +kernel
theorem dX6_goesAlways_32 : decode cX6_goesAlways 32 = .ok (.ireturn, 1) := by decide +kernel
theorem dX6_goesAlways_33 : decode cX6_goesAlways 33 = .ok (.iinc 3 1, 3) := by decide +kernel
theorem dX6_goesAlways_36 : decode cX6_goesAlways 36 = .ok (.goto (-34), 3) := by decide +kernel
theorem dX6_goesAlways_39 : decode cX6_goesAlways 39 = .ok (.iconst 1, 1) := by decide +kernel
theorem dX6_goesAlways_40 : decode cX6_goesAlways 40 = .ok (.ireturn, 1) := by decide +kernel
theorem dX6_adds_0 : decode cX6_adds 0 = .ok (.iload_n 1, 1) := by decide +kernel
theorem dX6_adds_1 : decode cX6_adds 1 = .ok (.bipush (-9), 2) := by decide +kernel
theorem dX6_adds_3 : decode cX6_adds 3 = .ok (.if_icmp .eq 39, 3) := by decide +kernel
theorem dX6_adds_6 : decode cX6_adds 6 = .ok (.aload_n 0, 1) := by decide +kernel
theorem dX6_adds_7 : decode cX6_adds 7 = .ok (.getfield 79, 3) := by decide +kernel
theorem dX6_adds_10 : decode cX6_adds 10 = .ok (.iload_n 1, 1) := by decide +kernel
theorem dX6_adds_11 : decode cX6_adds 11 = .ok (.bipush 6, 2) := by decide +kernel
theorem dX6_adds_13 : decode cX6_adds 13 = .ok (.idiv, 1) := by decide +kernel
theorem dX6_adds_14 : decode cX6_adds 14 = .ok (.dup2, 1) := by decide +kernel
theorem dX6_adds_15 : decode cX6_adds 15 = .ok (.iaload, 1) := by decide +kernel
theorem dX6_adds_16 : decode cX6_adds 16 = .ok (.iconst 1, 1) := by decide +kernel
theorem dX6_adds_17 : decode cX6_adds 17 = .ok (.iload_n 1, 1) := by decide +kernel
theorem dX6_adds_18 : decode cX6_adds 18 = .ok (.bipush 6, 2) := by decide +kernel
theorem dX6_adds_20 : decode cX6_adds 20 = .ok (.irem, 1) := by decide +kernel
theorem dX6_adds_21 : decode cX6_adds 21 = .ok (.ishl, 1) := by decide +kernel
theorem dX6_adds_22 : decode cX6_adds 22 = .ok (.ior, 1) := by decide +kernel
theorem dX6_adds_23 : decode cX6_adds 23 = .ok (.iastore, 1) := by decide +kernel
theorem dX6_adds_24 : decode cX6_adds 24 = .ok (.aload_n 0, 1) := by decide +kernel
theorem dX6_adds_25 : decode cX6_adds 25 = .ok (.getfield 79, 3) := by decide +kernel
theorem dX6_adds_28 : decode cX6_adds 28 = .ok (.iload_n 1, 1) := by decide +kernel
theorem dX6_adds_29 : decode cX6_adds 29 = .ok (.bipush 6, 2) := by decide +kernel
theorem dX6_adds_31 : decode cX6_adds 31 = .ok (.irem, 1) := by decide +kernel
theorem dX6_adds_32 : decode cX6_adds 32 = .ok (.dup2, 1) := by decide +kernel
theorem dX6_adds_33 : decode cX6_adds 33 = .ok (.iaload, 1) := by decide +kernel
theorem dX6_adds_34 : decode cX6_adds 34 = .ok (.iconst 1, 1) := by decide +kernel
theorem dX6_adds_35 : decode cX6_adds 35 = .ok (.iload_n 1, 1) := by decide +kernel
theorem dX6_adds_36 : decode cX6_adds 36 = .ok (.bipush 6, 2) := by decide +kernel
theorem dX6_adds_38 : decode cX6_adds 38 = .ok (.idiv, 1) := by decide +kernel
theorem dX6_adds_39 : decode cX6_adds 39 = .ok (.ishl, 1) := by decide +kernel
theorem dX6_adds_40 : decode cX6_adds 40 = .ok (.ior, 1) := by decide +kernel
theorem dX6_adds_41 : decode cX6_adds 41 = .ok (.iastore, 1) := by decide +kernel
theorem dX6_adds_42 : decode cX6_adds 42 = .ok (.return_, 1) := by decide +kernel
theorem dX6_noSigns_0 : decode cX6_noSigns 0 = .ok (.iconst 0, 1) := by decide +kernel
theorem dX6_noSigns_1 : decode cX6_noSigns 1 = .ok (.istore_n 1, 1) := by decide +kernel
theorem dX6_noSigns_2 : decode cX6_noSigns 2 = .ok (.iload_n 1, 1) := by decide +kernel
theorem dX6_noSigns_3 : decode cX6_noSigns 3 = .ok (.bipush 6, 2) := by decide +kernel
theorem dX6_noSigns_5 : decode cX6_noSigns 5 = .ok (.if_icmp .ge 16, 3) := by decide +kernel
theorem dX6_noSigns_8 : decode cX6_noSigns 8 = .ok (.aload_n 0, 1) := by decide +kernel
theorem dX6_noSigns_9 : decode cX6_noSigns 9 = .ok (.getfield 79, 3) := by decide +kernel
theorem dX6_noSigns_12 : decode cX6_noSigns 12 = .ok (.iload_n 1, 1) := by decide +kernel
theorem dX6_noSigns_13 : decode cX6_noSigns 13 = .ok (.iconst 0, 1) := by decide +kernel
theorem dX6_noSigns_14 : decode cX6_noSigns 14 = .ok (.iastore, 1) := by decide +kernel
theorem dX6_noSigns_15 : decode cX6_noSigns 15 = .ok (.iinc 1 1, 3) := by decide +kernel
theorem dX6_noSigns_18 : decode cX6_noSigns 18 = .ok (.goto (-16), 3) := by decide +kernel
theorem dX6_noSigns_21 : decode cX6_noSigns 21 = .ok (.return_, 1) := by decide +kernel
theorem dX6_isMore_0 : decode cX6_isMore 0 = .ok (.iload_n 1, 1) := by decide +kernel
theorem dX6_isMore_1 : decode cX6_isMore 1 = .ok (.bipush 6, 2) := by decide +kernel
theorem dX6_isMore_3 : decode cX6_isMore 3 = .ok (.idiv, 1) := by decide +kernel
theorem dX6_isMore_4 : decode cX6_isMore 4 = .ok (.istore 4, 2) := by decide +kernel
theorem dX6_isMore_6 : decode cX6_isMore 6 = .ok (.iload_n 1, 1) := by decide +kernel
theorem dX6_isMore_7 : decode cX6_isMore 7 = .ok (.bipush 6, 2) := by decide +kernel
theorem dX6_isMore_9 : decode cX6_isMore 9 = .ok (.irem, 1) := by decide +kernel
theorem dX6_isMore_10 : decode cX6_isMore 10 = .ok (.istore 5, 2) := by decide +kernel
theorem dX6_isMore_12 : decode cX6_isMore 12 = .ok (.iload 4, 2) := by decide +kernel
theorem dX6_isMore_14 : decode cX6_isMore 14 = .ok (.iload 5, 2) := by decide +kernel
theorem dX6_isMore_16 : decode cX6_isMore 16 = .ok (.if_icmp .ge 40, 3) := by decide +kernel
theorem dX6_isMore_19 : decode cX6_isMore 19 = .ok (.iload 5, 2) := by decide +kernel
theorem dX6_isMore_21 : decode cX6_isMore 21 = .ok (.aload_n 0, 1) := by decide +kernel
theorem dX6_isMore_22 : decode cX6_isMore 22 = .ok (.getfield 147, 3) := by decide +kernel
theorem dX6_isMore_25 : decode cX6_isMore 25 = .ok (.if_icmp .ge 31, 3) := by decide +kernel
theorem dX6_isMore_28 : decode cX6_isMore 28 = .ok (.iload 4, 2) := by decide +kernel
theorem dX6_isMore_30 : decode cX6_isMore 30 = .ok (.iload_n 2, 1) := by decide +kernel
theorem dX6_isMore_31 : decode cX6_isMore 31 = .ok (.if_icmp .ne 9, 3) := by decide +kernel
theorem dX6_isMore_34 : decode cX6_isMore 34 = .ok (.iload 5, 2) := by decide +kernel
theorem dX6_isMore_36 : decode cX6_isMore 36 = .ok (.iload_n 3, 1) := by decide +kernel
theorem dX6_isMore_37 : decode cX6_isMore 37 = .ok (.if_icmp .eq 19, 3) := by decide +kernel
theorem dX6_isMore_40 : decode cX6_isMore 40 = .ok (.iload 4, 2) := by decide +kernel
theorem dX6_isMore_42 : decode cX6_isMore 42 = .ok (.iload_n 3, 1) := by decide +kernel
theorem dX6_isMore_43 : decode cX6_isMore 43 = .ok (.if_icmp .ne 9, 3) := by decide +kernel
theorem dX6_isMore_46 : decode cX6_isMore 46 = .ok (.iload 5, 2) := by decide +kernel
theorem dX6_isMore_48 : decode cX6_isMore 48 = .ok (.iload_n 2, 1) := by decide +kernel
theorem dX6_isMore_49 : decode cX6_isMore 49 = .ok (.if_icmp .eq 7, 3) := by decide +kernel
theorem dX6_isMore_52 : decode cX6_isMore 52 = .ok (.iconst 1, 1) := by decide +kernel
theorem dX6_isMore_53 : decode cX6_isMore 53 = .ok (.goto 4, 3) := by decide +kernel
theorem dX6_isMore_56 : decode cX6_isMore 56 = .ok (.iconst 0, 1) := by decide +kernel
theorem dX6_isMore_57 : decode cX6_isMore 57 = .ok (.ireturn, 1) := by decide +kernel
theorem dX6_goesWith_0 : decode cX6_goesWith 0 = .ok (.aload_n 0, 1) := by decide +kernel
theorem dX6_goesWith_1 : decode cX6_goesWith 1 = .ok (.invokevirtual 242, 3) := by decide +kernel
theorem dX6_goesWith_4 : decode cX6_goesWith 4 = .ok (.aload_n 0, 1) := by decide +kernel
theorem dX6_goesWith_5 : decode cX6_goesWith 5 = .ok (.iload_n 1, 1) := by decide +kernel
theorem dX6_goesWith_6 : decode cX6_goesWith 6 = .ok (.invokevirtual 245, 3) := by decide +kernel
theorem dX6_goesWith_9 : decode cX6_goesWith 9 = .ok (.aload_n 0, 1) := by decide +kernel
theorem dX6_goesWith_10 : decode cX6_goesWith 10 = .ok (.iload_n 2, 1) := by decide +kernel
theorem dX6_goesWith_11 : decode cX6_goesWith 11 = .ok (.invokevirtual 245, 3) := by decide +kernel
theorem dX6_goesWith_14 : decode cX6_goesWith 14 = .ok (.aload_n 0, 1) := by decide +kernel
theorem dX6_goesWith_15 : decode cX6_goesWith 15 = .ok (.iload_n 3, 1) := by decide +kernel
theorem dX6_goesWith_16 : decode cX6_goesWith 16 = .ok (.iload 4, 2) := by decide +kernel
theorem dX6_goesWith_18 : decode cX6_goesWith 18 = .ok (.invokevirtual 248, 3) := by decide +kernel
theorem dX6_goesWith_21 : decode cX6_goesWith 21 = .ok (.ireturn, 1) := by decide +kernel
theorem dX6_leastSigns_0 : decode cX6_leastSigns 0 = .ok (.aload_n 0, 1) := by decide +kernel
theorem dX6_leastSigns_1 : decode cX6_leastSigns 1 = .ok (.bipush (-9), 2) := by decide +kernel
theorem dX6_leastSigns_3 : decode cX6_leastSigns 3 = .ok (.bipush (-9), 2) := by decide +kernel
theorem dX6_leastSigns_5 : decode cX6_leastSigns 5 = .ok (.iload_n 1, 1) := by decide +kernel
theorem dX6_leastSigns_6 : decode cX6_leastSigns 6 = .ok (.iload_n 2, 1) := by decide +kernel
theorem dX6_leastSigns_7 : decode cX6_leastSigns 7 = .ok (.invokevirtual 251, 3) := by decide +kernel
theorem dX6_leastSigns_10 : decode cX6_leastSigns 10 = .ok (.ifCond .eq 5, 3) := by decide +kernel
theorem dX6_leastSigns_13 : decode cX6_leastSigns 13 = .ok (.iconst 0, 1) := by decide +kernel
theorem dX6_leastSigns_14 : decode cX6_leastSigns 14 = .ok (.ireturn, 1) := by decide +kernel
theorem dX6_leastSigns_15 : decode cX6_leastSigns 15 = .ok (.iconst 0, 1) := by decide +kernel
theorem dX6_leastSigns_16 : decode cX6_leastSigns 16 = .ok (.istore_n 3, 1) := by decide +kernel
theorem dX6_leastSigns_17 : decode cX6_leastSigns 17 = .ok (.iload_n 3, 1) := by decide +kernel
theorem dX6_leastSigns_18 : decode cX6_leastSigns 18 = .ok (.bipush 36, 2) := by decide +kernel
theorem dX6_leastSigns_20 : decode cX6_leastSigns 20 = .ok (.if_icmp .ge 33, 3) := by decide +kernel
theorem dX6_leastSigns_23 : decode cX6_leastSigns 23 = .ok (.aload_n 0, 1) := by decide +kernel
theorem dX6_leastSigns_24 : decode cX6_leastSigns 24 = .ok (.iload_n 3, 1) := by decide +kernel
theorem dX6_leastSigns_25 : decode cX6_leastSigns 25 = .ok (.iload_n 1, 1) := by decide +kernel
theorem dX6_leastSigns_26 : decode cX6_leastSigns 26 = .ok (.iload_n 2, 1) := by decide +kernel
theorem dX6_leastSigns_27 : decode cX6_leastSigns 27 = .ok (.invokevirtual 255, 3) := by decide +kernel
theorem dX6_leastSigns_30 : decode cX6_leastSigns 30 = .ok (.ifCond .eq 17, 3) := by decide +kernel
theorem dX6_leastSigns_33 : decode cX6_leastSigns 33 = .ok (.aload_n 0, 1) := by decide +kernel
theorem dX6_leastSigns_34 : decode cX6_leastSigns 34 = .ok (.iload_n 3, 1) := by decide +kernel
theorem dX6_leastSigns_35 : decode cX6_leastSigns 35 = .ok (.bipush (-9), 2) := by decide +kernel
theorem dX6_leastSigns_37 : decode cX6_leastSigns 37 = .ok (.iload_n 1, 1) := by decide +kernel
theorem dX6_leastSigns_38 : decode cX6_leastSigns 38 = .ok (.iload_n 2, 1) := by decide +kernel
theorem dX6_leastSigns_39 : decode cX6_leastSigns 39 = .ok (.invokevirtual 251, 3) := by decide +kernel
theorem dX6_leastSigns_42 : decode cX6_leastSigns 42 = .ok (.ifCond .eq 5, 3) := by decide +kernel
theorem dX6_leastSigns_45 : decode cX6_leastSigns 45 = .ok (.iconst 1, 1) := by decide +kernel
theorem dX6_leastSigns_46 : decode cX6_leastSigns 46 = .ok (.ireturn, 1) := by decide +kernel
theorem dX6_leastSigns_47 : decode cX6_leastSigns 47 = .ok (.iinc 3 1, 3) := by decide +kernel
theorem dX6_leastSigns_50 : decode cX6_leastSigns 50 = .ok (.goto (-33), 3) := by decide +kernel
theorem dX6_leastSigns_53 : decode cX6_leastSigns 53 = .ok (.iconst 0, 1) := by decide +kernel
theorem dX6_leastSigns_54 : decode cX6_leastSigns 54 = .ok (.istore_n 3, 1) := by decide +kernel
theorem dX6_leastSigns_55 : decode cX6_leastSigns 55 = .ok (.iload_n 3, 1) := by decide +kernel
theorem dX6_leastSigns_56 : decode cX6_leastSigns 56 = .ok (.bipush 36, 2) := by decide +kernel
theorem dX6_leastSigns_58 : decode cX6_leastSigns 58 = .ok (.if_icmp .ge 62, 3) := by decide +kernel
theorem dX6_leastSigns_61 : decode cX6_leastSigns 61 = .ok (.iload_n 3, 1) := by decide +kernel
theorem dX6_leastSigns_62 : decode cX6_leastSigns 62 = .ok (.iconst 1, 1) := by decide +kernel
theorem dX6_leastSigns_63 : decode cX6_leastSigns 63 = .ok (.iadd, 1) := by decide +kernel
theorem dX6_leastSigns_64 : decode cX6_leastSigns 64 = .ok (.istore 4, 2) := by decide +kernel
theorem dX6_leastSigns_66 : decode cX6_leastSigns 66 = .ok (.iload 4, 2) := by decide +kernel
theorem dX6_leastSigns_68 : decode cX6_leastSigns 68 = .ok (.bipush 36, 2) := by decide +kernel
theorem dX6_leastSigns_70 : decode cX6_leastSigns 70 = .ok (.if_icmp .ge 44, 3) := by decide +kernel
theorem dX6_leastSigns_73 : decode cX6_leastSigns 73 = .ok (.aload_n 0, 1) := by decide +kernel
theorem dX6_leastSigns_74 : decode cX6_leastSigns 74 = .ok (.iload_n 3, 1) := by decide +kernel
theorem dX6_leastSigns_75 : decode cX6_leastSigns 75 = .ok (.iload_n 1, 1) := by decide +kernel
theorem dX6_leastSigns_76 : decode cX6_leastSigns 76 = .ok (.iload_n 2, 1) := by decide +kernel
theorem dX6_leastSigns_77 : decode cX6_leastSigns 77 = .ok (.invokevirtual 255, 3) := by decide +kernel
theorem dX6_leastSigns_80 : decode cX6_leastSigns 80 = .ok (.ifCond .eq 28, 3) := by decide +kernel
theorem dX6_leastSigns_83 : decode cX6_leastSigns 83 = .ok (.aload_n 0, 1) := by decide +kernel
theorem dX6_leastSigns_84 : decode cX6_leastSigns 84 = .ok (.iload 4, 2) := by decide +kernel
theorem dX6_leastSigns_86 : decode cX6_leastSigns 86 = .ok (.iload_n 1, 1) := by decide +kernel
theorem dX6_leastSigns_87 : decode cX6_leastSigns 87 = .ok (.iload_n 2, 1) := by decide +kernel
theorem dX6_leastSigns_88 : decode cX6_leastSigns 88 = .ok (.invokevirtual 255, 3) := by decide +kernel
theorem dX6_leastSigns_91 : decode cX6_leastSigns 91 = .ok (.ifCond .eq 17, 3) := by decide +kernel
theorem dX6_leastSigns_94 : decode cX6_leastSigns 94 = .ok (.aload_n 0, 1) := by decide +kernel
theorem dX6_leastSigns_95 : decode cX6_leastSigns 95 = .ok (.iload_n 3, 1) := by decide +kernel
theorem dX6_leastSigns_96 : decode cX6_leastSigns 96 = .ok (.iload 4, 2) := by decide +kernel
theorem dX6_leastSigns_98 : decode cX6_leastSigns 98 = .ok (.iload_n 1, 1) := by decide +kernel
theorem dX6_leastSigns_99 : decode cX6_leastSigns 99 = .ok (.iload_n 2, 1) := by decide +kernel
theorem dX6_leastSigns_100 : decode cX6_leastSigns 100 = .ok (.invokevirtual 251, 3) := by decide +kernel
theorem dX6_leastSigns_103 : decode cX6_leastSigns 103 = .ok (.ifCond .eq 5, 3) := by decide +kernel
theorem dX6_leastSigns_106 : decode cX6_leastSigns 106 = .ok (.iconst 2, 1) := by decide +kernel
theorem dX6_leastSigns_107 : decode cX6_leastSigns 107 = .ok (.ireturn, 1) := by decide +kernel
theorem dX6_leastSigns_108 : decode cX6_leastSigns 108 = .ok (.iinc 4 1, 3) := by decide +kernel
theorem dX6_leastSigns_111 : decode cX6_leastSigns 111 = .ok (.goto (-45), 3) := by decide +kernel
theorem dX6_leastSigns_114 : decode cX6_leastSigns 114 = .ok (.iinc 3 1, 3) := by decide +kernel
theorem dX6_leastSigns_117 : decode cX6_leastSigns 117 = .ok (.goto (-62), 3) := by decide +kernel
theorem dX6_leastSigns_120 : decode cX6_leastSigns 120 = .ok (.bipush (-9), 2) := by decide +kernel
theorem dX6_leastSigns_122 : decode cX6_leastSigns 122 = .ok (.ireturn, 1) := by decide +kernel
theorem dX6_signs_0 : decode cX6_signs 0 = .ok (.aload_n 0, 1) := by decide +kernel
theorem dX6_signs_1 : decode cX6_signs 1 = .ok (.iload_n 1, 1) := by decide +kernel
theorem dX6_signs_2 : decode cX6_signs 2 = .ok (.iload_n 2, 1) := by decide +kernel
theorem dX6_signs_3 : decode cX6_signs 3 = .ok (.invokevirtual 199, 3) := by decide +kernel
theorem dX6_signs_6 : decode cX6_signs 6 = .ok (.ifCond .ne 5, 3) := by decide +kernel
theorem dX6_signs_9 : decode cX6_signs 9 = .ok (.iconst (-1), 1) := by decide +kernel
theorem dX6_signs_10 : decode cX6_signs 10 = .ok (.ireturn, 1) := by decide +kernel
theorem dX6_signs_11 : decode cX6_signs 11 = .ok (.aload_n 0, 1) := by decide +kernel
theorem dX6_signs_12 : decode cX6_signs 12 = .ok (.invokevirtual 258, 3) := by decide +kernel
theorem dX6_signs_15 : decode cX6_signs 15 = .ok (.aload_n 0, 1) := by decide +kernel
theorem dX6_signs_16 : decode cX6_signs 16 = .ok (.invokevirtual 242, 3) := by decide +kernel
theorem dX6_signs_19 : decode cX6_signs 19 = .ok (.iconst 0, 1) := by decide +kernel
theorem dX6_signs_20 : decode cX6_signs 20 = .ok (.istore_n 3, 1) := by decide +kernel
theorem dX6_signs_21 : decode cX6_signs 21 = .ok (.iconst 0, 1) := by decide +kernel
theorem dX6_signs_22 : decode cX6_signs 22 = .ok (.istore 4, 2) := by decide +kernel
theorem dX6_signs_24 : decode cX6_signs 24 = .ok (.iload 4, 2) := by decide +kernel
theorem dX6_signs_26 : decode cX6_signs 26 = .ok (.aload_n 0, 1) := by decide +kernel
theorem dX6_signs_27 : decode cX6_signs 27 = .ok (.getfield 147, 3) := by decide +kernel
theorem dX6_signs_30 : decode cX6_signs 30 = .ok (.if_icmp .ge 33, 3) := by decide +kernel
theorem dX6_signs_33 : decode cX6_signs 33 = .ok (.iload_n 3, 1) := by decide +kernel
theorem dX6_signs_34 : decode cX6_signs 34 = .ok (.iload 4, 2) := by decide +kernel
theorem dX6_signs_36 : decode cX6_signs 36 = .ok (.iload_n 1, 1) := by decide +kernel
theorem dX6_signs_37 : decode cX6_signs 37 = .ok (.if_icmp .eq 17, 3) := by decide +kernel
theorem dX6_signs_40 : decode cX6_signs 40 = .ok (.aload_n 0, 1) := by decide +kernel
theorem dX6_signs_41 : decode cX6_signs 41 = .ok (.iload_n 1, 1) := by decide +kernel
theorem dX6_signs_42 : decode cX6_signs 42 = .ok (.iload 4, 2) := by decide +kernel
theorem dX6_signs_44 : decode cX6_signs 44 = .ok (.invokevirtual 248, 3) := by decide +kernel
theorem dX6_signs_47 : decode cX6_signs 47 = .ok (.ifCond .eq 7, 3) := by decide +kernel
theorem dX6_signs_50 : decode cX6_signs 50 = .ok (.iconst 1, 1) := by decide +kernel
theorem dX6_signs_51 : decode cX6_signs 51 = .ok (.goto 4, 3) := by decide +kernel
theorem dX6_signs_54 : decode cX6_signs 54 = .ok (.iconst 0, 1) := by decide +kernel
theorem dX6_signs_55 : decode cX6_signs 55 = .ok (.iadd, 1) := by decide +kernel
theorem dX6_signs_56 : decode cX6_signs 56 = .ok (.istore_n 3, 1) := by decide +kernel
theorem dX6_signs_57 : decode cX6_signs 57 = .ok (.iinc 4 1, 3) := by decide +kernel
theorem dX6_signs_60 : decode cX6_signs 60 = .ok (.goto (-36), 3) := by decide +kernel
theorem dX6_signs_63 : decode cX6_signs 63 = .ok (.aload_n 0, 1) := by decide +kernel
theorem dX6_signs_64 : decode cX6_signs 64 = .ok (.iload_n 3, 1) := by decide +kernel
theorem dX6_signs_65 : decode cX6_signs 65 = .ok (.aload_n 0, 1) := by decide +kernel
theorem dX6_signs_66 : decode cX6_signs 66 = .ok (.iload_n 1, 1) := by decide +kernel
theorem dX6_signs_67 : decode cX6_signs 67 = .ok (.iload_n 2, 1) := by decide +kernel
theorem dX6_signs_68 : decode cX6_signs 68 = .ok (.invokevirtual 261, 3) := by decide +kernel
theorem dX6_signs_71 : decode cX6_signs 71 = .ok (.invokevirtual 108, 3) := by decide +kernel
theorem dX6_signs_74 : decode cX6_signs 74 = .ok (.ireturn, 1) := by decide +kernel
theorem dX6_odds_0 : decode cX6_odds 0 = .ok (.aload_n 0, 1) := by decide +kernel
theorem dX6_odds_1 : decode cX6_odds 1 = .ok (.iload_n 1, 1) := by decide +kernel
theorem dX6_odds_2 : decode cX6_odds 2 = .ok (.iload_n 2, 1) := by decide +kernel
theorem dX6_odds_3 : decode cX6_odds 3 = .ok (.invokevirtual 199, 3) := by decide +kernel
theorem dX6_odds_6 : decode cX6_odds 6 = .ok (.ifCond .eq 12, 3) := by decide +kernel
theorem dX6_odds_9 : decode cX6_odds 9 = .ok (.iload_n 3, 1) := by decide +kernel
theorem dX6_odds_10 : decode cX6_odds 10 = .ok (.iconst 0, 1) := by decide +kernel
theorem dX6_odds_11 : decode cX6_odds 11 = .ok (.iconst 4, 1) := by decide +kernel
theorem dX6_odds_12 : decode cX6_odds 12 = .ok (.invokestatic 86, 3) := by decide +kernel
theorem dX6_odds_15 : decode cX6_odds 15 = .ok (.ifCond .ne 5, 3) := by decide +kernel
theorem dX6_odds_18 : decode cX6_odds 18 = .ok (.iconst (-1), 1) := by decide +kernel
theorem dX6_odds_19 : decode cX6_odds 19 = .ok (.ireturn, 1) := by decide +kernel
theorem dX6_odds_20 : decode cX6_odds 20 = .ok (.iconst 0, 1) := by decide +kernel
theorem dX6_odds_21 : decode cX6_odds 21 = .ok (.istore 4, 2) := by decide +kernel
theorem dX6_odds_23 : decode cX6_odds 23 = .ok (.iconst 0, 1) := by decide +kernel
theorem dX6_odds_24 : decode cX6_odds 24 = .ok (.istore 5, 2) := by decide +kernel
theorem dX6_odds_26 : decode cX6_odds 26 = .ok (.iload 5, 2) := by decide +kernel
theorem dX6_odds_28 : decode cX6_odds 28 = .ok (.aload_n 0, 1) := by decide +kernel
theorem dX6_odds_29 : decode cX6_odds 29 = .ok (.invokevirtual 232, 3) := by decide +kernel
theorem dX6_odds_32 : decode cX6_odds 32 = .ok (.if_icmp .ge 56, 3) := by decide +kernel
theorem dX6_odds_35 : decode cX6_odds 35 = .ok (.aload_n 0, 1) := by decide +kernel
theorem dX6_odds_36 : decode cX6_odds 36 = .ok (.iload 5, 2) := by decide +kernel
theorem dX6_odds_38 : decode cX6_odds 38 = .ok (.invokevirtual 235, 3) := by decide +kernel
theorem dX6_odds_41 : decode cX6_odds 41 = .ok (.aload_n 0, 1) := by decide +kernel
theorem dX6_odds_42 : decode cX6_odds 42 = .ok (.aload_n 0, 1) := by decide +kernel
theorem dX6_odds_43 : decode cX6_odds 43 = .ok (.getfield 51, 3) := by decide +kernel
theorem dX6_odds_46 : decode cX6_odds 46 = .ok (.invokevirtual 206, 3) := by decide +kernel
theorem dX6_odds_49 : decode cX6_odds 49 = .ok (.aload_n 0, 1) := by decide +kernel
theorem dX6_odds_50 : decode cX6_odds 50 = .ok (.iload_n 1, 1) := by decide +kernel
theorem dX6_odds_51 : decode cX6_odds 51 = .ok (.iload_n 2, 1) := by decide +kernel
theorem dX6_odds_52 : decode cX6_odds 52 = .ok (.invokevirtual 210, 3) := by decide +kernel
theorem dX6_odds_55 : decode cX6_odds 55 = .ok (.istore 6, 2) := by decide +kernel
theorem dX6_odds_57 : decode cX6_odds 57 = .ok (.iload 4, 2) := by decide +kernel
theorem dX6_odds_59 : decode cX6_odds 59 = .ok (.iload 6, 2) := by decide +kernel
theorem dX6_odds_61 : decode cX6_odds 61 = .ok (.bipush (-9), 2) := by decide +kernel
theorem dX6_odds_63 : decode cX6_odds 63 = .ok (.if_icmp .eq 15, 3) := by decide +kernel
theorem dX6_odds_66 : decode cX6_odds 66 = .ok (.iload 6, 2) := by decide +kernel
theorem dX6_odds_68 : decode cX6_odds 68 = .ok (.iload_n 3, 1) := by decide +kernel
theorem dX6_odds_69 : decode cX6_odds 69 = .ok (.iconst 1, 1) := by decide +kernel
theorem dX6_odds_70 : decode cX6_odds 70 = .ok (.iadd, 1) := by decide +kernel
theorem dX6_odds_71 : decode cX6_odds 71 = .ok (.if_icmp .gt 7, 3) := by decide +kernel
theorem dX6_odds_74 : decode cX6_odds 74 = .ok (.iconst 1, 1) := by decide +kernel
theorem dX6_odds_75 : decode cX6_odds 75 = .ok (.goto 4, 3) := by decide +kernel
theorem dX6_odds_78 : decode cX6_odds 78 = .ok (.iconst 0, 1) := by decide +kernel
theorem dX6_odds_79 : decode cX6_odds 79 = .ok (.iadd, 1) := by decide +kernel
theorem dX6_odds_80 : decode cX6_odds 80 = .ok (.istore 4, 2) := by decide +kernel
theorem dX6_odds_82 : decode cX6_odds 82 = .ok (.iinc 5 1, 3) := by decide +kernel
theorem dX6_odds_85 : decode cX6_odds 85 = .ok (.goto (-59), 3) := by decide +kernel
theorem dX6_odds_88 : decode cX6_odds 88 = .ok (.aload_n 0, 1) := by decide +kernel
theorem dX6_odds_89 : decode cX6_odds 89 = .ok (.iload 4, 2) := by decide +kernel
theorem dX6_odds_91 : decode cX6_odds 91 = .ok (.aload_n 0, 1) := by decide +kernel
theorem dX6_odds_92 : decode cX6_odds 92 = .ok (.invokevirtual 232, 3) := by decide +kernel
theorem dX6_odds_95 : decode cX6_odds 95 = .ok (.invokevirtual 264, 3) := by decide +kernel
theorem dX6_odds_98 : decode cX6_odds 98 = .ok (.ireturn, 1) := by decide +kernel
theorem dX6_part_0 : decode cX6_part 0 = .ok (.aload_n 0, 1) := by decide +kernel
theorem dX6_part_1 : decode cX6_part 1 = .ok (.iload_n 1, 1) := by decide +kernel
theorem dX6_part_2 : decode cX6_part 2 = .ok (.iload_n 2, 1) := by decide +kernel
theorem dX6_part_3 : decode cX6_part 3 = .ok (.invokevirtual 199, 3) := by decide +kernel
theorem dX6_part_6 : decode cX6_part 6 = .ok (.ifCond .eq 21, 3) := by decide +kernel
theorem dX6_part_9 : decode cX6_part 9 = .ok (.aload_n 0, 1) := by decide +kernel
theorem dX6_part_10 : decode cX6_part 10 = .ok (.iload_n 3, 1) := by decide +kernel
theorem dX6_part_11 : decode cX6_part 11 = .ok (.invokevirtual 175, 3) := by decide +kernel
theorem dX6_part_14 : decode cX6_part 14 = .ok (.ifCond .eq 13, 3) := by decide +kernel
theorem dX6_part_17 : decode cX6_part 17 = .ok (.iload_n 3, 1) := by decide +kernel
theorem dX6_part_18 : decode cX6_part 18 = .ok (.iload_n 1, 1) := by decide +kernel
theorem dX6_part_19 : decode cX6_part 19 = .ok (.if_icmp .eq 8, 3) := by decide +kernel
theorem dX6_part_22 : decode cX6_part 22 = .ok (.iload_n 3, 1) := by decide +kernel
theorem dX6_part_23 : decode cX6_part 23 = .ok (.iload_n 2, 1) := by decide +kernel
theorem dX6_part_24 : decode cX6_part 24 = .ok (.if_icmp .ne 5, 3) := by decide +kernel
theorem dX6_part_27 : decode cX6_part 27 = .ok (.iconst (-1), 1) := by decide +kernel
theorem dX6_part_28 : decode cX6_part 28 = .ok (.ireturn, 1) := by decide +kernel
theorem dX6_part_29 : decode cX6_part 29 = .ok (.aload_n 0, 1) := by decide +kernel
theorem dX6_part_30 : decode cX6_part 30 = .ok (.aload_n 0, 1) := by decide +kernel
theorem dX6_part_31 : decode cX6_part 31 = .ok (.getfield 48, 3) := by decide +kernel
theorem dX6_part_34 : decode cX6_part 34 = .ok (.invokevirtual 206, 3) := by decide +kernel
theorem dX6_part_37 : decode cX6_part 37 = .ok (.aload_n 0, 1) := by decide +kernel
theorem dX6_part_38 : decode cX6_part 38 = .ok (.iload_n 1, 1) := by decide +kernel
theorem dX6_part_39 : decode cX6_part 39 = .ok (.iload_n 2, 1) := by decide +kernel
theorem dX6_part_40 : decode cX6_part 40 = .ok (.invokevirtual 210, 3) := by decide +kernel
theorem dX6_part_43 : decode cX6_part 43 = .ok (.bipush (-9), 2) := by decide +kernel
theorem dX6_part_45 : decode cX6_part 45 = .ok (.if_icmp .eq 13, 3) := by decide +kernel
theorem dX6_part_48 : decode cX6_part 48 = .ok (.aload_n 0, 1) := by decide +kernel
theorem dX6_part_49 : decode cX6_part 49 = .ok (.iload_n 1, 1) := by decide +kernel
theorem dX6_part_50 : decode cX6_part 50 = .ok (.iload_n 2, 1) := by decide +kernel
theorem dX6_part_51 : decode cX6_part 51 = .ok (.invokevirtual 210, 3) := by decide +kernel
theorem dX6_part_54 : decode cX6_part 54 = .ok (.iconst 1, 1) := by decide +kernel
theorem dX6_part_55 : decode cX6_part 55 = .ok (.if_icmp .ne 6, 3) := by decide +kernel
theorem dX6_part_58 : decode cX6_part 58 = .ok (.bipush (-4), 2) := by decide +kernel
theorem dX6_part_60 : decode cX6_part 60 = .ok (.ireturn, 1) := by decide +kernel
theorem dX6_part_61 : decode cX6_part 61 = .ok (.aload_n 0, 1) := by decide +kernel
theorem dX6_part_62 : decode cX6_part 62 = .ok (.iconst 0, 1) := by decide +kernel
theorem dX6_part_63 : decode cX6_part 63 = .ok (.putfield 267, 3) := by decide +kernel
theorem dX6_part_66 : decode cX6_part 66 = .ok (.aload_n 0, 1) := by decide +kernel
theorem dX6_part_67 : decode cX6_part 67 = .ok (.iconst 0, 1) := by decide +kernel
theorem dX6_part_68 : decode cX6_part 68 = .ok (.putfield 270, 3) := by decide +kernel
theorem dX6_part_71 : decode cX6_part 71 = .ok (.aload_n 0, 1) := by decide +kernel
theorem dX6_part_72 : decode cX6_part 72 = .ok (.invokevirtual 217, 3) := by decide +kernel
theorem dX6_part_75 : decode cX6_part 75 = .ok (.iconst 1, 1) := by decide +kernel
theorem dX6_part_76 : decode cX6_part 76 = .ok (.iload_n 1, 1) := by decide +kernel
theorem dX6_part_77 : decode cX6_part 77 = .ok (.ishl, 1) := by decide +kernel
theorem dX6_part_78 : decode cX6_part 78 = .ok (.iconst 1, 1) := by decide +kernel
theorem dX6_part_79 : decode cX6_part 79 = .ok (.iload_n 2, 1) := by decide +kernel
theorem dX6_part_80 : decode cX6_part 80 = .ok (.ishl, 1) := by decide +kernel
theorem dX6_part_81 : decode cX6_part 81 = .ok (.ior, 1) := by decide +kernel
theorem dX6_part_82 : decode cX6_part 82 = .ok (.iconst 1, 1) := by decide +kernel
theorem dX6_part_83 : decode cX6_part 83 = .ok (.iload_n 3, 1) := by decide +kernel
theorem dX6_part_84 : decode cX6_part 84 = .ok (.ishl, 1) := by decide +kernel
theorem dX6_part_85 : decode cX6_part 85 = .ok (.ior, 1) := by decide +kernel
theorem dX6_part_86 : decode cX6_part 86 = .ok (.iconst (-1), 1) := by decide +kernel
theorem dX6_part_87 : decode cX6_part 87 = .ok (.ixor, 1) := by decide +kernel
theorem dX6_part_88 : decode cX6_part 88 = .ok (.iand, 1) := by decide +kernel
theorem dX6_part_89 : decode cX6_part 89 = .ok (.istore 4, 2) := by decide +kernel
theorem dX6_part_91 : decode cX6_part 91 = .ok (.iconst 0, 1) := by decide +kernel
theorem dX6_part_92 : decode cX6_part 92 = .ok (.istore 5, 2) := by decide +kernel
theorem dX6_part_94 : decode cX6_part 94 = .ok (.iload 5, 2) := by decide +kernel
theorem dX6_part_96 : decode cX6_part 96 = .ok (.aload_n 0, 1) := by decide +kernel
theorem dX6_part_97 : decode cX6_part 97 = .ok (.invokevirtual 217, 3) := by decide +kernel
theorem dX6_part_100 : decode cX6_part 100 = .ok (.if_icmp .gt 114, 3) := by decide +kernel
theorem dX6_part_103 : decode cX6_part 103 = .ok (.iload 5, 2) := by decide +kernel
theorem dX6_part_105 : decode cX6_part 105 = .ok (.iload 4, 2) := by decide +kernel
theorem dX6_part_107 : decode cX6_part 107 = .ok (.iconst (-1), 1) := by decide +kernel
theorem dX6_part_108 : decode cX6_part 108 = .ok (.ixor, 1) := by decide +kernel
theorem dX6_part_109 : decode cX6_part 109 = .ok (.iand, 1) := by decide +kernel
theorem dX6_part_110 : decode cX6_part 110 = .ok (.ifCond .ne 98, 3) := by decide +kernel
theorem dX6_part_113 : decode cX6_part 113 = .ok (.iload 5, 2) := by decide +kernel
theorem dX6_part_115 : decode cX6_part 115 = .ok (.invokestatic 181, 3) := by decide +kernel
theorem dX6_part_118 : decode cX6_part 118 = .ok (.invokestatic 273, 3) := by decide +kernel
theorem dX6_part_121 : decode cX6_part 121 = .ok (.iload 4, 2) := by decide +kernel
theorem dX6_part_123 : decode cX6_part 123 = .ok (.invokestatic 181, 3) := by decide +kernel
theorem dX6_part_126 : decode cX6_part 126 = .ok (.iload 5, 2) := by decide +kernel
theorem dX6_part_128 : decode cX6_part 128 = .ok (.invokestatic 181, 3) := by decide +kernel
theorem dX6_part_131 : decode cX6_part 131 = .ok (.isub, 1) := by decide +kernel
theorem dX6_part_132 : decode cX6_part 132 = .ok (.invokestatic 273, 3) := by decide +kernel
theorem dX6_part_135 : decode cX6_part 135 = .ok (.imul, 1) := by decide +kernel
theorem dX6_part_136 : decode cX6_part 136 = .ok (.istore 6, 2) := by decide +kernel
theorem dX6_part_138 : decode cX6_part 138 = .ok (.aload_n 0, 1) := by decide +kernel
theorem dX6_part_139 : decode cX6_part 139 = .ok (.iload_n 1, 1) := by decide +kernel
theorem dX6_part_140 : decode cX6_part 140 = .ok (.iload 5, 2) := by decide +kernel
theorem dX6_part_142 : decode cX6_part 142 = .ok (.iconst 1, 1) := by decide +kernel
theorem dX6_part_143 : decode cX6_part 143 = .ok (.iload_n 3, 1) := by decide +kernel
theorem dX6_part_144 : decode cX6_part 144 = .ok (.ishl, 1) := by decide +kernel
theorem dX6_part_145 : decode cX6_part 145 = .ok (.ior, 1) := by decide +kernel
theorem dX6_part_146 : decode cX6_part 146 = .ok (.invokevirtual 220, 3) := by decide +kernel
theorem dX6_part_149 : decode cX6_part 149 = .ok (.iload_n 2, 1) := by decide +kernel
theorem dX6_part_150 : decode cX6_part 150 = .ok (.invokestatic 123, 3) := by decide +kernel
theorem dX6_part_153 : decode cX6_part 153 = .ok (.ifCond .eq 21, 3) := by decide +kernel
theorem dX6_part_156 : decode cX6_part 156 = .ok (.aload_n 0, 1) := by decide +kernel
theorem dX6_part_157 : decode cX6_part 157 = .ok (.iload_n 1, 1) := by decide +kernel
theorem dX6_part_158 : decode cX6_part 158 = .ok (.iload 5, 2) := by decide +kernel
theorem dX6_part_160 : decode cX6_part 160 = .ok (.invokevirtual 220, 3) := by decide +kernel
theorem dX6_part_163 : decode cX6_part 163 = .ok (.iload_n 2, 1) := by decide +kernel
theorem dX6_part_164 : decode cX6_part 164 = .ok (.invokestatic 123, 3) := by decide +kernel
theorem dX6_part_167 : decode cX6_part 167 = .ok (.ifCond .ne 7, 3) := by decide +kernel
theorem dX6_part_170 : decode cX6_part 170 = .ok (.iconst 1, 1) := by decide +kernel
theorem dX6_part_171 : decode cX6_part 171 = .ok (.goto 4, 3) := by decide +kernel
theorem dX6_part_174 : decode cX6_part 174 = .ok (.iconst 0, 1) := by decide +kernel
theorem dX6_part_175 : decode cX6_part 175 = .ok (.istore 7, 2) := by decide +kernel
theorem dX6_part_177 : decode cX6_part 177 = .ok (.aload_n 0, 1) := by decide +kernel
theorem dX6_part_178 : decode cX6_part 178 = .ok (.dup, 1) := by decide +kernel
theorem dX6_part_179 : decode cX6_part 179 = .ok (.getfield 270, 3) := by decide +kernel
theorem dX6_part_182 : decode cX6_part 182 = .ok (.iload 6, 2) := by decide +kernel
theorem dX6_part_184 : decode cX6_part 184 = .ok (.iadd, 1) := by decide +kernel
theorem dX6_part_185 : decode cX6_part 185 = .ok (.putfield 270, 3) := by decide +kernel
theorem dX6_part_188 : decode cX6_part 188 = .ok (.aload_n 0, 1) := by decide +kernel
theorem dX6_part_189 : decode cX6_part 189 = .ok (.dup, 1) := by decide +kernel
theorem dX6_part_190 : decode cX6_part 190 = .ok (.getfield 267, 3) := by decide +kernel
theorem dX6_part_193 : decode cX6_part 193 = .ok (.iload 7, 2) := by decide +kernel
theorem dX6_part_195 : decode cX6_part 195 = .ok (.ifCond .eq 8, 3) := by decide +kernel
theorem dX6_part_198 : decode cX6_part 198 = .ok (.iload 6, 2) := by decide +kernel
theorem dX6_part_200 : decode cX6_part 200 = .ok (.goto 4, 3) := by decide +kernel
theorem dX6_part_203 : decode cX6_part 203 = .ok (.iconst 0, 1) := by decide +kernel
theorem dX6_part_204 : decode cX6_part 204 = .ok (.iadd, 1) := by decide +kernel
theorem dX6_part_205 : decode cX6_part 205 = .ok (.putfield 267, 3) := by decide +kernel
theorem dX6_part_208 : decode cX6_part 208 = .ok (.iinc 5 1, 3) := by decide +kernel
theorem dX6_part_211 : decode cX6_part 211 = .ok (.goto (-117), 3) := by decide +kernel
theorem dX6_part_214 : decode cX6_part 214 = .ok (.aload_n 0, 1) := by decide +kernel
theorem dX6_part_215 : decode cX6_part 215 = .ok (.aload_n 0, 1) := by decide +kernel
theorem dX6_part_216 : decode cX6_part 216 = .ok (.getfield 267, 3) := by decide +kernel
theorem dX6_part_219 : decode cX6_part 219 = .ok (.aload_n 0, 1) := by decide +kernel
theorem dX6_part_220 : decode cX6_part 220 = .ok (.getfield 270, 3) := by decide +kernel
theorem dX6_part_223 : decode cX6_part 223 = .ok (.invokevirtual 264, 3) := by decide +kernel
theorem dX6_part_226 : decode cX6_part 226 = .ok (.ireturn, 1) := by decide +kernel
theorem dX6_times_0 : decode cX6_times 0 = .ok (.iconst 1, 1) := by decide +kernel
theorem dX6_times_1 : decode cX6_times 1 = .ok (.istore_n 1, 1) := by decide +kernel
theorem dX6_times_2 : decode cX6_times 2 = .ok (.iconst 2, 1) := by decide +kernel
theorem dX6_times_3 : decode cX6_times 3 = .ok (.istore_n 2, 1) := by decide +kernel
theorem dX6_times_4 : decode cX6_times 4 = .ok (.iload_n 2, 1) := by decide +kernel
theorem dX6_times_5 : decode cX6_times 5 = .ok (.iload_n 0, 1) := by decide +kernel
theorem dX6_times_6 : decode cX6_times 6 = .ok (.if_icmp .gt 13, 3) := by decide +kernel
theorem dX6_times_9 : decode cX6_times 9 = .ok (.iload_n 1, 1) := by decide +kernel
theorem dX6_times_10 : decode cX6_times 10 = .ok (.iload_n 2, 1) := by decide +kernel
theorem dX6_times_11 : decode cX6_times 11 = .ok (.imul, 1) := by decide +kernel
theorem dX6_times_12 : decode cX6_times 12 = .ok (.istore_n 1, 1) := by decide +kernel
theorem dX6_times_13 : decode cX6_times 13 = .ok (.iinc 2 1, 3) := by decide +kernel
theorem dX6_times_16 : decode cX6_times 16 = .ok (.goto (-12), 3) := by decide +kernel
theorem dX6_times_19 : decode cX6_times 19 = .ok (.iload_n 1, 1) := by decide +kernel
theorem dX6_times_20 : decode cX6_times 20 = .ok (.ireturn, 1) := by decide +kernel
theorem dX6_needMornings_0 : decode cX6_needMornings 0 = .ok (.iload_n 2, 1) := by decide +kernel
theorem dX6_needMornings_1 : decode cX6_needMornings 1 = .ok (.ifCond .eq 10, 3) := by decide +kernel
theorem dX6_needMornings_4 : decode cX6_needMornings 4 = .ok (.iload_n 1, 1) := by decide +kernel
theorem dX6_needMornings_5 : decode cX6_needMornings 5 = .ok (.invokestatic 96, 3) := by decide +kernel
theorem dX6_needMornings_8 : decode cX6_needMornings 8 = .ok (.ifCond .ne 5, 3) := by decide +kernel
theorem dX6_needMornings_11 : decode cX6_needMornings 11 = .ok (.iconst (-1), 1) := by decide +kernel
theorem dX6_needMornings_12 : decode cX6_needMornings 12 = .ok (.ireturn, 1) := by decide +kernel
theorem dX6_needMornings_13 : decode cX6_needMornings 13 = .ok (.aload_n 0, 1) := by decide +kernel
theorem dX6_needMornings_14 : decode cX6_needMornings 14 = .ok (.getfield 147, 3) := by decide +kernel
theorem dX6_needMornings_17 : decode cX6_needMornings 17 = .ok (.ifCond .ne 6, 3) := by decide +kernel
theorem dX6_needMornings_20 : decode cX6_needMornings 20 = .ok (.bipush (-4), 2) := by decide +kernel
theorem dX6_needMornings_22 : decode cX6_needMornings 22 = .ok (.ireturn, 1) := by decide +kernel
theorem dX6_needMornings_23 : decode cX6_needMornings 23 = .ok (.aload_n 0, 1) := by decide +kernel
theorem dX6_needMornings_24 : decode cX6_needMornings 24 = .ok (.getfield 17, 3) := by decide +kernel
theorem dX6_needMornings_27 : decode cX6_needMornings 27 = .ok (.iload_n 1, 1) := by decide +kernel
theorem dX6_needMornings_28 : decode cX6_needMornings 28 = .ok (.iaload, 1) := by decide +kernel
theorem dX6_needMornings_29 : decode cX6_needMornings 29 = .ok (.ifCond .ge 9, 3) := by decide +kernel
theorem dX6_needMornings_32 : decode cX6_needMornings 32 = .ok (.aload_n 0, 1) := by decide +kernel
theorem dX6_needMornings_33 : decode cX6_needMornings 33 = .ok (.iconst 1, 1) := by decide +kernel
theorem dX6_needMornings_34 : decode cX6_needMornings 34 = .ok (.invokevirtual 100, 3) := by decide +kernel
theorem dX6_needMornings_37 : decode cX6_needMornings 37 = .ok (.ireturn, 1) := by decide +kernel
theorem dX6_needMornings_38 : decode cX6_needMornings 38 = .ok (.aload_n 0, 1) := by decide +kernel
theorem dX6_needMornings_39 : decode cX6_needMornings 39 = .ok (.getfield 17, 3) := by decide +kernel
theorem dX6_needMornings_42 : decode cX6_needMornings 42 = .ok (.iload_n 1, 1) := by decide +kernel
theorem dX6_needMornings_43 : decode cX6_needMornings 43 = .ok (.iaload, 1) := by decide +kernel
theorem dX6_needMornings_44 : decode cX6_needMornings 44 = .ok (.aload_n 0, 1) := by decide +kernel
theorem dX6_needMornings_45 : decode cX6_needMornings 45 = .ok (.getfield 147, 3) := by decide +kernel
theorem dX6_needMornings_48 : decode cX6_needMornings 48 = .ok (.irem, 1) := by decide +kernel
theorem dX6_needMornings_49 : decode cX6_needMornings 49 = .ok (.ifCond .eq 9, 3) := by decide +kernel
theorem dX6_needMornings_52 : decode cX6_needMornings 52 = .ok (.aload_n 0, 1) := by decide +kernel
theorem dX6_needMornings_53 : decode cX6_needMornings 53 = .ok (.iconst 5, 1) := by decide +kernel
theorem dX6_needMornings_54 : decode cX6_needMornings 54 = .ok (.invokevirtual 100, 3) := by decide +kernel
theorem dX6_needMornings_57 : decode cX6_needMornings 57 = .ok (.ireturn, 1) := by decide +kernel
theorem dX6_needMornings_58 : decode cX6_needMornings 58 = .ok (.aload_n 0, 1) := by decide +kernel
theorem dX6_needMornings_59 : decode cX6_needMornings 59 = .ok (.iload_n 1, 1) := by decide +kernel
theorem dX6_needMornings_60 : decode cX6_needMornings 60 = .ok (.invokevirtual 190, 3) := by decide +kernel
theorem dX6_needMornings_63 : decode cX6_needMornings 63 = .ok (.ifCond .eq 7, 3) := by decide +kernel
theorem dX6_needMornings_66 : decode cX6_needMornings 66 = .ok (.iconst 0, 1) := by decide +kernel
theorem dX6_needMornings_67 : decode cX6_needMornings 67 = .ok (.goto 8, 3) := by decide +kernel
theorem dX6_needMornings_70 : decode cX6_needMornings 70 = .ok (.aload_n 0, 1) := by decide +kernel
theorem dX6_needMornings_71 : decode cX6_needMornings 71 = .ok (.iconst 3, 1) := by decide +kernel
theorem dX6_needMornings_72 : decode cX6_needMornings 72 = .ok (.invokevirtual 100, 3) := by decide +kernel
theorem dX6_needMornings_75 : decode cX6_needMornings 75 = .ok (.ireturn, 1) := by decide +kernel
theorem dX6_areAlike_0 : decode cX6_areAlike 0 = .ok (.iconst 1, 1) := by decide +kernel
theorem dX6_areAlike_1 : decode cX6_areAlike 1 = .ok (.istore 4, 2) := by decide +kernel
theorem dX6_areAlike_3 : decode cX6_areAlike 3 = .ok (.iconst 0, 1) := by decide +kernel
theorem dX6_areAlike_4 : decode cX6_areAlike 4 = .ok (.istore 5, 2) := by decide +kernel
theorem dX6_areAlike_6 : decode cX6_areAlike 6 = .ok (.iload 5, 2) := by decide +kernel
theorem dX6_areAlike_8 : decode cX6_areAlike 8 = .ok (.aload_n 0, 1) := by decide +kernel
theorem dX6_areAlike_9 : decode cX6_areAlike 9 = .ok (.getfield 17, 3) := by decide +kernel
theorem dX6_areAlike_12 : decode cX6_areAlike 12 = .ok (.iload_n 1, 1) := by decide +kernel
theorem dX6_areAlike_13 : decode cX6_areAlike 13 = .ok (.iaload, 1) := by decide +kernel
theorem dX6_areAlike_14 : decode cX6_areAlike 14 = .ok (.if_icmp .ge 48, 3) := by decide +kernel
theorem dX6_areAlike_17 : decode cX6_areAlike 17 = .ok (.iload 4, 2) := by decide +kernel
theorem dX6_areAlike_19 : decode cX6_areAlike 19 = .ok (.ifCond .eq 28, 3) := by decide +kernel
theorem dX6_areAlike_22 : decode cX6_areAlike 22 = .ok (.aload_n 0, 1) := by decide +kernel
theorem dX6_areAlike_23 : decode cX6_areAlike 23 = .ok (.iload_n 1, 1) := by decide +kernel
theorem dX6_areAlike_24 : decode cX6_areAlike 24 = .ok (.iload 5, 2) := by decide +kernel
theorem dX6_areAlike_26 : decode cX6_areAlike 26 = .ok (.iload_n 2, 1) := by decide +kernel
theorem dX6_areAlike_27 : decode cX6_areAlike 27 = .ok (.iadd, 1) := by decide +kernel
theorem dX6_areAlike_28 : decode cX6_areAlike 28 = .ok (.invokevirtual 104, 3) := by decide +kernel
theorem dX6_areAlike_31 : decode cX6_areAlike 31 = .ok (.aload_n 0, 1) := by decide +kernel
theorem dX6_areAlike_32 : decode cX6_areAlike 32 = .ok (.iload_n 1, 1) := by decide +kernel
theorem dX6_areAlike_33 : decode cX6_areAlike 33 = .ok (.iload 5, 2) := by decide +kernel
theorem dX6_areAlike_35 : decode cX6_areAlike 35 = .ok (.iload_n 3, 1) := by decide +kernel
theorem dX6_areAlike_36 : decode cX6_areAlike 36 = .ok (.iadd, 1) := by decide +kernel
theorem dX6_areAlike_37 : decode cX6_areAlike 37 = .ok (.invokevirtual 104, 3) := by decide +kernel
theorem dX6_areAlike_40 : decode cX6_areAlike 40 = .ok (.if_icmp .ne 7, 3) := by decide +kernel
theorem dX6_areAlike_43 : decode cX6_areAlike 43 = .ok (.iconst 1, 1) := by decide +kernel
theorem dX6_areAlike_44 : decode cX6_areAlike 44 = .ok (.goto 4, 3) := by decide +kernel
theorem dX6_areAlike_47 : decode cX6_areAlike 47 = .ok (.iconst 0, 1) := by decide +kernel
theorem dX6_areAlike_48 : decode cX6_areAlike 48 = .ok (.istore 4, 2) := by decide +kernel
theorem dX6_areAlike_50 : decode cX6_areAlike 50 = .ok (.iload 5, 2) := by decide +kernel
theorem dX6_areAlike_52 : decode cX6_areAlike 52 = .ok (.aload_n 0, 1) := by decide +kernel
theorem dX6_areAlike_53 : decode cX6_areAlike 53 = .ok (.getfield 147, 3) := by decide +kernel
theorem dX6_areAlike_56 : decode cX6_areAlike 56 = .ok (.iadd, 1) := by decide +kernel
theorem dX6_areAlike_57 : decode cX6_areAlike 57 = .ok (.istore 5, 2) := by decide +kernel
theorem dX6_areAlike_59 : decode cX6_areAlike 59 = .ok (.goto (-53), 3) := by decide +kernel
theorem dX6_areAlike_62 : decode cX6_areAlike 62 = .ok (.iload 4, 2) := by decide +kernel
theorem dX6_areAlike_64 : decode cX6_areAlike 64 = .ok (.ireturn, 1) := by decide +kernel
theorem dX6_houses_0 : decode cX6_houses 0 = .ok (.aload_n 0, 1) := by decide +kernel
theorem dX6_houses_1 : decode cX6_houses 1 = .ok (.iload_n 1, 1) := by decide +kernel
theorem dX6_houses_2 : decode cX6_houses 2 = .ok (.iconst 1, 1) := by decide +kernel
theorem dX6_houses_3 : decode cX6_houses 3 = .ok (.invokevirtual 276, 3) := by decide +kernel
theorem dX6_houses_6 : decode cX6_houses 6 = .ok (.istore_n 2, 1) := by decide +kernel
theorem dX6_houses_7 : decode cX6_houses 7 = .ok (.iload_n 2, 1) := by decide +kernel
theorem dX6_houses_8 : decode cX6_houses 8 = .ok (.ifCond .ge 5, 3) := by decide +kernel
theorem dX6_houses_11 : decode cX6_houses 11 = .ok (.iload_n 2, 1) := by decide +kernel
theorem dX6_houses_12 : decode cX6_houses 12 = .ok (.ireturn, 1) := by decide +kernel
theorem dX6_houses_13 : decode cX6_houses 13 = .ok (.iconst 0, 1) := by decide +kernel
theorem dX6_houses_14 : decode cX6_houses 14 = .ok (.istore_n 3, 1) := by decide +kernel
theorem dX6_houses_15 : decode cX6_houses 15 = .ok (.iconst 0, 1) := by decide +kernel
theorem dX6_houses_16 : decode cX6_houses 16 = .ok (.istore 4, 2) := by decide +kernel
theorem dX6_houses_18 : decode cX6_houses 18 = .ok (.iconst 0, 1) := by decide +kernel
theorem dX6_houses_19 : decode cX6_houses 19 = .ok (.istore 5, 2) := by decide +kernel
theorem dX6_houses_21 : decode cX6_houses 21 = .ok (.iload 5, 2) := by decide +kernel
theorem dX6_houses_23 : decode cX6_houses 23 = .ok (.aload_n 0, 1) := by decide +kernel
theorem dX6_houses_24 : decode cX6_houses 24 = .ok (.getfield 147, 3) := by decide +kernel
theorem dX6_houses_27 : decode cX6_houses 27 = .ok (.if_icmp .ge 54, 3) := by decide +kernel
theorem dX6_houses_30 : decode cX6_houses 30 = .ok (.iconst 0, 1) := by decide +kernel
theorem dX6_houses_31 : decode cX6_houses 31 = .ok (.istore 6, 2) := by decide +kernel
theorem dX6_houses_33 : decode cX6_houses 33 = .ok (.iload 6, 2) := by decide +kernel
theorem dX6_houses_35 : decode cX6_houses 35 = .ok (.iload 5, 2) := by decide +kernel
theorem dX6_houses_37 : decode cX6_houses 37 = .ok (.if_icmp .ge 38, 3) := by decide +kernel
theorem dX6_houses_40 : decode cX6_houses 40 = .ok (.aload_n 0, 1) := by decide +kernel
theorem dX6_houses_41 : decode cX6_houses 41 = .ok (.iload_n 1, 1) := by decide +kernel
theorem dX6_houses_42 : decode cX6_houses 42 = .ok (.iload 5, 2) := by decide +kernel
theorem dX6_houses_44 : decode cX6_houses 44 = .ok (.iload 6, 2) := by decide +kernel
theorem dX6_houses_46 : decode cX6_houses 46 = .ok (.invokevirtual 280, 3) := by decide +kernel
theorem dX6_houses_49 : decode cX6_houses 49 = .ok (.ifCond .eq 20, 3) := by decide +kernel
theorem dX6_houses_52 : decode cX6_houses 52 = .ok (.iinc 3 1, 3) := by decide +kernel
theorem dX6_houses_55 : decode cX6_houses 55 = .ok (.iload 4, 2) := by decide +kernel
theorem dX6_houses_57 : decode cX6_houses 57 = .ok (.iconst 1, 1) := by decide +kernel
theorem dX6_houses_58 : decode cX6_houses 58 = .ok (.iload 5, 2) := by decide +kernel
theorem dX6_houses_60 : decode cX6_houses 60 = .ok (.ishl, 1) := by decide +kernel
theorem dX6_houses_61 : decode cX6_houses 61 = .ok (.iconst 1, 1) := by decide +kernel
theorem dX6_houses_62 : decode cX6_houses 62 = .ok (.iload 6, 2) := by decide +kernel
theorem dX6_houses_64 : decode cX6_houses 64 = .ok (.ishl, 1) := by decide +kernel
theorem dX6_houses_65 : decode cX6_houses 65 = .ok (.ior, 1) := by decide +kernel
theorem dX6_houses_66 : decode cX6_houses 66 = .ok (.ior, 1) := by decide +kernel
theorem dX6_houses_67 : decode cX6_houses 67 = .ok (.istore 4, 2) := by decide +kernel
theorem dX6_houses_69 : decode cX6_houses 69 = .ok (.iinc 6 1, 3) := by decide +kernel
theorem dX6_houses_72 : decode cX6_houses 72 = .ok (.goto (-39), 3) := by decide +kernel
theorem dX6_houses_75 : decode cX6_houses 75 = .ok (.iinc 5 1, 3) := by decide +kernel
theorem dX6_houses_78 : decode cX6_houses 78 = .ok (.goto (-57), 3) := by decide +kernel
theorem dX6_houses_81 : decode cX6_houses 81 = .ok (.aload_n 0, 1) := by decide +kernel
theorem dX6_houses_82 : decode cX6_houses 82 = .ok (.iload 4, 2) := by decide +kernel
theorem dX6_houses_84 : decode cX6_houses 84 = .ok (.iload_n 3, 1) := by decide +kernel
theorem dX6_houses_85 : decode cX6_houses 85 = .ok (.invokevirtual 108, 3) := by decide +kernel
theorem dX6_houses_88 : decode cX6_houses 88 = .ok (.ireturn, 1) := by decide +kernel
theorem dX6_isBy_0 : decode cX6_isBy 0 = .ok (.iload_n 1, 1) := by decide +kernel
theorem dX6_isBy_1 : decode cX6_isBy 1 = .ok (.tableswitch 76 0 2 #[27, 38, 59], 27) := by decide +kernel
theorem dX6_isBy_28 : decode cX6_isBy 28 = .ok (.iload_n 2, 1) := by decide +kernel
theorem dX6_isBy_29 : decode cX6_isBy 29 = .ok (.iload_n 3, 1) := by decide +kernel
theorem dX6_isBy_30 : decode cX6_isBy 30 = .ok (.if_icmp .ne 7, 3) := by decide +kernel
theorem dX6_isBy_33 : decode cX6_isBy 33 = .ok (.iconst 1, 1) := by decide +kernel
theorem dX6_isBy_34 : decode cX6_isBy 34 = .ok (.goto 4, 3) := by decide +kernel
theorem dX6_isBy_37 : decode cX6_isBy 37 = .ok (.iconst 0, 1) := by decide +kernel
theorem dX6_isBy_38 : decode cX6_isBy 38 = .ok (.ireturn, 1) := by decide +kernel
theorem dX6_isBy_39 : decode cX6_isBy 39 = .ok (.iload 4, 2) := by decide +kernel
theorem dX6_isBy_41 : decode cX6_isBy 41 = .ok (.iconst 1, 1) := by decide +kernel
theorem dX6_isBy_42 : decode cX6_isBy 42 = .ok (.if_icmp .gt 12, 3) := by decide +kernel
theorem dX6_isBy_45 : decode cX6_isBy 45 = .ok (.iload_n 3, 1) := by decide +kernel
theorem dX6_isBy_46 : decode cX6_isBy 46 = .ok (.iload_n 2, 1) := by decide +kernel
theorem dX6_isBy_47 : decode cX6_isBy 47 = .ok (.iconst 1, 1) := by decide +kernel
theorem dX6_isBy_48 : decode cX6_isBy 48 = .ok (.iadd, 1) := by decide +kernel
theorem dX6_isBy_49 : decode cX6_isBy 49 = .ok (.iconst 4, 1) := by decide +kernel
theorem dX6_isBy_50 : decode cX6_isBy 50 = .ok (.irem, 1) := by decide +kernel
theorem dX6_isBy_51 : decode cX6_isBy 51 = .ok (.if_icmp .ne 7, 3) := by decide +kernel
theorem dX6_isBy_54 : decode cX6_isBy 54 = .ok (.iconst 1, 1) := by decide +kernel
theorem dX6_isBy_55 : decode cX6_isBy 55 = .ok (.goto 4, 3) := by decide +kernel
theorem dX6_isBy_58 : decode cX6_isBy 58 = .ok (.iconst 0, 1) := by decide +kernel
theorem dX6_isBy_59 : decode cX6_isBy 59 = .ok (.ireturn, 1) := by decide +kernel
theorem dX6_isBy_60 : decode cX6_isBy 60 = .ok (.iload 4, 2) := by decide +kernel
theorem dX6_isBy_62 : decode cX6_isBy 62 = .ok (.iconst 1, 1) := by decide +kernel
theorem dX6_isBy_63 : decode cX6_isBy 63 = .ok (.if_icmp .gt 8, 3) := by decide +kernel
theorem dX6_isBy_66 : decode cX6_isBy 66 = .ok (.iload_n 2, 1) := by decide +kernel
theorem dX6_isBy_67 : decode cX6_isBy 67 = .ok (.iload_n 3, 1) := by decide +kernel
theorem dX6_isBy_68 : decode cX6_isBy 68 = .ok (.if_icmp .eq 7, 3) := by decide +kernel
theorem dX6_isBy_71 : decode cX6_isBy 71 = .ok (.iconst 1, 1) := by decide +kernel
theorem dX6_isBy_72 : decode cX6_isBy 72 = .ok (.goto 4, 3) := by decide +kernel
theorem dX6_isBy_75 : decode cX6_isBy 75 = .ok (.iconst 0, 1) := by decide +kernel
theorem dX6_isBy_76 : decode cX6_isBy 76 = .ok (.ireturn, 1) := by decide +kernel
theorem dX6_isBy_77 : decode cX6_isBy 77 = .ok (.iload_n 2, 1) := by decide +kernel
theorem dX6_isBy_78 : decode cX6_isBy 78 = .ok (.iload_n 3, 1) := by decide +kernel
theorem dX6_isBy_79 : decode cX6_isBy 79 = .ok (.if_icmp .eq 7, 3) := by decide +kernel
theorem dX6_isBy_82 : decode cX6_isBy 82 = .ok (.iconst 1, 1) := by decide +kernel
theorem dX6_isBy_83 : decode cX6_isBy 83 = .ok (.goto 4, 3) := by decide +kernel
theorem dX6_isBy_86 : decode cX6_isBy 86 = .ok (.iconst 0, 1) := by decide +kernel
theorem dX6_isBy_87 : decode cX6_isBy 87 = .ok (.ireturn, 1) := by decide +kernel
theorem dX6_rule_0 : decode cX6_rule 0 = .ok (.aload_n 0, 1) := by decide +kernel
theorem dX6_rule_1 : decode cX6_rule 1 = .ok (.iload_n 1, 1) := by decide +kernel
theorem dX6_rule_2 : decode cX6_rule 2 = .ok (.iload_n 2, 1) := by decide +kernel
theorem dX6_rule_3 : decode cX6_rule 3 = .ok (.iconst 0, 1) := by decide +kernel
theorem dX6_rule_4 : decode cX6_rule 4 = .ok (.iconst 3, 1) := by decide +kernel
theorem dX6_rule_5 : decode cX6_rule 5 = .ok (.invokestatic 86, 3) := by decide +kernel
theorem dX6_rule_8 : decode cX6_rule 8 = .ok (.invokevirtual 276, 3) := by decide +kernel
theorem dX6_rule_11 : decode cX6_rule 11 = .ok (.istore_n 3, 1) := by decide +kernel
theorem dX6_rule_12 : decode cX6_rule 12 = .ok (.iload_n 3, 1) := by decide +kernel
theorem dX6_rule_13 : decode cX6_rule 13 = .ok (.ifCond .ge 5, 3) := by decide +kernel
theorem dX6_rule_16 : decode cX6_rule 16 = .ok (.iload_n 3, 1) := by decide +kernel
theorem dX6_rule_17 : decode cX6_rule 17 = .ok (.ireturn, 1) := by decide +kernel
theorem dX6_rule_18 : decode cX6_rule 18 = .ok (.iconst 0, 1) := by decide +kernel
theorem dX6_rule_19 : decode cX6_rule 19 = .ok (.istore 4, 2) := by decide +kernel
theorem dX6_rule_21 : decode cX6_rule 21 = .ok (.iconst 0, 1) := by decide +kernel
theorem dX6_rule_22 : decode cX6_rule 22 = .ok (.istore 5, 2) := by decide +kernel
theorem dX6_rule_24 : decode cX6_rule 24 = .ok (.iload 5, 2) := by decide +kernel
theorem dX6_rule_26 : decode cX6_rule 26 = .ok (.aload_n 0, 1) := by decide +kernel
theorem dX6_rule_27 : decode cX6_rule 27 = .ok (.getfield 147, 3) := by decide +kernel
theorem dX6_rule_30 : decode cX6_rule 30 = .ok (.if_icmp .ge 138, 3) := by decide +kernel
theorem dX6_rule_33 : decode cX6_rule 33 = .ok (.iconst 1, 1) := by decide +kernel
theorem dX6_rule_34 : decode cX6_rule 34 = .ok (.istore 6, 2) := by decide +kernel
theorem dX6_rule_36 : decode cX6_rule 36 = .ok (.iconst 0, 1) := by decide +kernel
theorem dX6_rule_37 : decode cX6_rule 37 = .ok (.istore 7, 2) := by decide +kernel
theorem dX6_rule_39 : decode cX6_rule 39 = .ok (.iload 7, 2) := by decide +kernel
theorem dX6_rule_41 : decode cX6_rule 41 = .ok (.aload_n 0, 1) := by decide +kernel
theorem dX6_rule_42 : decode cX6_rule 42 = .ok (.getfield 17, 3) := by decide +kernel
theorem dX6_rule_45 : decode cX6_rule 45 = .ok (.iload_n 1, 1) := by decide +kernel
theorem dX6_rule_46 : decode cX6_rule 46 = .ok (.iaload, 1) := by decide +kernel
theorem dX6_rule_47 : decode cX6_rule 47 = .ok (.if_icmp .ge 97, 3) := by decide +kernel
theorem dX6_rule_50 : decode cX6_rule 50 = .ok (.iload 7, 2) := by decide +kernel
theorem dX6_rule_52 : decode cX6_rule 52 = .ok (.aload_n 0, 1) := by decide +kernel
theorem dX6_rule_53 : decode cX6_rule 53 = .ok (.getfield 147, 3) := by decide +kernel
theorem dX6_rule_56 : decode cX6_rule 56 = .ok (.iadd, 1) := by decide +kernel
theorem dX6_rule_57 : decode cX6_rule 57 = .ok (.istore 8, 2) := by decide +kernel
theorem dX6_rule_59 : decode cX6_rule 59 = .ok (.iload 8, 2) := by decide +kernel
theorem dX6_rule_61 : decode cX6_rule 61 = .ok (.aload_n 0, 1) := by decide +kernel
theorem dX6_rule_62 : decode cX6_rule 62 = .ok (.getfield 17, 3) := by decide +kernel
theorem dX6_rule_65 : decode cX6_rule 65 = .ok (.iload_n 1, 1) := by decide +kernel
theorem dX6_rule_66 : decode cX6_rule 66 = .ok (.iaload, 1) := by decide +kernel
theorem dX6_rule_67 : decode cX6_rule 67 = .ok (.if_icmp .ge 65, 3) := by decide +kernel
theorem dX6_rule_70 : decode cX6_rule 70 = .ok (.iload 6, 2) := by decide +kernel
theorem dX6_rule_72 : decode cX6_rule 72 = .ok (.ifCond .eq 45, 3) := by decide +kernel
theorem dX6_rule_75 : decode cX6_rule 75 = .ok (.aload_n 0, 1) := by decide +kernel
theorem dX6_rule_76 : decode cX6_rule 76 = .ok (.iload_n 2, 1) := by decide +kernel
theorem dX6_rule_77 : decode cX6_rule 77 = .ok (.aload_n 0, 1) := by decide +kernel
theorem dX6_rule_78 : decode cX6_rule 78 = .ok (.iload_n 1, 1) := by decide +kernel
theorem dX6_rule_79 : decode cX6_rule 79 = .ok (.iload 7, 2) := by decide +kernel
theorem dX6_rule_81 : decode cX6_rule 81 = .ok (.iload 5, 2) := by decide +kernel
theorem dX6_rule_83 : decode cX6_rule 83 = .ok (.iadd, 1) := by decide +kernel
theorem dX6_rule_84 : decode cX6_rule 84 = .ok (.invokevirtual 104, 3) := by decide +kernel
theorem dX6_rule_87 : decode cX6_rule 87 = .ok (.aload_n 0, 1) := by decide +kernel
theorem dX6_rule_88 : decode cX6_rule 88 = .ok (.iload_n 1, 1) := by decide +kernel
theorem dX6_rule_89 : decode cX6_rule 89 = .ok (.iload 8, 2) := by decide +kernel
theorem dX6_rule_91 : decode cX6_rule 91 = .ok (.iload 5, 2) := by decide +kernel
theorem dX6_rule_93 : decode cX6_rule 93 = .ok (.iadd, 1) := by decide +kernel
theorem dX6_rule_94 : decode cX6_rule 94 = .ok (.invokevirtual 104, 3) := by decide +kernel
theorem dX6_rule_97 : decode cX6_rule 97 = .ok (.iload 8, 2) := by decide +kernel
theorem dX6_rule_99 : decode cX6_rule 99 = .ok (.iload 7, 2) := by decide +kernel
theorem dX6_rule_101 : decode cX6_rule 101 = .ok (.isub, 1) := by decide +kernel
theorem dX6_rule_102 : decode cX6_rule 102 = .ok (.aload_n 0, 1) := by decide +kernel
theorem dX6_rule_103 : decode cX6_rule 103 = .ok (.getfield 147, 3) := by decide +kernel
theorem dX6_rule_106 : decode cX6_rule 106 = .ok (.idiv, 1) := by decide +kernel
theorem dX6_rule_107 : decode cX6_rule 107 = .ok (.invokevirtual 283, 3) := by decide +kernel
theorem dX6_rule_110 : decode cX6_rule 110 = .ok (.ifCond .eq 7, 3) := by decide +kernel
theorem dX6_rule_113 : decode cX6_rule 113 = .ok (.iconst 1, 1) := by decide +kernel
theorem dX6_rule_114 : decode cX6_rule 114 = .ok (.goto 4, 3) := by decide +kernel
theorem dX6_rule_117 : decode cX6_rule 117 = .ok (.iconst 0, 1) := by decide +kernel
theorem dX6_rule_118 : decode cX6_rule 118 = .ok (.istore 6, 2) := by decide +kernel
theorem dX6_rule_120 : decode cX6_rule 120 = .ok (.iload 8, 2) := by decide +kernel
theorem dX6_rule_122 : decode cX6_rule 122 = .ok (.aload_n 0, 1) := by decide +kernel
theorem dX6_rule_123 : decode cX6_rule 123 = .ok (.getfield 147, 3) := by decide +kernel
theorem dX6_rule_126 : decode cX6_rule 126 = .ok (.iadd, 1) := by decide +kernel
theorem dX6_rule_127 : decode cX6_rule 127 = .ok (.istore 8, 2) := by decide +kernel
theorem dX6_rule_129 : decode cX6_rule 129 = .ok (.goto (-70), 3) := by decide +kernel
theorem dX6_rule_132 : decode cX6_rule 132 = .ok (.iload 7, 2) := by decide +kernel
theorem dX6_rule_134 : decode cX6_rule 134 = .ok (.aload_n 0, 1) := by decide +kernel
theorem dX6_rule_135 : decode cX6_rule 135 = .ok (.getfield 147, 3) := by decide +kernel
theorem dX6_rule_138 : decode cX6_rule 138 = .ok (.iadd, 1) := by decide +kernel
theorem dX6_rule_139 : decode cX6_rule 139 = .ok (.istore 7, 2) := by decide +kernel
theorem dX6_rule_141 : decode cX6_rule 141 = .ok (.goto (-102), 3) := by decide +kernel
theorem dX6_rule_144 : decode cX6_rule 144 = .ok (.iload 4, 2) := by decide +kernel
theorem dX6_rule_146 : decode cX6_rule 146 = .ok (.iload 6, 2) := by decide +kernel
theorem dX6_rule_148 : decode cX6_rule 148 = .ok (.ifCond .eq 10, 3) := by decide +kernel
theorem dX6_rule_151 : decode cX6_rule 151 = .ok (.iconst 1, 1) := by decide +kernel
theorem dX6_rule_152 : decode cX6_rule 152 = .ok (.iload 5, 2) := by decide +kernel
theorem dX6_rule_154 : decode cX6_rule 154 = .ok (.ishl, 1) := by decide +kernel
theorem dX6_rule_155 : decode cX6_rule 155 = .ok (.goto 4, 3) := by decide +kernel
theorem dX6_rule_158 : decode cX6_rule 158 = .ok (.iconst 0, 1) := by decide +kernel
theorem dX6_rule_159 : decode cX6_rule 159 = .ok (.ior, 1) := by decide +kernel
theorem dX6_rule_160 : decode cX6_rule 160 = .ok (.istore 4, 2) := by decide +kernel
theorem dX6_rule_162 : decode cX6_rule 162 = .ok (.iinc 5 1, 3) := by decide +kernel
theorem dX6_rule_165 : decode cX6_rule 165 = .ok (.goto (-141), 3) := by decide +kernel
theorem dX6_rule_168 : decode cX6_rule 168 = .ok (.iload 4, 2) := by decide +kernel
theorem dX6_rule_170 : decode cX6_rule 170 = .ok (.ireturn, 1) := by decide +kernel
theorem dX6_broken_0 : decode cX6_broken 0 = .ok (.aload_n 0, 1) := by decide +kernel
theorem dX6_broken_1 : decode cX6_broken 1 = .ok (.iload_n 1, 1) := by decide +kernel
theorem dX6_broken_2 : decode cX6_broken 2 = .ok (.iconst 1, 1) := by decide +kernel
theorem dX6_broken_3 : decode cX6_broken 3 = .ok (.invokevirtual 276, 3) := by decide +kernel
theorem dX6_broken_6 : decode cX6_broken 6 = .ok (.istore_n 2, 1) := by decide +kernel
theorem dX6_broken_7 : decode cX6_broken 7 = .ok (.iload_n 2, 1) := by decide +kernel
theorem dX6_broken_8 : decode cX6_broken 8 = .ok (.ifCond .ge 5, 3) := by decide +kernel
theorem dX6_broken_11 : decode cX6_broken 11 = .ok (.iload_n 2, 1) := by decide +kernel
theorem dX6_broken_12 : decode cX6_broken 12 = .ok (.ireturn, 1) := by decide +kernel
theorem dX6_broken_13 : decode cX6_broken 13 = .ok (.iconst 0, 1) := by decide +kernel
theorem dX6_broken_14 : decode cX6_broken 14 = .ok (.istore_n 3, 1) := by decide +kernel
theorem dX6_broken_15 : decode cX6_broken 15 = .ok (.iload_n 3, 1) := by decide +kernel
theorem dX6_broken_16 : decode cX6_broken 16 = .ok (.aload_n 0, 1) := by decide +kernel
theorem dX6_broken_17 : decode cX6_broken 17 = .ok (.getfield 17, 3) := by decide +kernel
theorem dX6_broken_20 : decode cX6_broken 20 = .ok (.iload_n 1, 1) := by decide +kernel
theorem dX6_broken_21 : decode cX6_broken 21 = .ok (.iaload, 1) := by decide +kernel
theorem dX6_broken_22 : decode cX6_broken 22 = .ok (.if_icmp .ge 29, 3) := by decide +kernel
theorem dX6_broken_25 : decode cX6_broken 25 = .ok (.aload_n 0, 1) := by decide +kernel
theorem dX6_broken_26 : decode cX6_broken 26 = .ok (.iload_n 1, 1) := by decide +kernel
theorem dX6_broken_27 : decode cX6_broken 27 = .ok (.iload_n 3, 1) := by decide +kernel
theorem dX6_broken_28 : decode cX6_broken 28 = .ok (.invokevirtual 193, 3) := by decide +kernel
theorem dX6_broken_31 : decode cX6_broken 31 = .ok (.ifCond .ne 10, 3) := by decide +kernel
theorem dX6_broken_34 : decode cX6_broken 34 = .ok (.iload_n 3, 1) := by decide +kernel
theorem dX6_broken_35 : decode cX6_broken 35 = .ok (.aload_n 0, 1) := by decide +kernel
theorem dX6_broken_36 : decode cX6_broken 36 = .ok (.getfield 147, 3) := by decide +kernel
theorem dX6_broken_39 : decode cX6_broken 39 = .ok (.idiv, 1) := by decide +kernel
theorem dX6_broken_40 : decode cX6_broken 40 = .ok (.ireturn, 1) := by decide +kernel
theorem dX6_broken_41 : decode cX6_broken 41 = .ok (.iload_n 3, 1) := by decide +kernel
theorem dX6_broken_42 : decode cX6_broken 42 = .ok (.aload_n 0, 1) := by decide +kernel
theorem dX6_broken_43 : decode cX6_broken 43 = .ok (.getfield 147, 3) := by decide +kernel
theorem dX6_broken_46 : decode cX6_broken 46 = .ok (.iadd, 1) := by decide +kernel
theorem dX6_broken_47 : decode cX6_broken 47 = .ok (.istore_n 3, 1) := by decide +kernel
theorem dX6_broken_48 : decode cX6_broken 48 = .ok (.goto (-33), 3) := by decide +kernel
theorem dX6_broken_51 : decode cX6_broken 51 = .ok (.bipush (-9), 2) := by decide +kernel
theorem dX6_broken_53 : decode cX6_broken 53 = .ok (.ireturn, 1) := by decide +kernel
theorem dX6_understand_0 : decode cX6_understand 0 = .ok (.iconst 0, 1) := by decide +kernel
theorem dX6_understand_1 : decode cX6_understand 1 = .ok (.istore_n 3, 1) := by decide +kernel
theorem dX6_understand_2 : decode cX6_understand 2 = .ok (.iconst 0, 1) := by decide +kernel
theorem dX6_understand_3 : decode cX6_understand 3 = .ok (.istore 4, 2) := by decide +kernel
theorem dX6_understand_5 : decode cX6_understand 5 = .ok (.iload 4, 2) := by decide +kernel
theorem dX6_understand_7 : decode cX6_understand 7 = .ok (.aload_n 0, 1) := by decide +kernel
theorem dX6_understand_8 : decode cX6_understand 8 = .ok (.getfield 147, 3) := by decide +kernel
theorem dX6_understand_11 : decode cX6_understand 11 = .ok (.if_icmp .ge 44, 3) := by decide +kernel
theorem dX6_understand_14 : decode cX6_understand 14 = .ok (.iload_n 3, 1) := by decide +kernel
theorem dX6_understand_15 : decode cX6_understand 15 = .ok (.aload_n 0, 1) := by decide +kernel
theorem dX6_understand_16 : decode cX6_understand 16 = .ok (.aload_n 1, 1) := by decide +kernel
theorem dX6_understand_17 : decode cX6_understand 17 = .ok (.iload 4, 2) := by decide +kernel
theorem dX6_understand_19 : decode cX6_understand 19 = .ok (.invokevirtual 163, 3) := by decide +kernel
theorem dX6_understand_22 : decode cX6_understand 22 = .ok (.ifCond .ne 24, 3) := by decide +kernel
theorem dX6_understand_25 : decode cX6_understand 25 = .ok (.aload_n 0, 1) := by decide +kernel
theorem dX6_understand_26 : decode cX6_understand 26 = .ok (.aload_n 1, 1) := by decide +kernel
theorem dX6_understand_27 : decode cX6_understand 27 = .ok (.iload 4, 2) := by decide +kernel
theorem dX6_understand_29 : decode cX6_understand 29 = .ok (.invokevirtual 167, 3) := by decide +kernel
theorem dX6_understand_32 : decode cX6_understand 32 = .ok (.iload_n 2, 1) := by decide +kernel
theorem dX6_understand_33 : decode cX6_understand 33 = .ok (.invokestatic 123, 3) := by decide +kernel
theorem dX6_understand_36 : decode cX6_understand 36 = .ok (.ifCond .eq 10, 3) := by decide +kernel
theorem dX6_understand_39 : decode cX6_understand 39 = .ok (.iconst 1, 1) := by decide +kernel
theorem dX6_understand_40 : decode cX6_understand 40 = .ok (.iload 4, 2) := by decide +kernel
theorem dX6_understand_42 : decode cX6_understand 42 = .ok (.ishl, 1) := by decide +kernel
theorem dX6_understand_43 : decode cX6_understand 43 = .ok (.goto 4, 3) := by decide +kernel
theorem dX6_understand_46 : decode cX6_understand 46 = .ok (.iconst 0, 1) := by decide +kernel
theorem dX6_understand_47 : decode cX6_understand 47 = .ok (.ior, 1) := by decide +kernel
theorem dX6_understand_48 : decode cX6_understand 48 = .ok (.istore_n 3, 1) := by decide +kernel
theorem dX6_understand_49 : decode cX6_understand 49 = .ok (.iinc 4 1, 3) := by decide +kernel
theorem dX6_understand_52 : decode cX6_understand 52 = .ok (.goto (-47), 3) := by decide +kernel
theorem dX6_understand_55 : decode cX6_understand 55 = .ok (.iload_n 3, 1) := by decide +kernel
theorem dX6_understand_56 : decode cX6_understand 56 = .ok (.ireturn, 1) := by decide +kernel
theorem dX6_isSet_0 : decode cX6_isSet 0 = .ok (.iload_n 1, 1) := by decide +kernel
theorem dX6_isSet_1 : decode cX6_isSet 1 = .ok (.iconst 0, 1) := by decide +kernel
theorem dX6_isSet_2 : decode cX6_isSet 2 = .ok (.aload_n 0, 1) := by decide +kernel
theorem dX6_isSet_3 : decode cX6_isSet 3 = .ok (.invokevirtual 217, 3) := by decide +kernel
theorem dX6_isSet_6 : decode cX6_isSet 6 = .ok (.invokestatic 86, 3) := by decide +kernel
theorem dX6_isSet_9 : decode cX6_isSet 9 = .ok (.ireturn, 1) := by decide +kernel
theorem dX6_shouted_0 : decode cX6_shouted 0 = .ok (.aload_n 0, 1) := by decide +kernel
theorem dX6_shouted_1 : decode cX6_shouted 1 = .ok (.iload_n 1, 1) := by decide +kernel
theorem dX6_shouted_2 : decode cX6_shouted 2 = .ok (.invokevirtual 286, 3) := by decide +kernel
theorem dX6_shouted_5 : decode cX6_shouted 5 = .ok (.ifCond .ne 5, 3) := by decide +kernel
theorem dX6_shouted_8 : decode cX6_shouted 8 = .ok (.iconst (-1), 1) := by decide +kernel
theorem dX6_shouted_9 : decode cX6_shouted 9 = .ok (.ireturn, 1) := by decide +kernel
theorem dX6_shouted_10 : decode cX6_shouted 10 = .ok (.iconst 0, 1) := by decide +kernel
theorem dX6_shouted_11 : decode cX6_shouted 11 = .ok (.istore_n 2, 1) := by decide +kernel
theorem dX6_shouted_12 : decode cX6_shouted 12 = .ok (.iconst 0, 1) := by decide +kernel
theorem dX6_shouted_13 : decode cX6_shouted 13 = .ok (.istore_n 3, 1) := by decide +kernel
theorem dX6_shouted_14 : decode cX6_shouted 14 = .ok (.iload_n 3, 1) := by decide +kernel
theorem dX6_shouted_15 : decode cX6_shouted 15 = .ok (.iconst 4, 1) := by decide +kernel
theorem dX6_shouted_16 : decode cX6_shouted 16 = .ok (.if_icmp .ge 32, 3) := by decide +kernel
theorem dX6_shouted_19 : decode cX6_shouted 19 = .ok (.iload_n 2, 1) := by decide +kernel
theorem dX6_shouted_20 : decode cX6_shouted 20 = .ok (.aload_n 0, 1) := by decide +kernel
theorem dX6_shouted_21 : decode cX6_shouted 21 = .ok (.aload_n 0, 1) := by decide +kernel
theorem dX6_shouted_22 : decode cX6_shouted 22 = .ok (.getfield 48, 3) := by decide +kernel
theorem dX6_shouted_25 : decode cX6_shouted 25 = .ok (.iload_n 3, 1) := by decide +kernel
theorem dX6_shouted_26 : decode cX6_shouted 26 = .ok (.invokevirtual 289, 3) := by decide +kernel
theorem dX6_shouted_29 : decode cX6_shouted 29 = .ok (.iload_n 1, 1) := by decide +kernel
theorem dX6_shouted_30 : decode cX6_shouted 30 = .ok (.if_icmp .ne 9, 3) := by decide +kernel
theorem dX6_shouted_33 : decode cX6_shouted 33 = .ok (.iconst 1, 1) := by decide +kernel
theorem dX6_shouted_34 : decode cX6_shouted 34 = .ok (.iload_n 3, 1) := by decide +kernel
theorem dX6_shouted_35 : decode cX6_shouted 35 = .ok (.ishl, 1) := by decide +kernel
theorem dX6_shouted_36 : decode cX6_shouted 36 = .ok (.goto 4, 3) := by decide +kernel
theorem dX6_shouted_39 : decode cX6_shouted 39 = .ok (.iconst 0, 1) := by decide +kernel
theorem dX6_shouted_40 : decode cX6_shouted 40 = .ok (.ior, 1) := by decide +kernel
theorem dX6_shouted_41 : decode cX6_shouted 41 = .ok (.istore_n 2, 1) := by decide +kernel
theorem dX6_shouted_42 : decode cX6_shouted 42 = .ok (.iinc 3 1, 3) := by decide +kernel
theorem dX6_shouted_45 : decode cX6_shouted 45 = .ok (.goto (-31), 3) := by decide +kernel
